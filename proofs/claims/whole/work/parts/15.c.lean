/-! ===== each call, on ===== -/
section TX
variable {n : Nat} {s : Zs} {μ μ' : Mem}
theorem layC (hn : 400 ≤ n) (hs : SOk s) (hc : CI s μ) : ∃ ν, fX0_lay n 2 μ = some ((), ν) ∧ NK (zv s) ν ∧ fr 42 47 μ ν ∧ fC μ ν := by
  obtain ⟨ν, q, g1, g2⟩ := p0_lay (n := n) (by omega) hs.1.1 (k := 2) (by decide) hc.1
  exact ⟨ν, q, g1, g2, fC_net g2 (by decide) (by decide)⟩
theorem tw_few (hn : 400 ≤ n) (hs : SOk s) (hc : CI s μ) (hm : MI s μ') (a b : Int32) : D μ μ' (fX4_few n a b μ) (fX5_few n a b μ') := by
  have h8 := hs.1.1.1
  unfold fX4_few fX5_few
  simp only [bnd]
  rcases stO (n := n) hs a with ⟨i, hi, e, g1, g2⟩ | ⟨g1, g2⟩
  · subst e
    rw [g1 2 μ hc.1, g2 μ' hm.1, bd_some, bd_some, if_neg z1, if_neg z1]
    rcases stO (n := n) hs b with ⟨j, hj, e, k1, k2⟩ | ⟨k1, k2⟩
    · subst e
      obtain ⟨ν, q, w1, w2, w3⟩ := layC hn hs hc
      rw [k1 2 μ hc.1, k2 μ' hm.1, bd_some, bd_some, if_neg z1, if_neg z1, q, bd_some, p0_few (by omega) hs.1.1 w1 hi hj, bd_some, jshl1 i (by omega), lit_0, p5_few (by omega) hs.1.1 hm.1 hi hj, few_eq (rb_lt hs.1.1) h8 hi]
      exact D_same hs hc hm _ ⟨ν, rfl, w3⟩ ⟨μ', rfl, hm.1, fM_rf⟩
    · rw [k1 2 μ hc.1, k2 μ' hm.1, bd_some, bd_some, if_pos z0, if_pos z0]
      exact D_ref hs hc hm (c := 1) (by decide)
  · rw [g1 2 μ hc.1, g2 μ' hm.1, bd_some, bd_some, if_pos z0, if_pos z0]
    exact D_ref hs hc hm (c := 1) (by decide)
theorem tw_ways (hn : 400 ≤ n) (hs : SOk s) (hc : CI s μ) (hm : MI s μ') (a b t : Int32) : D μ μ' (fX4_ways n a b t μ) (fX5_ways n a b t μ') := by
  have h8 := hs.1.1.1
  unfold fX4_ways fX5_ways fX5_bound
  rcases stO (n := n) hs a with ⟨i, hi, e, g1, g2⟩ | ⟨g1, g2⟩
  · subst e
    rw [g1 2 μ hc.1, g2 μ' hm.1, bd_some, bd_some, if_neg z1, if_neg z1]
    rcases stO (n := n) hs b with ⟨j, hj, e, k1, k2⟩ | ⟨k1, k2⟩
    · subst e
      rw [k1 2 μ hc.1, k2 μ' hm.1, bd_some, bd_some, if_neg z1, if_neg z1]
      rcases tri t 0 20 0 20 rfl rfl (by decide) (by decide) (by decide) with ⟨h1, h2⟩ | ⟨l, h1, h2, e, h3, h4, h5, h6⟩ | ⟨l, h1, h2, e, h3, h4, h5, h6⟩
      · rw [if_neg h2, if_neg h2, bd_some, if_neg (by decide)]
        exact D_refL hs hc hm (c := 4) (by decide)
      · obtain ⟨ν, q, w1, w2, w3⟩ := layC hn hs hc
        rw [if_pos h3, if_pos h4, if_pos h3, if_pos h4, bd_some, if_pos rfl, q, bd_some, e]
        obtain ⟨ξ, q2, w4⟩ := p0_ways (n := n) (by omega) hs.1.1 w1 hi hj h2
        obtain ⟨ζ, q3, w5, w6⟩ := p5_begin (n := n) (by omega) hs.1.1 hm.1 hi
        obtain ⟨η, q4, w7⟩ := p5_ways (n := n) (a := i) (by omega) hs.1.1 (MV_fr w6 (Or.inr (by decide)) hm.1) hj h2 w5
        rw [q2, bd_some, q3, bd_some, lit_0, q4]
        exact D_same hs hc hm _ ⟨ξ, rfl, fC_tr w3 (fC_net w4 (by decide) (by decide))⟩ ⟨η, rfl, MV_fr (fr_tr w6 w7) (Or.inr (by decide)) hm.1, fM_59 (fr_tr w6 w7) (by decide) (by decide)⟩
      · rw [if_pos h3, if_neg h4, if_pos h3, if_neg h4, bd_some, if_neg (by decide)]
        exact D_refL hs hc hm (c := 6) (by decide)
    · rw [k1 2 μ hc.1, k2 μ' hm.1, bd_some, bd_some, if_pos z0, if_pos z0]
      exact D_refL hs hc hm (c := 1) (by decide)
  · rw [g1 2 μ hc.1, g2 μ' hm.1, bd_some, bd_some, if_pos z0, if_pos z0]
    exact D_refL hs hc hm (c := 1) (by decide)
theorem tw_whither (hn : 400 ≤ n) (hs : SOk s) (hc : CI s μ) (hm : MI s μ') (a : Int32) : D μ μ' (fX4_whither n a μ) (fX5_whither n a μ') := by
  have h8 := hs.1.1.1
  unfold fX4_whither fX5_whither
  rcases stO (n := n) hs a with ⟨i, hi, e, g1, g2⟩ | ⟨g1, g2⟩
  · subst e
    obtain ⟨ν, q, w1, w2, w3⟩ := layC hn hs hc
    rw [g1 2 μ hc.1, g2 μ' hm.1, bd_some, bd_some, if_neg z1, if_neg z1, q, bd_some, inb_nI (by omega) (by decide), gd_true, nI_clamp (by omega), (w1.2 i hi).2, p5_whither (by omega) hs.1.1 hm.1 hi, bd_some]
    exact D_same hs hc hm _ ⟨ν, rfl, w3⟩ ⟨μ', rfl, hm.1, fM_rf⟩
  · rw [g1 2 μ hc.1, g2 μ' hm.1, bd_some, bd_some, if_pos z0, if_pos z0]
    exact D_ref hs hc hm (c := 1) (by decide)
theorem tw_whence (hn : 400 ≤ n) (hs : SOk s) (hc : CI s μ) (hm : MI s μ') (a : Int32) : D μ μ' (fX4_whence n a μ) (fX5_whence n a μ') := by
  have h8 := hs.1.1.1
  unfold fX4_whence fX5_whence
  rcases stO (n := n) hs a with ⟨i, hi, e, g1, g2⟩ | ⟨g1, g2⟩
  · subst e
    obtain ⟨ν, q, w1, w2, w3⟩ := layC hn hs hc
    rw [g1 2 μ hc.1, g2 μ' hm.1, bd_some, bd_some, if_neg z1, if_neg z1, q, bd_some, p0_comers (by omega) hs.1.1 w1 hi, bd_some, p5_whence (by omega) hs.1.1 hm.1 hi, bd_some]
    exact D_same hs hc hm _ ⟨ν, rfl, w3⟩ ⟨μ', rfl, hm.1, fM_rf⟩
  · rw [g1 2 μ hc.1, g2 μ' hm.1, bd_some, bd_some, if_pos z0, if_pos z0]
    exact D_ref hs hc hm (c := 1) (by decide)
theorem tw_blind (hn : 400 ≤ n) (hs : SOk s) (hc : CI s μ) (hm : MI s μ') : D μ μ' (fX4_blind n μ) (fX5_blind n μ') := by
  unfold fX4_blind
  obtain ⟨ν, q, w1, w2, w3⟩ := layC hn hs hc
  rw [q, bd_some, p0_blind (by omega) hs.1.1 w1, bd_some, p5_blind (by omega) hs.1.1 hm.1]
  exact D_same hs hc hm _ ⟨ν, rfl, w3⟩ ⟨μ', rfl, hm.1, fM_rf⟩
theorem tw_dead (hn : 400 ≤ n) (hs : SOk s) (hc : CI s μ) (hm : MI s μ') : D μ μ' (fX4_dead n μ) (fX5_dead n μ') := by
  unfold fX4_dead
  obtain ⟨ν, q, w1, w2, w3⟩ := layC hn hs hc
  rw [q, bd_some, p0_dead (by omega) hs.1.1 w1, bd_some, p5_dead (by omega) hs.1.1 hm.1]
  exact D_same hs hc hm _ ⟨ν, rfl, w3⟩ ⟨μ', rfl, hm.1, fM_rf⟩
theorem tw_parts (hn : 400 ≤ n) (hs : SOk s) (hc : CI s μ) (hm : MI s μ') (a : Int32) : D μ μ' (fX4_parts n a μ) (fX5_parts n a μ') := by
  have h8 := hs.1.1.1
  obtain ⟨ν, q, w1, w2, w3⟩ := layC hn hs hc
  unfold fX4_parts fX5_parts
  simp only [bnd]
  by_cases h1 : a = -1
  · rw [if_pos h1, if_pos h1, q, bd_some, if_pos h1, p0_parts (by omega) hs.1.1 w1, bd_some, if_pos (show a < 0 by rw [h1]; decide), p5_parts (by omega) hs.1.1 hm.1]
    exact D_same hs hc hm _ ⟨ν, rfl, w3⟩ ⟨μ', rfl, hm.1, fM_rf⟩
  · rw [if_neg h1, if_neg h1]
    rcases stO (n := n) hs a with ⟨i, hi, e, g1, g2⟩ | ⟨g1, g2⟩
    · subst e
      rw [g1 2 μ hc.1, g2 μ' hm.1, bd_some, bd_some, if_neg z1, if_neg z1, q, bd_some, if_neg h1, p0_part (by omega) hs.1.1 w1 hi, bd_some, if_neg (nlt0 (by omega)), p5_whither (by omega) hs.1.1 hm.1 hi, bd_some, p5_whence (by omega) hs.1.1 hm.1 hi, bd_some]
      exact D_same hs hc hm _ ⟨ν, rfl, w3⟩ ⟨μ', rfl, hm.1, fM_rf⟩
    · rw [g1 2 μ hc.1, g2 μ' hm.1, bd_some, bd_some, if_pos z0, if_pos z0]
      exact D_ref hs hc hm (c := 1) (by decide)
/-- the class's pairs apart, of stations anywhere -/
theorem x4_neverIn (hn : 400 ≤ n) {v : Vw} (hv : Vok v) {k : Nat} (hk : k + 12 ≤ 42) (hc : CV k v μ) : Ok (nv v) (fun ν => fr 42 47 μ ν) (fX4_neverIn n k μ) := by
  obtain ⟨ν, q, g1, g2⟩ := p0_lay (n := n) (by omega) hv hk hc
  unfold fX4_neverIn
  rw [q, bd_some, p0_never (by omega) hv g1, bd_some]
  exact ⟨ν, rfl, g2⟩
theorem tw_never (hn : 400 ≤ n) (hs : SOk s) (hc : CI s μ) (hm : MI s μ') : D μ μ' (fX4_never n μ) (fX5_never n μ') := by
  unfold fX4_never fX5_never
  obtain ⟨ν, q, w⟩ := x4_neverIn hn hs.1.1 (k := 2) (by decide) hc.1
  rw [q, bd_some, p5_never (by omega) hs.1.1 hm.1, bd_some]
  exact D_same hs hc hm _ ⟨ν, rfl, fC_net w (by decide) (by decide)⟩ ⟨μ', rfl, hm.1, fM_rf⟩
theorem tw_luck (hn : 400 ≤ n) (hs : SOk s) (hc : CI s μ) (hm : MI s μ') (a b t p : Int32) : D μ μ' (fX4_luck n a b t p μ) (fX5_luck n a b t p μ') := by
  have h8 := hs.1.1.1
  unfold fX4_luck fX5_luck fX5_bound
  simp only [bnd]
  rcases stO (n := n) hs a with ⟨i, hi, e, g1, g2⟩ | ⟨g1, g2⟩
  · subst e
    rw [g1 2 μ hc.1, g2 μ' hm.1, bd_some, bd_some, if_neg z1, if_neg z1]
    rcases stO (n := n) hs b with ⟨j, hj, e, k1, k2⟩ | ⟨k1, k2⟩
    · subst e
      rw [k1 2 μ hc.1, k2 μ' hm.1, bd_some, bd_some, if_neg z1, if_neg z1]
      rcases tri t 0 8 0 8 rfl rfl (by decide) (by decide) (by decide) with ⟨h1, h2⟩ | ⟨l, h1, h2, e, h3, h4, h5, h6⟩ | ⟨l, h1, h2, e, h3, h4, h5, h6⟩
      · rw [if_neg h2, if_neg h2, bd_some, if_neg (by decide), if_neg (by decide)]
        exact D_refL hs hc hm (c := 4) (by decide)
      · rw [if_pos h3, if_pos h4, if_pos h3, if_pos h4, bd_some, if_pos rfl]
        rcases chO (n := n) (a := p) with ⟨hp, c1, c2⟩ | ⟨hp, c1, c2⟩
        · obtain ⟨ν, q, w1, w2, w3⟩ := layC hn hs hc
          obtain ⟨ξ, q2, w4⟩ := p0_lots (n := n) (by omega) hs.1.1 w1 hi hj h2
          obtain ⟨ζ, q3, w5, w6⟩ := p5_begin (n := n) (by omega) hs.1.1 hm.1 hi
          obtain ⟨pp, hpp, rfl⟩ : ∃ j, j ≤ 1 ∧ p = nI j := by
            rcases hp with rfl | rfl
            · exact ⟨0, by decide, rfl⟩
            · exact ⟨1, by decide, rfl⟩
          have hgb := gsn_bound (h := true) (R := rb (zv s)) h8 i l j
          have hp8 : 16 ^ l ≤ 16 ^ 8 := Nat.pow_le_pow_right (by decide) h2
          have hp2 : 2 ^ l ≤ 2 ^ 8 := Nat.pow_le_pow_right (by decide) h2
          have hp0 : 0 < 2 ^ l := Nat.pow_pos (by decide)
          have e16 : (16 : Nat) ^ 8 = 4294967296 := by decide
          have e2 : (2 : Nat) ^ 8 = 256 := by decide
          have hgl := Nat.gcd_le_right (gsn true (vN (zv s)) (rb (zv s)) (e0 i) l j) hp0
          have hg0 := Nat.gcd_pos_of_pos_right (gsn true (vN (zv s)) (rb (zv s)) (e0 i) l j) hp0
          rw [c1, c2, bd_some, bd_some, if_neg z1, if_neg z1, if_pos rfl, q, bd_some, e, q2, bd_some, jlshl1 l (by omega), lit_0, p4_reduce hpp h2 l n 0 _ (by omega) (by omega) (by omega), q3, bd_some]
          refine p5_luck (n := n) (by omega) hs.1.1 (MV_fr w6 (Or.inr (by decide)) hm.1) hj h2 hpp w5 (Rr := fun X => D μ μ' _ X) ?_
          intro x x1 x2
          have hdiv : ∀ y, fX5_divisor n (lN (gsn true (vN (zv s)) (rb (zv s)) (e0 i) l j)) (lN (2 ^ l)) y = some (lN (Nat.gcd (gsn true (vN (zv s)) (rb (zv s)) (e0 i) l j) (2 ^ l)), y) := fun y => p5_div n _ _ (by omega) (by omega) (by omega)
          rw [inb_nI (by omega) (by decide), gd_true, nI_clamp (by omega), x1 j hj, hdiv, bd_some, bd_some, nzL_lN hg0 (by omega), gd_true, gd_true, pk_lDiv (by omega) hg0 (by omega), pk_lDiv (by omega) hg0 (by omega)]
          have hfin : ∀ y, (if nI pp = nI 0 then some (lN (gsn true (vN (zv s)) (rb (zv s)) (e0 i) l j / Nat.gcd (gsn true (vN (zv s)) (rb (zv s)) (e0 i) l j) (2 ^ l)), y) else some (lN (2 ^ l / Nat.gcd (gsn true (vN (zv s)) (rb (zv s)) (e0 i) l j) (2 ^ l)), y)) = some (lN (lkp pp (gsn true (vN (zv s)) (rb (zv s)) (e0 i) l j) l), (y : Mem)) := by
            intro y
            unfold lkp
            rcases (show pp = 0 ∨ pp = 1 by omega) with rfl | rfl
            · rfl
            · rfl
          rw [hfin]
          exact D_same hs hc hm _ ⟨ξ, rfl, fC_tr w3 (fC_net w4 (by decide) (by decide))⟩ ⟨x, rfl, MV_fr (fr_tr w6 x2) (Or.inr (by decide)) hm.1, fM_59 (fr_tr w6 x2) (by decide) (by decide)⟩
        · rw [c1, c2, bd_some, bd_some, if_pos z0, if_pos z0, if_neg (by decide)]
          exact D_refL hs hc hm (c := 2) (by decide)
      · rw [if_pos h3, if_neg h4, if_pos h3, if_neg h4, bd_some, if_neg (by decide), if_neg (by decide)]
        exact D_refL hs hc hm (c := 6) (by decide)
    · rw [k1 2 μ hc.1, k2 μ' hm.1, bd_some, bd_some, if_pos z0, if_pos z0]
      exact D_refL hs hc hm (c := 1) (by decide)
  · rw [g1 2 μ hc.1, g2 μ' hm.1, bd_some, bd_some, if_pos z0, if_pos z0]
    exact D_refL hs hc hm (c := 1) (by decide)
theorem i32_l : ∀ x, x < 300 → (nI x).toInt64 = lN x := by decide +kernel
theorem l_i32 : ∀ x, x < 300 → Int64.toInt32 (lN x) = nI x := by decide +kernel
theorem tw_alike (hn : 400 ≤ n) (hs : SOk s) (hc : CI s μ) (hm : MI s μ') (a b : Int32) : D μ μ' (fX4_alike n a b μ) (fX5_alike n a b μ') := by
  unfold fX4_alike fX5_alike
  simp only [bnd]
  rcases tri a 1 60 1 60 rfl rfl (by decide) (by decide) (by decide) with ⟨h1, h2⟩ | ⟨i, h1, h2, e, h3, h4, h5, h6⟩ | ⟨i, h1, h2, e, h3, h4, h5, h6⟩
  · rw [if_pos h1, if_pos h1, if_neg (by decide)]
    exact D_ref hs hc hm (c := 4) (by decide)
  · rw [if_neg h5, if_neg h5, if_neg h6, if_neg h6]
    rcases tri b 1 99 1 99 rfl rfl (by decide) (by decide) (by decide) with ⟨k1, k2⟩ | ⟨j, k1, k2, e2, k3, k4, k5, k6⟩ | ⟨j, k1, k2, e2, k3, k4, k5, k6⟩
    · rw [if_neg k2, if_neg k2, if_neg (by decide)]
      exact D_ref hs hc hm (c := 4) (by decide)
    · have hg := Nat.gcd_le_left j (show 0 < i by omega)
      rw [if_pos k3, if_pos k3, if_pos k4, if_pos k4, if_pos trivial, e, e2, p4_alike (by omega) (by omega) (by omega) i n (by omega) (by omega) hg, i32_l i (by omega), i32_l j (by omega)]
      unfold fX5_divisor
      rw [p5_div n i j (by omega) (by omega) (by omega), bd_some, l_i32 _ (by omega)]
      exact D_pure hs hc hm _
    · rw [if_pos k3, if_pos k3, if_neg k4, if_neg k4, if_neg (by decide)]
      exact D_ref hs hc hm (c := 6) (by decide)
  · rw [if_neg h5, if_neg h5, if_pos h6, if_pos h6]
    by_cases k : 1 ≤ b
    · rw [if_pos k, if_pos k, if_neg (by decide)]
      exact D_ref hs hc hm (c := 6) (by decide)
    · rw [if_neg k, if_neg k, if_neg (by decide)]
      exact D_ref hs hc hm (c := 4) (by decide)
end TX
