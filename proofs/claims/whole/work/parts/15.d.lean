/-! ===== each call, on ===== -/
section TY
variable {n : Nat} {s : Zs} {μ μ' : Mem}
theorem MK_eq {o : Option Vw} {ν : Mem} (h16 : ν.1 47 16 = μ.1 47 16) (h : ∀ j, ν.1 58 j = μ.1 58 j) (hc : MK o μ) : MK o ν := by
  cases o with
  | none =>
    have hc : μ.1 47 16 = nI 0 := hc
    show ν.1 47 16 = nI 0
    rw [h16]; exact hc
  | some u => exact ⟨by rw [h16]; exact hc.1, KV_58 h hc.2⟩
theorem tw_row (hs : SOk s) (hc : CI s μ) (hm : MI s μ') (a : Int32) : D μ μ' (fX4_row n a μ) (fX5_row n a μ') := by
  have h12 := hs.2.2.1.1
  have hl := hc.2.2.1
  have hl' := hm.2.2.1
  unfold fX4_row fX5_row fX5_bound
  simp only [bnd]
  rcases tri a 0 9 0 9 rfl rfl (by decide) (by decide) (by decide) with ⟨h1, h2⟩ | ⟨j, h1, h2, e, h3, h4, h5, h6⟩ | ⟨j, h1, h2, e, h3, h4, h5, h6⟩
  · rw [if_neg h2, if_neg h2, bd_some, if_neg (by decide), if_neg (by decide)]
    exact D_ref hs hc hm (c := 4) (by decide)
  · rw [if_pos h3, if_neg h6, if_pos h3, if_pos h4, bd_some, if_pos rfl, hl'.1, hl.1]
    by_cases hT : (zR s) < 12
    · rw [if_pos (show nI (zR s) < 12 from nI_lt (b := 12) hT (by decide)), if_neg (show ¬ nI (zR s) = 12 by rw [lit_12, nI_eq (by omega) (by decide)]; omega), if_pos rfl, inb_nI hT (by decide), gd_true, nI_clamp (by omega)]
      unfold fX1_append
      simp only [bnd]
      rw [hl.1, if_pos (show nI (zR s) < 12 from nI_lt (b := 12) hT (by decide)), inb_nI hT (by decide), gd_true, nI_clamp (by omega), bd_some, show (setI μ 41 (zR s) a).1 40 1 = nI (zR s) from (by rw [setI1_ne (by decide)]; exact hl.1), show (setI μ' 61 (zR s) a).1 47 22 = nI (zR s) from (by rw [setI1_ne (by decide)]; exact hl'.1), nI_1, setI1_eq, upd_eq, setI1_eq, upd_eq]
      refine ⟨_, (zv s, zT s, zc s, zR s + 1, fun i => if i = zR s then j else zg s i, zf s, zk s), ⟨hs.1, hs.2.1, ⟨by show zR s + 1 ≤ 12; omega, fun i hi => ?_⟩, hs.2.2.2⟩, ⟨_, rfl, ⟨?_, ⟨?_, fun i hi => ?_⟩, ⟨?_, fun i hi => ?_⟩, fun i hi => ?_, ?_⟩, fr_tr (fr_I (by decide) (by decide)) (fr_I (by decide) (by decide))⟩, ⟨_, rfl, ⟨⟨?_, ?_, fun i hi => ?_⟩, ⟨?_, fun i hi => ?_⟩, ⟨?_, fun i hi => ?_⟩, fun i hi => ?_, ?_⟩, fr_tr (fr_I (by decide) (by decide)) (fr_I (by decide) (by decide))⟩⟩
      · have hi : i < zR s + 1 := hi
        show (if i = zR s then j else zg s i) ≤ 9
        by_cases e : i = zR s
        · rw [if_pos e]; omega
        · rw [if_neg e]; exact hs.2.2.1.2 i (by omega)
      · exact CV_eq hs.1.1.1 (fun x x1 x2 => by rw [setI1_ne (by omega), setI1_ne (by omega)]) hc.1
      · rw [setI1_ne (by decide), setI1_ne (by decide)]; exact hc.2.1.1
      · rw [setI1_ne (by decide), setI1_ne (by decide)]; exact hc.2.1.2 i hi
      · rw [setI1_eq, upd_eq]
      · have hi : i < zR s + 1 := hi
        show (setI (setI μ 41 (zR s) a) 40 1 _).1 41 i = nI (if i = zR s then j else zg s i)
        rw [setI1_ne (by decide), setI1_eq, upd_get]
        by_cases e2 : i = zR s
        · rw [if_pos e2, if_pos e2, e]
        · rw [if_neg e2, if_neg e2]; exact hl.2 i (by omega)
      · rw [setI1_ne (by decide), setI1_ne (by decide)]; exact hc.2.2.2.1 i hi
      · exact CK_eq hs.2.2.2 (fun x hx => by rw [setI1_ne (by omega), setI1_ne (by omega)]) hc.2.2.2.2
      · rw [setI1_eq, upd_ne (by decide), setI1_ne (by decide)]; exact hm.1.1
      · rw [setI1_eq, upd_ne (by decide), setI1_ne (by decide)]; exact hm.1.2.1
      · rw [setI1_ne (by decide), setI1_ne (by decide), setI1_ne (by decide), setI1_ne (by decide), setI1_ne (by decide), setI1_ne (by decide)]; exact hm.1.2.2 i hi
      · rw [setI1_eq, upd_ne (by decide), setI1_ne (by decide)]; exact hm.2.1.1
      · rw [setI1_ne (by decide), setI1_ne (by decide)]; exact hm.2.1.2 i hi
      · rw [setI1_eq, upd_eq]
      · have hi : i < zR s + 1 := hi
        show (setI (setI μ' 61 (zR s) a) 47 22 _).1 61 i = nI (if i = zR s then j else zg s i)
        rw [setI1_ne (by decide), setI1_eq, upd_get]
        by_cases e2 : i = zR s
        · rw [if_pos e2, if_pos e2, e]
        · rw [if_neg e2, if_neg e2]; exact hl'.2 i (by omega)
      · rw [setI1_ne (by decide), setI1_ne (by decide)]; exact hm.2.2.2.1 i hi
      · exact MK_eq (by rw [setI1_eq, upd_ne (by decide), setI1_ne (by decide)]) (fun x => by rw [setI1_ne (by decide), setI1_ne (by decide)]) hm.2.2.2.2
    · rw [if_neg (show ¬ nI (zR s) < 12 from nI_nlt (b := 12) (by omega) (by omega)), if_pos (show nI (zR s) = 12 by rw [show zR s = 12 by omega]; rfl), if_neg (by decide)]
      exact D_ref hs hc hm (c := 6) (by decide)
  · rw [if_pos h3, if_pos h6, if_pos h3, if_neg h4, bd_some, if_neg (by decide), if_neg (by decide)]
    exact D_ref hs hc hm (c := 6) (by decide)
theorem tw_gotOn (hn : 400 ≤ n) (hs : SOk s) (hc : CI s μ) (hm : MI s μ') (a : Int32) : D μ μ' (fX4_gotOn n a μ) (fX5_gotOn n a μ') := by
  have h8 := hs.1.1.1
  have h12 := hs.2.2.1.1
  unfold fX4_gotOn fX5_gotOn
  rcases chO (n := n) (a := a) with ⟨ha, g1, g2⟩ | ⟨ha, g1, g2⟩
  · rw [g1, g2, bd_some, bd_some, if_neg z1, if_neg z1, hc.2.2.1.1, hm.2.2.1.1]
    by_cases h0 : zR s = 0
    · rw [h0, if_pos z0, if_pos z0]
      exact D_refL hs hc hm (c := 3) (by decide)
    · have hne : ¬ nI (zR s) = 0 := by rw [lit_0, nI_eq (by omega) (by decide)]; exact h0
      obtain ⟨ν, q, w1, w2, w3⟩ := layC hn hs hc
      obtain ⟨ξ, q2, t1, t2⟩ := p0_fit (n := n) (by omega) hs.1.1 w1 hs.2.2.1 (SC_fr w2 (by decide) hc.2.2.1) (by omega)
      have w4 : fC μ ξ := fC_tr w3 (fC_net t2 (by decide) (by decide))
      have hB : ∀ i, i < vN (zv s) → Bwd (vN (zv s)) (rb (zv s)) (zg s) (zR s) (zR s - 1) i < 2 ^ 60 := by
        intro i hi
        have h1 := Bwd_le (R := rb (zv s)) (sg := zg s) (Rn := zR s) h8 (zR s - 1) i
        have h2 : 8 ^ (zR s - 1) ≤ 8 ^ 11 := Nat.pow_le_pow_right (by decide) (by omega)
        have h3 : (8 : Nat) ^ 11 < 2 ^ 60 := by decide
        omega
      rw [if_neg hne, if_neg hne, q, bd_some, q2, bd_some]
      rcases ha with rfl | rfl
      · obtain ⟨ζ, q3, t3⟩ := p5_got45 (n := n) (by omega) hs.1.1 hm.1 hs.2.2.1 hm.2.2.1 (by omega)
        have hlt := fsS_lt (Bwd (vN (zv s)) (rb (zv s)) (zg s) (zR s) (zR s - 1)) (vN (zv s))
        have h256 : 2 ^ vN (zv s) ≤ 2 ^ 8 := Nat.pow_le_pow_right (by decide) h8
        have e256 : (2 : Nat) ^ 8 = 256 := by decide
        rw [if_pos rfl, if_neg (by decide), p0_fstat (by omega) hs.1.1 (NK_fr t2 (by decide) w1) t1 hB, bd_some, q3, i32_l _ (by omega)]
        exact D_same hs hc hm _ ⟨ξ, rfl, w4⟩ ⟨ζ, rfl, MV_fr t3 (Or.inr (by decide)) hm.1, fM_59 t3 (by decide) (by decide)⟩
      · obtain ⟨ζ, q3, t3⟩ := p5_fitsAll (n := n) (by omega) hs.1.1 hm.1 hs.2.2.1 hm.2.2.1 (by omega)
        rw [if_neg (by decide), if_pos rfl, p0_fways (by omega) hs.1.1 (NK_fr t2 (by decide) w1) t1, bd_some, q3, bd_some]
        exact D_same hs hc hm _ ⟨ξ, rfl, w4⟩ ⟨ζ, rfl, MV_fr t3 (Or.inr (by decide)) hm.1, fM_59 t3 (by decide) (by decide)⟩
  · rw [g1, g2, bd_some, bd_some, if_pos z0, if_pos z0]
    exact D_refL hs hc hm (c := 2) (by decide)
theorem tw_judge (hn : 400 ≤ n) (hs : SOk s) (hc : CI s μ) (hm : MI s μ') : D μ μ' (fX4_judge n μ) (fX5_judge n μ') := by
  obtain ⟨ν, q, w1, w2, w3⟩ := layC hn hs hc
  have hcν := CI_fC hs w3 hc
  unfold fX4_judge fX5_judge
  simp only [bnd]
  rw [q, bd_some, p0_judge (by omega) hs.1.1 w1 hs.2.2.1 hcν.2.2.1, bd_some, hm.2.2.1.1, lit_0, p5_judge (μ := setI μ' 47 22 (nI 0)) (by omega) hs.1.1 ⟨by rw [setI1_eq, upd_ne (by decide)]; exact hm.1.1, by rw [setI1_eq, upd_ne (by decide)]; exact hm.1.2.1, fun i hi => by rw [setI1_ne (by decide), setI1_ne (by decide), setI1_ne (by decide)]; exact hm.1.2.2 i hi⟩ hs.2.2.1 (fun i hi => by rw [setI1_ne (by decide)]; exact hm.2.2.1.2 i hi)]
  refine ⟨_, (zv s, zT s, zc s, 0, zg s, zf s, zk s), ⟨hs.1, hs.2.1, ⟨Nat.zero_le _, fun i hi => absurd hi (Nat.not_lt_zero _)⟩, hs.2.2.2⟩, ⟨_, rfl, ⟨?_, ⟨?_, fun i hi => ?_⟩, ⟨?_, fun i hi => absurd hi (Nat.not_lt_zero _)⟩, fun i hi => ?_, ?_⟩, fr_tr (fC_fr w3) (fr_I (by decide) (by decide))⟩, ⟨_, rfl, ⟨⟨?_, ?_, fun i hi => ?_⟩, ⟨?_, fun i hi => ?_⟩, ⟨?_, fun i hi => absurd hi (Nat.not_lt_zero _)⟩, fun i hi => ?_, ?_⟩, fr_I (by decide) (by decide)⟩⟩
  · exact CV_eq hs.1.1.1 (fun x x1 x2 => by rw [setI1_ne (by omega)]) hcν.1
  · rw [setI1_ne (by decide)]; exact hcν.2.1.1
  · rw [setI1_ne (by decide)]; exact hcν.2.1.2 i hi
  · rw [setI1_eq, upd_eq]
  · rw [setI1_ne (by decide)]; exact hcν.2.2.2.1 i hi
  · exact CK_eq hs.2.2.2 (fun x hx => by rw [setI1_ne (by omega)]) hcν.2.2.2.2
  · rw [setI1_eq, upd_ne (by decide)]; exact hm.1.1
  · rw [setI1_eq, upd_ne (by decide)]; exact hm.1.2.1
  · rw [setI1_ne (by decide), setI1_ne (by decide), setI1_ne (by decide)]; exact hm.1.2.2 i hi
  · rw [setI1_eq, upd_ne (by decide)]; exact hm.2.1.1
  · rw [setI1_ne (by decide)]; exact hm.2.1.2 i hi
  · rw [setI1_eq, upd_eq]
  · rw [setI1_ne (by decide)]; exact hm.2.2.2.1 i hi
  · exact MK_eq (by rw [setI1_eq, upd_ne (by decide)]) (fun x => by rw [setI1_ne (by decide)]) hm.2.2.2.2
theorem tw_seeds (hn : 400 ≤ n) (hs : SOk s) (hc : CI s μ) (hm : MI s μ') (a t z : Int32) : D μ μ' (fX4_seeds n a t z μ) (fX5_seeds n a t z μ') := by
  unfold fX4_seeds fX5_seeds fX5_bound
  simp only [bnd]
  rcases stO (n := n) hs a with ⟨i, hi, e, g1, g2⟩ | ⟨g1, g2⟩
  · subst e
    rw [g1 2 μ hc.1, g2 μ' hm.1, bd_some, bd_some, if_neg z1, if_neg z1]
    rcases tri t 1 60 1 60 rfl rfl (by decide) (by decide) (by decide) with ⟨h1, h2⟩ | ⟨l, h1, h2, e, h3, h4, h5, h6⟩ | ⟨l, h1, h2, e, h3, h4, h5, h6⟩
    · rw [if_neg h2, if_neg h2, bd_some, if_neg (by decide)]
      exact D_ref hs hc hm (c := 4) (by decide)
    · obtain ⟨ν, q, w1, w2, w3⟩ := layC hn hs hc
      rw [if_pos h3, if_pos h4, if_pos h3, if_pos h4, bd_some, if_pos rfl, q, bd_some, e, p0_drawn (by omega) hs.1.1 w1 hi h2, bd_some, lit_0, p5_seeds (by omega) hs.1.1 hm.1 hi h2]
      exact D_same hs hc hm _ ⟨ν, rfl, w3⟩ ⟨μ', rfl, hm.1, fM_rf⟩
    · rw [if_pos h3, if_neg h4, if_pos h3, if_neg h4, bd_some, if_neg (by decide)]
      exact D_ref hs hc hm (c := 6) (by decide)
  · rw [g1 2 μ hc.1, g2 μ' hm.1, bd_some, bd_some, if_pos z0, if_pos z0, if_neg (by decide)]
    exact D_ref hs hc hm (c := 1) (by decide)
theorem tw_image (hn : 400 ≤ n) (hs : SOk s) (hc : CI s μ) (hm : MI s μ') : D μ μ' (fX4_image n μ) (fX5_image n μ') := by
  have h8 := hs.1.1.1
  unfold fX4_image fX5_image
  simp only [bnd]
  obtain ⟨ν, q, g1, g2⟩ := p3_take (n := n) (by omega) hs.1.1 (k0 := 26) (k1 := 2) (by decide) hc.1
  have hx : MV (zv s) (setI μ' 47 16 1) := ⟨by rw [setI1_eq, upd_ne (by decide)]; exact hm.1.1, by rw [setI1_eq, upd_ne (by decide)]; exact hm.1.2.1, fun i hi => by rw [setI1_ne (by decide), setI1_ne (by decide), setI1_ne (by decide)]; exact hm.1.2.2 i hi⟩
  obtain ⟨ξ, q2, t1, t2, t3, t4⟩ := p5_save (n := n) (by omega) hs.1.1 hx (w := 0) (by decide)
  have q2 : fX5_passesAll n 0 1 (setI μ' 47 16 1) = _ := q2
  rw [q, bd_some, q2, bd_some, setI1_ne (by decide), (g2 2 (by decide)).1, hc.1.1, t1.1]
  refine ⟨_, (zv s, zT s, zc s, zR s, zg s, zf s, some (zv s)), ⟨hs.1, hs.2.1, hs.2.2.1, fun u hu => by cases hu; exact hs.1⟩, ⟨_, rfl, ⟨?_, ⟨?_, fun i hi => ?_⟩, ⟨?_, fun i hi => ?_⟩, fun i hi => ?_, ⟨?_, ?_⟩⟩, fr_tr (fr_wd g2 (by decide) (by decide)) (fr_I (by decide) (by decide))⟩, ⟨ξ, rfl, ⟨t1, ⟨?_, fun i hi => ?_⟩, ⟨?_, fun i hi => ?_⟩, fun i hi => ?_, ⟨?_, t2⟩⟩, fun a ha => ⟨?_, ?_⟩⟩⟩
  · exact CV_eq h8 (fun x x1 x2 => by rw [setI1_ne (by omega), (g2 x (by omega)).1]) hc.1
  · rw [setI1_ne (by decide), (g2 38 (by decide)).1]; exact hc.2.1.1
  · rw [setI1_ne (by decide), (g2 39 (by decide)).1]; exact hc.2.1.2 i hi
  · rw [setI1_ne (by decide), (g2 40 (by decide)).1]; exact hc.2.2.1.1
  · rw [setI1_ne (by decide), (g2 41 (by decide)).1]; exact hc.2.2.1.2 i hi
  · rw [setI1_ne (by decide), (g2 1 (by decide)).1]; exact hc.2.2.2.1 i hi
  · rw [setI1_eq, upd_eq]; rfl
  · exact CV_eq h8 (fun x x1 x2 => by rw [setI1_ne (by omega)]) g1
  · rw [t4.2.2 12 (by decide) (by decide) (by decide) (by decide), setI1_eq, upd_ne (by decide)]; exact hm.2.1.1
  · rw [t4.1 52 (by decide) (by decide) (by decide) (by decide) (by decide), setI1_ne (by decide)]; exact hm.2.1.2 i hi
  · rw [t4.2.2 22 (by decide) (by decide) (by decide) (by decide), setI1_eq, upd_ne (by decide)]; exact hm.2.2.1.1
  · rw [t4.1 61 (by decide) (by decide) (by decide) (by decide) (by decide), setI1_ne (by decide)]; exact hm.2.2.1.2 i hi
  · rw [t4.1 48 (by decide) (by decide) (by decide) (by decide) (by decide), setI1_ne (by decide)]; exact hm.2.2.2.1 i hi
  · rw [t4.2.2 16 (by decide) (by decide) (by decide) (by decide), setI1_eq, upd_eq]; rfl
  · rw [t4.1 a (by omega) (by omega) (by omega) (by omega) (by omega), setI1_ne (by omega)]
  · rw [t4.2.1]; rfl
theorem tw_on (hn : 400 ≤ n) (hs : SOk s) (hc : CI s μ) (hm : MI s μ') : D μ μ' (fX4_on n μ) (fX5_on n μ') := by
  have hk := hc.2.2.2.2
  have hk' := hm.2.2.2.2
  have hu := hs.2.2.2
  unfold fX4_on fX5_on
  cases e : zk s with
  | none =>
    rw [e] at hk hk'
    have hk : μ.1 0 7 = nI 0 := hk
    have hk' : μ'.1 47 16 = nI 0 := hk'
    rw [hk, hk', if_pos z0, if_pos z0]
    exact D_ref hs hc hm (c := 3) (by decide)
  | some u =>
    rw [e] at hk hk'
    have hu := hu u e
    obtain ⟨a1, a2⟩ := hk
    obtain ⟨b1, b2⟩ := hk'
    obtain ⟨ν, q, g1, g2⟩ := p3_take (n := n) (by omega) hu.1 (k0 := 2) (k1 := 26) (by decide) a2
    obtain ⟨ξ, q2, t1, t2, t3⟩ := p5_load (n := n) (by omega) hu.1 (w := 0) (by decide) b2
    have q2 : fX5_passesAll n 0 0 μ' = _ := q2
    rw [a1, b1, if_neg z1, if_neg z1, q, bd_some, q2, bd_some, g1.1, t1.1]
    exact D_view (w := u) hs hc hm hu _ ⟨ν, rfl, g1, fun a ha => g2 a (by omega)⟩ ⟨ξ, rfl, t1, fM_PF t3 (fun w _ hw => KV_58 t2 hw)⟩
theorem tw_count (hn : 400 ≤ n) (hs : SOk s) (hc : CI s μ) (hm : MI s μ') (a : Int32) : D μ μ' (fX4_count n a μ) (fX5_count n a μ') := by
  have hr := hs.1.1.2.1
  unfold fX4_count fX5_count fX5_isIn
  simp only [bnd]
  have small : ∀ X, (∀ Y, (a < 11 ∨ 16 < a) → D μ μ' (some ((-9 : Int32), μ)) Y → D μ μ' X Y) → (a < 11 ∨ 16 < a) → D μ μ' (if a = 0 then some (μ.1 2 3, μ) else if a = 1 then bd (fX3_sumOfSizes n 2 μ) (fun r4 m3 => some (r4, m3)) else if a = 2 then if μ.1 2 4 = 0 then some (0, μ) else some (1, μ) else if a = 3 then bd (fX0_lay n 2 μ) (fun r8 m7 => bd (fX0_sumOfRides n m7) (fun r10 m9 => some (r10, m9))) else if a = 4 then some (μ.1 40 1, μ) else if a = 5 then some (μ.1 38 1, μ) else X) (if a = 0 then some (μ'.1 47 4, μ') else if a = 1 then fX5_count_L71 n n 0 0 μ' else if a = 2 then some (μ'.1 47 5, μ') else if a = 3 then fX5_count_L103 n n 0 0 μ' else if a = 4 then some (μ'.1 47 22, μ') else if a = 5 then some (μ'.1 47 12, μ') else some (-9, μ')) := by
    intro X hX hb
    by_cases e0 : a = 0
    · rw [if_pos e0, if_pos e0, hc.1.1, hm.1.1]
      exact D_pure hs hc hm _
    rw [if_neg e0, if_neg e0]
    by_cases e1 : a = 1
    · rw [if_pos e1, if_pos e1, p3_sum (by omega) hs.1.1 hc.1, bd_some, p5_sum (by omega) hs.1.1 hm.1]
      exact D_pure hs hc hm _
    rw [if_neg e1, if_neg e1]
    by_cases e2 : a = 2
    · rw [if_pos e2, if_pos e2, hm.1.2.1]
      rcases (show vr (zv s) = 0 ∨ vr (zv s) = 1 by omega) with q | q
      · rw [if_pos (by rw [hc.1.2.1, q]; rfl), q]
        exact D_pure hs hc hm _
      · rw [if_neg (by rw [hc.1.2.1, q]; decide), q]
        exact D_pure hs hc hm _
    rw [if_neg e2, if_neg e2]
    by_cases e3 : a = 3
    · obtain ⟨ν, q, w1, w2, w3⟩ := layC hn hs hc
      rw [if_pos e3, if_pos e3, q, bd_some, p0_sumR (by omega) hs.1.1 w1, bd_some, p5_sumR (by omega) hs.1.1 hm.1]
      exact D_same hs hc hm _ ⟨ν, rfl, w3⟩ ⟨μ', rfl, hm.1, fM_rf⟩
    rw [if_neg e3, if_neg e3]
    by_cases e4 : a = 4
    · rw [if_pos e4, if_pos e4, hc.2.2.1.1, hm.2.2.1.1]
      exact D_pure hs hc hm _
    rw [if_neg e4, if_neg e4]
    by_cases e5 : a = 5
    · rw [if_pos e5, if_pos e5, hc.2.1.1, hm.2.1.1]
      exact D_pure hs hc hm _
    rw [if_neg e5, if_neg e5]
    exact hX _ hb (D_pure hs hc hm _)
  rcases tri a 11 16 11 16 rfl rfl (by decide) (by decide) (by decide) with ⟨h1, h2⟩ | ⟨j, h1, h2, e, h3, h4, h5, h6⟩ | ⟨j, h1, h2, e, h3, h4, h5, h6⟩
  · rw [if_pos h1, if_pos h1, bd_some, if_pos rfl]
    exact small _ (fun Y _ h => h) (Or.inl h1)
  · subst e
    rw [if_neg h5, if_neg h5, if_neg h6, if_neg h6, bd_some, if_neg (show ¬ (1 : Int32) = 0 by decide), show (10 : Int32) = nI 10 from rfl, pk_sub (by omega), inb_nI (by omega) (by decide), gd_true, gd_true, nI_clamp (by omega), hc.2.2.2.1 (j - 10) (by omega), hm.2.2.2.1 (j - 10) (by omega)]
    have hne : ∀ k, k < 11 → ¬ nI j = nI k := fun k hk => by rw [nI_eq (by omega) (by omega)]; omega
    rw [if_neg (show ¬ nI j = 0 from hne 0 (by decide)), if_neg (show ¬ nI j = 1 from hne 1 (by decide)), if_neg (show ¬ nI j = 2 from hne 2 (by decide)), if_neg (show ¬ nI j = 3 from hne 3 (by decide)), if_neg (show ¬ nI j = 4 from hne 4 (by decide)), if_neg (show ¬ nI j = 5 from hne 5 (by decide))]
    exact D_pure hs hc hm _
  · rw [if_neg h5, if_neg h5, if_pos h6, if_pos h6, bd_some, if_pos rfl]
    exact small _ (fun Y _ h => h) (Or.inr h6)
end TY
