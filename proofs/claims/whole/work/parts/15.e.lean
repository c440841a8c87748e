/-! ===== calls that try changes ===== -/
theorem D_tr {ρ : Type} {μ μ' ν ξ : Mem} {X Y : Option (ρ × Mem)} (h1 : fr 0 47 μ ν) (h2 : fr 47 62 μ' ξ) (h : D ν ξ X Y) : D μ μ' X Y := by
  obtain ⟨r, s, hs, ⟨a, q1, c1, f1⟩, ⟨b, q2, c2, f2⟩⟩ := h
  exact ⟨r, s, hs, ⟨a, q1, c1, fr_tr h1 f1⟩, ⟨b, q2, c2, fr_tr h2 f2⟩⟩
/-- alike, at the same stations -/
def E {ρ : Type} (s : Zs) (μ μ' : Mem) (X Y : Option (ρ × Mem)) : Prop := ∃ r, Ok r (fun ν => fC μ ν) X ∧ Ok r (fun ν => MV (zv s) ν ∧ fM μ' ν) Y
theorem E_D {ρ : Type} {s : Zs} {μ μ' : Mem} {X Y : Option (ρ × Mem)} (hs : SOk s) (hc : CI s μ) (hm : MI s μ') (h : E s μ μ' X Y) : D μ μ' X Y := by
  obtain ⟨r, h1, h2⟩ := h
  exact D_same hs hc hm r h1 h2
theorem E_tr {ρ : Type} {s : Zs} {μ μ' ν ξ : Mem} {X Y : Option (ρ × Mem)} (h1 : fC μ ν) (h2 : fM μ' ξ) (h : E s ν ξ X Y) : E s μ μ' X Y := by
  obtain ⟨r, ⟨a, q1, f1⟩, ⟨b, q2, c2, f2⟩⟩ := h
  exact ⟨r, ⟨a, q1, fC_tr h1 f1⟩, ⟨b, q2, c2, fM_tr h2 f2⟩⟩
theorem E_pure {ρ : Type} {s : Zs} {μ μ' : Mem} (hm : MV (zv s) μ') (r : ρ) : E s μ μ' (some (r, μ)) (some (r, μ')) := ⟨r, ⟨μ, rfl, fC_rf⟩, ⟨μ', rfl, hm, fM_rf⟩⟩
def can (v : Vw) (i is : Nat) : Bool := decide (is = 1 ∨ 1 < sz v i)
theorem can_ok {v : Vw} (h : V9 v) {i is : Nat} (hi : i < vN v) (h1 : is ≤ 1) (hcan : can v i is = true) : Vok (chv v i is) := by
  have := of_decide_eq_true hcan
  have h9 := h.2 i hi
  exact chv_ok h.1 (fun _ => by omega) (fun _ => by omega)
section TZ
variable {n : Nat} {μ : Mem} {v : Vw}
theorem x3_change (hv : Vok v) {k i is : Nat} (hi : i < vN v) (h9 : sz v i ≤ 9) (h1 : is ≤ 1) (hc : CV k v μ) : if can v i is = true then Ok (nI 1) (fun ν => CV k (chv v i is) ν ∧ fr k (k + 12) μ ν) (fX3_change n k (nI i) (nI is) μ) else fX3_change n k (nI i) (nI is) μ = some (nI 0, μ) := by
  by_cases hcan : can v i is = true
  · rw [if_pos hcan]
    have := of_decide_eq_true hcan
    by_cases e : is = 1
    · subst e; exact p3_change1 hv hi hc h9
    · have e0 : is = 0 := by omega
      subst e0; exact p3_change0 hv hi hc (by omega)
  · rw [if_neg hcan]
    have : ¬ (is = 1 ∨ 1 < sz v i) := fun q => hcan (decide_eq_true q)
    have e0 : is = 0 := by omega
    subst e0
    exact p3_change0n hv hi hc (fun q => this (Or.inr q))
theorem x5_canBe (hv : Vok v) (hc : MV v μ) {i is : Nat} (hi : i < vN v) (h1 : is ≤ 1) : fX5_canBe n (nI i) (nI is) μ = some (if can v i is = true then nI 1 else nI 0, μ) := by
  rw [p5_canBe hv hc hi h1]
  by_cases hcan : is = 1 ∨ 1 < sz v i
  · rw [if_pos hcan, if_pos (show can v i is = true from decide_eq_true hcan)]
  · rw [if_neg hcan, if_neg (show ¬ can v i is = true from fun q => hcan (of_decide_eq_true q))]
theorem x5_change (hv : Vok v) (h9 : ∀ i, i < vN v → sz v i ≤ 9) (hc : MV v μ) {i is : Nat} (hi : i < vN v) (h1 : is ≤ 1) (hcan : can v i is = true) : Ok () (fun ν => MV (chv v i is) ν ∧ P3 μ ν) (fX5_changes n (nI i) (nI is) μ) := by
  have := of_decide_eq_true hcan
  exact p5_change hv hc hi (fun _ => h9 i hi) (fun _ => ⟨by omega, by omega⟩)
theorem fM_save {ν : Mem} (h : PF μ ν) (hk : ∀ u, KV (1 - 1) u μ → Vok u → KV (1 - 1) u ν) : fM μ ν := fM_PF h (fun u hu hw => hk u hw hu)
theorem fM_load {ν : Mem} (h : PF μ ν) (hk : ∀ j, ν.1 58 j = μ.1 58 j) : fM μ ν := fM_PF h (fun _ _ hw => KV_58 hk hw)
/-- the model tries a change and puts all back -/
theorem m_try (hn : 400 ≤ n) (hv : V9 v) (hc : MV v μ) {i is : Nat} (hi : i < vN v) (h1 : is ≤ 1) (hcan : can v i is = true) {ρ : Type} (K : Int32 → Mem → Option (ρ × Mem)) : ∃ ν, (bd (fX5_passesAll n 1 1 μ) fun _ m5 => bd (fX5_changes n (nI i) (nI is) m5) fun _ m7 => bd (fX5_neverNow n m7) fun r10 m9 => bd (fX5_passesAll n 1 0 m9) fun _ m11 => K r10 m11) = K (nv (chv v i is)) ν ∧ MV v ν ∧ fM μ ν := by
  obtain ⟨a, q1, s1, s2, s3, s4⟩ := p5_save (n := n) (by omega) hv.1 hc (w := 1) (by decide)
  have q1 : fX5_passesAll n 1 1 μ = _ := q1
  obtain ⟨b, q2, t1, t2⟩ := x5_change (n := n) hv.1 hv.2 s1 hi h1 hcan
  obtain ⟨c, q3, u1, u2, u3⟩ := p5_load (n := n) (μ := b) (by omega) hv.1 (w := 1) (by decide) (KV_58 (fun j => by rw [t2.1 58 (by decide) (by decide) (by decide)]) s2)
  have q3 : fX5_passesAll n 1 0 b = _ := q3
  refine ⟨c, ?_, u1, fM_tr (fM_save s4 s3) (fM_tr (fM_P3 t2) (fM_load u3 u2))⟩
  rw [q1, bd_some, q2, bd_some, p5_never (by omega) (can_ok hv hi h1 hcan) t1, bd_some, q3, bd_some]
/-- the class tries a change -/
theorem c_try (hn : 400 ≤ n) (hv : V9 v) (hc : CV 2 v μ) {i is : Nat} (hi : i < vN v) (h1 : is ≤ 1) : ∃ ν, fX3_take n 14 2 μ = some ((), ν) ∧ fC μ ν ∧ (can v i is = false → fX3_change n 14 (nI i) (nI is) ν = some (nI 0, ν)) ∧ (can v i is = true → ∃ ξ, fX3_change n 14 (nI i) (nI is) ν = some (nI 1, ξ) ∧ fC μ ξ ∧ CV 14 (chv v i is) ξ) := by
  obtain ⟨ν, q, g1, g2⟩ := p3_take (n := n) (by omega) hv.1 (k0 := 14) (k1 := 2) (by decide) hc
  have hx := x3_change (n := n) hv.1 hi (hv.2 i hi) h1 g1
  refine ⟨ν, q, fC_try g2 (by decide) (by decide), fun hcan => ?_, fun hcan => ?_⟩
  · rw [hcan, if_neg (by decide)] at hx
    exact hx
  · rw [if_pos hcan] at hx
    obtain ⟨ξ, q2, w1, w2⟩ := hx
    exact ⟨ξ, q2, fC_tr (fC_try g2 (by decide) (by decide)) (fC_try w2 (by decide) (by decide)), w1⟩
end TZ
section TA
variable {n : Nat} {s : Zs} {μ μ' : Mem}
theorem tw_more (hn : 400 ≤ n) (hs : SOk s) (hc : CI s μ) (hm : MI s μ') (a b : Int32) : D μ μ' (fX4_more n a b μ) (fX5_more n a b μ') := by
  unfold fX4_more fX5_more
  simp only [bnd]
  rcases stO (n := n) hs a with ⟨i, hi, e, g1, g2⟩ | ⟨g1, g2⟩
  · subst e
    rw [g1 2 μ hc.1, g2 μ' hm.1, bd_some, bd_some, if_neg z1, if_neg z1]
    rcases chO (n := n) (a := b) with ⟨hp, c1, c2⟩ | ⟨hp, c1, c2⟩
    · obtain ⟨is, his, rfl⟩ : ∃ j, j ≤ 1 ∧ b = nI j := by
        rcases hp with rfl | rfl
        · exact ⟨0, by decide, rfl⟩
        · exact ⟨1, by decide, rfl⟩
      obtain ⟨ν, q, w1, w2, w3⟩ := c_try (n := n) hn hs.1 hc.1 hi his
      rw [c1, c2, bd_some, bd_some, if_neg z1, if_neg z1, q, bd_some, x5_canBe hs.1.1 hm.1 hi his, bd_some]
      cases hcan : can (zv s) i is with
      | false =>
        rw [w2 hcan, bd_some, if_neg (show ¬ false = true by decide), if_pos z0, if_pos z0]
        exact D_tr (fC_fr w1) (fM_fr fM_rf) (D_refM hs (CI_fC hs w1 hc) hm (c := 3) (by decide))
      | true =>
        obtain ⟨ξ, q2, f2, hcx⟩ := w3 hcan
        obtain ⟨ζ, q3, f3⟩ := x4_neverIn (n := n) hn (can_ok hs.1 hi his hcan) (k := 14) (by decide) hcx
        have f4 := fC_tr f2 (fC_net f3 (by decide) (by decide))
        obtain ⟨η, q4, f5⟩ := x4_neverIn (n := n) hn hs.1.1 (k := 2) (by decide) (CI_fC hs f4 hc).1
        obtain ⟨θ, q5, t1, t2⟩ := m_try (n := n) hn hs.1 hm.1 hi his hcan (fun r m => some (r - nv (zv s), m))
        rw [q2, bd_some, if_pos (show true = true from rfl), if_neg z1, if_neg z1, q3, bd_some, q4, bd_some, p5_never (by omega) hs.1.1 hm.1, bd_some]
        rw [q5]
        exact D_same hs hc hm _ ⟨η, rfl, fC_tr f4 (fC_net f5 (by decide) (by decide))⟩ ⟨θ, rfl, t1, t2⟩
    · rw [c1, c2, bd_some, bd_some, if_pos z0, if_pos z0]
      exact D_refM hs hc hm (c := 2) (by decide)
  · rw [g1 2 μ hc.1, g2 μ' hm.1, bd_some, bd_some, if_pos z0, if_pos z0]
    exact D_refM hs hc hm (c := 1) (by decide)
theorem div2 {k : Nat} (h : k < 2 ^ 31) : nI k / 2 = nI (k / 2) := pk_div h (d := 2) (by decide) (by decide)
theorem rem2 {k : Nat} (h : k < 2 ^ 31) : jrem (nI k) 2 = nI (k % 2) := jrem_nI h (d := 2) (by decide) (by decide)
theorem w_worst (hn : 400 ≤ n) (hs : SOk s) {a : Int32} (ha : a = 0 ∨ a = 1) : ∀ (d k F F' : Nat) (x2 x3 : Int32) (μ μ' : Mem), k + d = 2 * vN (zv s) → d + 1 ≤ F → d + 1 ≤ F' → (x2 = -9 ∨ ∃ w, w < 1000 ∧ x2 = nI w) → CV 2 (zv s) μ → MV (zv s) μ' → E s μ μ' (fX4_worst_L22 n a F x2 x3 (nI k) μ) (fX5_worst_L24 n a F' x2 x3 (nI k) μ')
  | 0, k, F, F', x2, x3, μ, μ', hd, hF, hF', hx, hc, hm => by
    have h8 := hs.1.1.1
    obtain ⟨F, rfl⟩ : ∃ G, F = G + 1 := ⟨F - 1, by omega⟩
    obtain ⟨F', rfl⟩ : ∃ G, F' = G + 1 := ⟨F' - 1, by omega⟩
    rw [fX4_worst_L22, fX5_worst_L24, hc.1, hm.1, lit_2, pk_mul, if_pos (nI_le (by omega) (by omega)), if_pos (nI_le (by omega) (by omega))]
    exact E_pure hm _
  | d + 1, k, F, F', x2, x3, μ, μ', hd, hF, hF', hx, hc, hm => by
    have h8 := hs.1.1.1
    obtain ⟨F, rfl⟩ : ∃ G, F = G + 1 := ⟨F - 1, by omega⟩
    obtain ⟨F', rfl⟩ : ∃ G, F' = G + 1 := ⟨F' - 1, by omega⟩
    have hi : k / 2 < vN (zv s) := by omega
    have hr : k % 2 ≤ 1 := by omega
    obtain ⟨ν, q, w1, w2, w3⟩ := c_try (n := n) hn hs.1 hc hi hr
    have hgo : ¬ nI (2 * vN (zv s)) ≤ nI k := by rw [nI_leI (by omega) (by omega)]; omega
    rw [fX4_worst_L22, fX5_worst_L24, hc.1, hm.1, show (2 : Int32) * nI (vN (zv s)) = nI (2 * vN (zv s)) from pk_mul 2 _, if_neg hgo, if_neg hgo, div2 (by omega), rem2 (by omega), q, bd_some, x5_canBe hs.1.1 hm hi hr, bd_some]
    simp only [bnd, nI_1]
    cases hcan : can (zv s) (k / 2) (k % 2) with
    | false =>
      rw [w2 hcan, bd_some, if_neg (show ¬ false = true by decide), if_pos z0, if_pos z0]
      exact E_tr w1 fM_rf (w_worst hn hs ha d (k + 1) F F' x2 x3 ν μ' (by omega) (by omega) (by omega) hx (CV_eq h8 (fun x x1 x2 => (w1 x (by omega) (by omega)).1) hc) hm)
    | true =>
      obtain ⟨ξ, q2, f2, hcx⟩ := w3 hcan
      obtain ⟨ζ, q3, f3⟩ := x4_neverIn (n := n) hn (can_ok hs.1 hi hr hcan) (k := 14) (by decide) hcx
      have f4 := fC_tr f2 (fC_net f3 (by decide) (by decide))
      have hcζ : CV 2 (zv s) ζ := CV_eq h8 (fun x x1 x2 => (f4 x (by omega) (by omega)).1) hc
      obtain ⟨θ, q5, t1, t2⟩ := m_try (n := n) hn hs.1 hm hi hr hcan (fun r10 m11 => if x2 < 0 then fX5_worst_L24 n a F' (nI (k / 2) * 10 + nI (k % 2)) r10 (nI (k + 1)) m11 else if a = 1 then if r10 < x3 then fX5_worst_L24 n a F' (nI (k / 2) * 10 + nI (k % 2)) r10 (nI (k + 1)) m11 else fX5_worst_L24 n a F' x2 x3 (nI (k + 1)) m11 else if x3 < r10 then fX5_worst_L24 n a F' (nI (k / 2) * 10 + nI (k % 2)) r10 (nI (k + 1)) m11 else fX5_worst_L24 n a F' x2 x3 (nI (k + 1)) m11)
      rw [q2, bd_some, if_pos (show true = true from rfl), if_neg z1, if_neg z1, q3, bd_some, q5]
      have e1 : nI (k / 2) * 10 + nI (k % 2) = nI (10 * (k / 2) + k % 2) := by rw [lit_10, pk_mul, nI_add, Nat.mul_comm]
      have e2 : 10 * nI (k / 2) + nI (k % 2) = nI (10 * (k / 2) + k % 2) := by rw [lit_10, pk_mul, nI_add]
      rw [e1, e2]
      have take := w_worst hn hs ha d (k + 1) F F' (nI (10 * (k / 2) + k % 2)) (nv (chv (zv s) (k / 2) (k % 2))) ζ θ (by omega) (by omega) (by omega) (Or.inr ⟨_, by omega, rfl⟩) hcζ t1
      have keep := w_worst hn hs ha d (k + 1) F F' x2 x3 ζ θ (by omega) (by omega) (by omega) hx hcζ t1
      refine E_tr f4 t2 ?_
      generalize nv (chv (zv s) (k / 2) (k % 2)) = y at take keep ⊢
      rcases hx with rfl | ⟨w, hw, rfl⟩
      · rw [if_pos (show (-9 : Int32) < 0 by decide)]
        rcases ha with rfl | rfl
        · rw [if_neg (by decide), if_pos rfl, if_pos rfl]
          by_cases h : y ≤ x3
          · rw [if_pos h]; exact take
          · rw [if_neg h]; exact take
        · rw [if_pos rfl, if_pos rfl, if_pos rfl]
          by_cases h : x3 ≤ y
          · rw [if_pos h]; exact take
          · rw [if_neg h]; exact take
      · have hn9 : ¬ nI w = -9 := fun q => absurd (q ▸ nlt0 (a := w) (by omega)) (by decide)
        rw [if_neg (nlt0 (a := w) (by omega))]
        rcases ha with rfl | rfl
        · rw [if_neg (show ¬ (0 : Int32) = 1 by decide), if_neg (show ¬ (0 : Int32) = 1 by decide)]
          by_cases h : y ≤ x3
          · rw [if_pos h, if_neg hn9, if_pos trivial, if_neg (Int32.not_lt.mpr h)]; exact keep
          · rw [if_neg h, if_neg hn9, if_neg (by decide), if_pos (Int32.not_le.mp h)]; exact take
        · rw [if_pos rfl, if_pos rfl]
          by_cases h : x3 ≤ y
          · rw [if_pos h, if_neg hn9, if_pos trivial, if_neg (Int32.not_lt.mpr h)]; exact keep
          · rw [if_neg h, if_neg hn9, if_neg (by decide), if_pos (Int32.not_le.mp h)]; exact take
theorem tw_worst (hn : 400 ≤ n) (hs : SOk s) (hc : CI s μ) (hm : MI s μ') (a : Int32) : D μ μ' (fX4_worst n a μ) (fX5_worst n a μ') := by
  have h8 := hs.1.1.1
  unfold fX4_worst fX5_worst
  rcases chO (n := n) (a := a) with ⟨ha, g1, g2⟩ | ⟨ha, g1, g2⟩
  · rw [g1, g2, bd_some, bd_some, if_neg z1, if_neg z1]
    exact E_D hs hc hm (w_worst hn hs ha (2 * vN (zv s)) 0 n n (-9) 0 μ μ' (by omega) (by omega) (by omega) (Or.inl rfl) hc.1 hm.1)
  · rw [g1, g2, bd_some, bd_some, if_pos z0, if_pos z0]
    exact D_ref hs hc hm (c := 2) (by decide)
theorem tw_putIn (hn : 400 ≤ n) (hs : SOk s) (hc : CI s μ) (hm : MI s μ') (a b : Int32) : D μ μ' (fX4_putIn n a b μ) (fX5_putIn n a b μ') := by
  have h8 := hs.1.1.1
  unfold fX4_putIn fX5_putIn fX5_bound
  simp only [bnd]
  rcases stO (n := n) hs a with ⟨i, hi, e, g1, g2⟩ | ⟨g1, g2⟩
  · subst e
    rw [g1 2 μ hc.1, g2 μ' hm.1, bd_some, bd_some, if_neg z1, if_neg z1, hc.1.1]
    rcases tri b 1 9 1 9 rfl rfl (by decide) (by decide) (by decide) with ⟨h1, h2⟩ | ⟨l, h1, h2, e, h3, h4, h5, h6⟩ | ⟨l, h1, h2, e, h3, h4, h5, h6⟩
    · rw [if_neg h2, if_neg h2, bd_some, if_neg (by decide), if_neg (by decide)]
      exact D_ref hs hc hm (c := 4) (by decide)
    · rw [if_pos h3, if_neg h6, if_pos h3, if_pos h4, bd_some, if_pos rfl, hm.1.1]
      by_cases hN : vN (zv s) < 8
      · subst e
        obtain ⟨ν, q, w1, w2⟩ := p3_take (n := n) (by omega) hs.1.1 (k0 := 14) (k1 := 2) (by decide) hc.1
        obtain ⟨ξ, q2, w3, w4⟩ := p3_insert (n := n) (by omega) hs.1.1 hi hN w1 h1 h2
        obtain ⟨ζ, q3, w5⟩ := x4_neverIn (n := n) hn (inv_ok hs.1.1 hi hN h1 h2) (k := 14) (by decide) w3
        obtain ⟨x, q4, s1, s2, s3, s4⟩ := p5_save (n := n) (by omega) hs.1.1 hm.1 (w := 1) (by decide)
        have q4 : fX5_passesAll n 1 1 μ' = _ := q4
        rw [if_pos (show nI (vN (zv s)) < 8 from nI_lt (b := 8) hN (by decide)), if_neg (show ¬ nI (vN (zv s)) = 8 by rw [lit_8, nI_eq (by omega) (by decide)]; omega), if_pos rfl, q, bd_some, q2, bd_some, q3, bd_some, q4, bd_some, s1.1]
        have fc : fC μ ζ := fC_tr (fC_try w2 (by decide) (by decide)) (fC_tr (fC_try w4 (by decide) (by decide)) (fC_net w5 (by decide) (by decide)))
        refine p5_put58 (n := n) (by omega) hs.1.1 s1 hN hi (Rr := fun Y => D μ μ' _ Y) ?_
        intro y y1 y2 y3
        have hset : ∀ c, c ≠ 47 → (setI y 47 4 (y.1 47 4 + 1)).1 c = y.1 c := fun c hcc => setI1_ne hcc
        have hy4 : y.1 47 4 = nI (vN (zv s)) := by rw [y3.1 47 (by decide) (by decide) (by decide)]; exact s1.1
        have hy5 : y.1 47 5 = nI (vr (zv s)) := by rw [y3.1 47 (by decide) (by decide) (by decide)]; exact s1.2.1
        rw [nI_1, inb_nI (by omega) (by decide), gd_true, nI_clamp (by omega), hy4, nI_1]
        obtain ⟨z, q5, z1', z2, z3, z4, z5, z6⟩ := p5_called0 (n := n) (μ := setI (setI y 47 4 (nI (vN (zv s) + 1))) 51 (i + 1) 0) (by omega) (s := i + 1) (L := l) (by omega) h2
        have hMz : MV (inv (zv s) i l) z := by
          have hz47 : z.1 47 = (setI y 47 4 (nI (vN (zv s) + 1))).1 47 := by rw [z6.1 47 (by decide) (by decide) (by decide), setI1_ne (by decide)]
          refine ⟨by rw [hz47, setI1_eq, upd_eq]; rfl, by rw [hz47, setI1_eq, upd_ne (by decide)]; exact hy5, fun j hj => ?_⟩
          have hj : j < vN (zv s) + 1 := hj
          show z.1 51 j = nI (if j ≤ i then kd (zv s) j else if j = i + 1 then 0 else kd (zv s) (j - 1)) ∧ z.1 50 j = nI (if j ≤ i then sz (zv s) j else if j = i + 1 then l else sz (zv s) (j - 1)) ∧ ∀ m, m < (if j ≤ i then sz (zv s) j else if j = i + 1 then l else sz (zv s) (j - 1)) → z.1 49 (10 * j + m) = nI (if j ≤ i then nm (zv s) j m else if j = i + 1 then 0 else nm (zv s) (j - 1) m)
          rw [z5, setI1_eq, upd_get]
          by_cases e1 : j ≤ i
          · obtain ⟨r1, r2, r3⟩ := y1 j e1
            have hs9 := hs.1.2 j (by omega)
            rw [if_neg (by omega), if_pos e1, if_pos e1, setI1_ne (by decide), z3 j (by omega), setI1_ne (by decide), setI1_ne (by decide)]
            refine ⟨r1, r2, fun m hm' => ?_⟩
            rw [if_pos e1, z4 _ (by omega), setI1_ne (by decide), setI1_ne (by decide)]
            exact r3 m hm'
          · by_cases e2 : j = i + 1
            · subst e2
              rw [if_pos rfl, if_neg e1, if_neg e1, if_pos rfl, if_pos rfl]
              refine ⟨rfl, z1', fun m hm' => ?_⟩
              rw [if_neg e1, if_pos rfl, z2 m hm']
            · obtain ⟨r1, r2, r3⟩ := y2 j (by omega) (by omega)
              have hs9 := hs.1.2 (j - 1) (by omega)
              rw [if_neg e2, if_neg e1, if_neg e1, if_neg e2, if_neg e2, setI1_ne (by decide), z3 j e2, setI1_ne (by decide), setI1_ne (by decide)]
              refine ⟨r1, r2, fun m hm' => ?_⟩
              rw [if_neg e1, if_neg e2, z4 _ (by omega), setI1_ne (by decide), setI1_ne (by decide)]
              exact r3 m hm'
        obtain ⟨θ, q6, t1, t2, t3⟩ := p5_load (n := n) (μ := z) (by omega) hs.1.1 (w := 1) (by decide) (KV_58 (μ := x) (fun j => by rw [z6.1 58 (by decide) (by decide) (by decide), setI1_ne (by decide), setI1_ne (by decide), y3.1 58 (by decide) (by decide) (by decide)]) s2)
        have q6 : fX5_passesAll n 1 0 z = _ := q6
        have f47 : fM y (setI y 47 4 (nI (vN (zv s) + 1))) := ⟨fun c hcc => setI1_ne (by omega), fun _ _ => rfl, fun f h _ _ _ _ _ => by rw [setI1_eq, upd_ne h], fun u _ hk => KV_58 (fun j => by rw [setI1_ne (by decide)]) hk⟩
        rw [q5, bd_some, p5_never (by omega) (inv_ok hs.1.1 hi hN h1 h2) hMz, bd_some, q6, bd_some]
        exact D_same hs hc hm _ ⟨ζ, rfl, fc⟩ ⟨θ, rfl, t1, fM_tr (fM_save s4 s3) (fM_tr (fM_P3 y3) (fM_tr f47 (fM_tr (fM_P3 (P3_I (by decide))) (fM_tr (fM_P3 z6) (fM_load t3 t2)))))⟩
      · rw [if_neg (show ¬ nI (vN (zv s)) < 8 from nI_nlt (b := 8) (by omega) (by omega)), if_pos (show nI (vN (zv s)) = 8 by rw [show vN (zv s) = 8 by omega]; rfl), if_neg (by decide)]
        exact D_ref hs hc hm (c := 6) (by decide)
    · rw [if_pos h3, if_pos h6, if_pos h3, if_neg h4, bd_some, if_neg (by decide), if_neg (by decide)]
      exact D_ref hs hc hm (c := 6) (by decide)
  · rw [g1 2 μ hc.1, g2 μ' hm.1, bd_some, bd_some, if_pos z0, if_pos z0, if_neg (by decide), if_neg (by decide)]
    exact D_ref hs hc hm (c := 1) (by decide)
theorem tw_shut (hn : 400 ≤ n) (hs : SOk s) (hc : CI s μ) (hm : MI s μ') (a : Int32) : D μ μ' (fX4_shut n a μ) (fX5_shut n a μ') := by
  have h8 := hs.1.1.1
  unfold fX4_shut fX5_shut
  simp only [bnd]
  rcases stO (n := n) hs a with ⟨i, hi, e, g1, g2⟩ | ⟨g1, g2⟩
  · subst e
    obtain ⟨ν, q, w1, w2⟩ := p3_take (n := n) (by omega) hs.1.1 (k0 := 14) (k1 := 2) (by decide) hc.1
    obtain ⟨ξ, q2, w3, w4⟩ := p3_remove (n := n) (by omega) hs.1.1 hi w1
    obtain ⟨ζ, q3, w5⟩ := x4_neverIn (n := n) hn (rev_ok hs.1.1) (k := 14) (by decide) w3
    obtain ⟨x, q4, s1, s2, s3, s4⟩ := p5_save (n := n) (by omega) hs.1.1 hm.1 (w := 1) (by decide)
    have q4 : fX5_passesAll n 1 1 μ' = _ := q4
    have fc : fC μ ζ := fC_tr (fC_try w2 (by decide) (by decide)) (fC_tr (fC_try w4 (by decide) (by decide)) (fC_net w5 (by decide) (by decide)))
    rw [g1 2 μ hc.1, g2 μ' hm.1, bd_some, bd_some, if_neg z1, if_neg z1, q, bd_some, q2, bd_some, q3, bd_some, q4, bd_some, s1.1, show nI (vN (zv s)) - 1 = nI (vN (zv s) - 1) from pk_sub (b := 1) (by omega)]
    refine p5_shut32 (n := n) (by omega) hs.1.1 hi (by rw [setI1_eq, upd_eq]) (by rw [setI1_eq, upd_ne (by decide)]; exact s1.2.1) (fun j hj => ?_) (Rr := fun Y => D μ μ' _ Y) ?_
    · obtain ⟨r1, r2, r3⟩ := s1.2.2 j hj
      exact ⟨by rw [setI1_ne (by decide)]; exact r1, by rw [setI1_ne (by decide)]; exact r2, fun m hm' => by rw [setI1_ne (by decide)]; exact r3 m hm'⟩
    · intro z z1' z2
      obtain ⟨θ, q6, t1, t2, t3⟩ := p5_load (n := n) (μ := z) (by omega) hs.1.1 (w := 1) (by decide) (KV_58 (μ := x) (fun j => by rw [z2.1 58 (by decide) (by decide) (by decide), setI1_ne (by decide)]) s2)
      have q6 : fX5_passesAll n 1 0 z = _ := q6
      have f47 : fM x (setI x 47 4 (nI (vN (zv s) - 1))) := ⟨fun c hcc => setI1_ne (by omega), fun _ _ => rfl, fun f h _ _ _ _ _ => by rw [setI1_eq, upd_ne h], fun u _ hk => KV_58 (fun j => by rw [setI1_ne (by decide)]) hk⟩
      rw [p5_never (by omega) (rev_ok hs.1.1) z1', bd_some, q6, bd_some]
      exact D_same hs hc hm _ ⟨ζ, rfl, fc⟩ ⟨θ, rfl, t1, fM_tr (fM_save s4 s3) (fM_tr f47 (fM_tr (fM_P3 z2) (fM_load t3 t2)))⟩
  · rw [g1 2 μ hc.1, g2 μ' hm.1, bd_some, bd_some, if_pos z0, if_pos z0]
    exact D_ref hs hc hm (c := 1) (by decide)
end TA
