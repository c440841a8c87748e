/-! ===== the class: a station put in, one taken out ===== -/
section PI
variable {n : Nat} {v : Vw} {μ : Mem}
theorem p3_spell0 (hn : 40 ≤ n) {N k i s : Nat} (hN : N ≤ 8) (hi : i < N) (hk : μ.1 k 3 = nI N) (h1 : 1 ≤ s) (h9 : s ≤ 9) : Ok () (fun ν => ν.1 (k + 2) i = nI s ∧ (∀ l, l < s → ν.1 (k + 3 + 1 + i) l = nI 0) ∧ (∀ a, a ≠ k + 2 → a ≠ k + 3 + 1 + i → ν.1 a = μ.1 a) ∧ (∀ j, j ≠ i → ν.1 (k + 2) j = μ.1 (k + 2) j) ∧ ν.2 = μ.2) (fX3_spell n k (nI i) (nI s) μ) := by
  have hh : fX3_has n k (nI i) μ = some (nI 1, μ) := by
    unfold fX3_has
    simp (disch := omega) only [inb_nI, gd_true, nI_clamp, nI_leI, nI_ltI, nI_eq, if_pos, if_neg, reduceIte, bnd, bd_some, nI_add, pk_mul, pk_sub, lit_0, lit_1, lit_2, lit_3, lit_4, lit_5, lit_7, lit_8, lit_9, lit_10, lit_12, lit_14, lit_20, lit_31, lit_60, lit_96, lit_99, lit_255, hk]
  unfold fX3_spell
  rw [hh, bd_some, if_neg (by decide), if_neg (by rw [lit_1, nI_ltI (by omega) (by decide)]; omega), if_pos (by rw [lit_9, nI_leI (by omega) (by decide)]; exact h9)]
  refine loop_inv (fun F j x => fX3_spell_L22 n k (nI i) (nI s) F (nI j) x) (fun j x => (∀ l, l < j → x.1 (k + 3 + 1 + i) l = nI 0) ∧ (∀ a, a ≠ k + 3 + 1 + i → x.1 a = μ.1 a) ∧ x.2 = μ.2) (Ok () (fun ν => ν.1 (k + 2) i = nI s ∧ (∀ l, l < s → ν.1 (k + 3 + 1 + i) l = nI 0) ∧ (∀ a, a ≠ k + 2 → a ≠ k + 3 + 1 + i → ν.1 a = μ.1 a) ∧ (∀ j, j ≠ i → ν.1 (k + 2) j = μ.1 (k + 2) j) ∧ ν.2 = μ.2)) s ?_ ?_ n 0 _ ⟨fun l hl => by omega, fun _ _ => rfl, rfl⟩ (by omega) (by omega)
  · intro F x ⟨g1, g2, g3⟩
    rw [fX3_spell_L22, if_pos (nI_le (Nat.le_refl _) (by omega)), inb_nI (by omega) (by decide), gd_true, nI_clamp (by omega), bnd]
    refine ⟨_, rfl, by rw [setI1_eq, upd_eq], fun l hl => by rw [setI1_ne (by omega)]; exact g1 l hl, fun a h1 h2 => by rw [setI1_ne h1]; exact g2 a h2, fun j hj => by rw [setI1_eq, upd_ne hj, g2 _ (by omega)], g3⟩
  · intro F j x hj ⟨g1, g2, g3⟩ ih
    rw [fX3_spell_L22, if_neg (by rw [nI_leI (by omega) (by omega)]; omega), inb_nI (by omega) (by decide), gd_true, inb_nI (by omega) (by decide), gd_true, nI_clamp (by omega), nI_clamp (by omega), bnd, bnd, nI_1]
    refine ih _ ⟨fun l hl => ?_, fun a ha => by rw [setI1_ne ha]; exact g2 a ha, g3⟩
    rw [setI1_eq, upd_get]
    by_cases e : l = j
    · rw [if_pos e]; rfl
    · rw [if_neg e]; exact g1 l (by omega)
theorem p3_insert (hn : 40 ≤ n) (hv : Vok v) {k i s : Nat} (hi : i < vN v) (h8 : vN v < 8) (hc : CV k v μ) (h1 : 1 ≤ s) (h9 : s ≤ 9) : Ok () (fun ν => CV k (inv v i s) ν ∧ fr k (k + 12) μ ν) (fX3_insertBehind n k (nI i) (nI s) μ) := by
  unfold fX3_insertBehind
  rw [p3_has_t hv hc hi, bd_some, if_neg (by decide), hc.1, if_pos (by rw [lit_8, nI_ltI (by omega) (by decide)]; exact h8), bnd]
  -- downward: places j with m ≤ j ≤ N are already moved
  have key : ∀ (d m F : Nat) (x : Mem), m = i + 1 + d → m ≤ vN v → d < F → (x.1 k 3 = nI (vN v) ∧ x.1 k 4 = nI (vr v)) → (∀ j, j < m → CR k j (kd v j) (sz v j) (nm v j) x) → (∀ j, m < j → j ≤ vN v → CR k j (kd v (j - 1)) (sz v (j - 1)) (nm v (j - 1)) x) → fr k (k + 12) μ x → Ok () (fun ν => CV k (inv v i s) ν ∧ fr k (k + 12) μ ν) (fX3_insertBehind_L23 n k (nI i) (nI s) (fun m7 => bnd (setI m7 k 3 (m7.1 k 3 + 1)) fun m8 => gd (inb (nI i + 1) 8) (bnd (setI m8 (k + 1) (Int32.toNatClampNeg (nI i + 1)) 0) fun m9 => bd (fX3_spell n k (nI i + 1) (nI s) m9) fun r11 m10 => some ((), m10))) F (nI m) x) := by
    intro d
    induction d with
    | zero =>
      intro m F x hm hmN hF ⟨x1, x2⟩ hlo hhi hf
      obtain ⟨F, rfl⟩ : ∃ G, F = G + 1 := ⟨F - 1, by omega⟩
      rw [fX3_insertBehind_L23, if_pos (by rw [nI_1]; exact nI_le (by omega) (by omega)), bnd, x1, nI_1, nI_1, inb_nI (by omega) (by decide), gd_true, nI_clamp (by omega), bnd]
      generalize hy : setI (setI x k 3 (nI (vN v + 1))) (k + 1) (i + 1) 0 = y
      have y1 : y.1 k 3 = nI (vN v + 1) := by rw [← hy, setI1_ne (by omega), setI1_eq, upd_eq]
      have y2 : y.1 k 4 = nI (vr v) := by rw [← hy, setI1_ne (by omega), setI1_eq, upd_ne (by decide)]; exact x2
      have y3 : ∀ a, a ≠ k → a ≠ k + 1 → y.1 a = x.1 a := fun a h1 h2 => by rw [← hy, setI1_ne h2, setI1_ne h1]
      have y4 : ∀ j, y.1 (k + 1) j = if j = i + 1 then 0 else x.1 (k + 1) j := fun j => by rw [← hy, setI1_eq, upd_get, setI1_ne (by omega)]
      have fy : fr k (k + 12) μ y := by rw [← hy]; exact fr_tr hf (fr_tr (fr_I (by omega) (by omega)) (fr_I (by omega) (by omega)))
      obtain ⟨s2, q2, g1, g2, g3, g4, g5⟩ := p3_spell0 (n := n) (μ := y) (k := k) (i := i + 1) (s := s) hn (show vN v + 1 ≤ 8 by omega) (by omega) y1 h1 h9
      rw [q2, bd_some]
      refine ⟨s2, rfl, ⟨by rw [g3 _ (by omega) (by omega)]; exact y1, by rw [g3 _ (by omega) (by omega)]; exact y2, fun j hj => ?_⟩, fr_tr fy (fun a ha => ⟨g3 a (by omega) (by omega), by rw [g5]⟩)⟩
      have hj : j < vN v + 1 := hj
      show s2.1 (k + 1) j = nI (if j ≤ i then kd v j else if j = i + 1 then 0 else kd v (j - 1)) ∧ s2.1 (k + 2) j = nI (if j ≤ i then sz v j else if j = i + 1 then s else sz v (j - 1)) ∧ ∀ l, l < (if j ≤ i then sz v j else if j = i + 1 then s else sz v (j - 1)) → s2.1 (k + 3 + 1 + j) l = nI (if j ≤ i then nm v j l else if j = i + 1 then 0 else nm v (j - 1) l)
      rw [g3 (k + 1) (by omega) (by omega), y4]
      by_cases e2 : j = i + 1
      · subst e2
        have hni : ¬ (i + 1 ≤ i) := by omega
        simp only [hni, if_true, if_false]
        exact ⟨rfl, g1, g2⟩
      · rw [if_neg e2, g4 j e2, y3 (k + 2) (by omega) (by omega), g3 (k + 3 + 1 + j) (by omega) (by omega), y3 (k + 3 + 1 + j) (by omega) (by omega)]
        by_cases e : j ≤ i
        · simp only [e, if_true]; exact hlo j (by omega)
        · simp only [e, e2, if_false]; exact hhi j (by omega) (by omega)
    | succ d ih =>
      intro m F x hm hmN hF ⟨x1, x2⟩ hlo hhi hf
      obtain ⟨F, rfl⟩ : ∃ G, F = G + 1 := ⟨F - 1, by omega⟩
      obtain ⟨m, rfl⟩ : ∃ m', m = m' + 1 := ⟨m - 1, by omega⟩
      obtain ⟨s2, q2, g1, g2, g3, g4⟩ := p3_one (n := n) (k0 := k) (k1 := k) (a := m) (b := m + 1) (by omega) (by omega) (hv.2.2 m (by omega)).2.2.1 (hlo m (by omega)) (Or.inl rfl)
      rw [fX3_insertBehind_L23, if_neg (by rw [nI_1, nI_leI (by omega) (by omega)]; omega), lit_1, pk_sub (by omega), Nat.add_sub_cancel, q2, bd_some, bnd, ← lit_1, pk_m1]
      have keep : ∀ j, j ≠ m + 1 → ∀ K S f, CR k j K S f x → S ≤ 10 → CR k j K S f s2 := by
        intro j hj K S f ⟨r1, r2, r3⟩ hS
        exact ⟨by rw [(g3 j hj).1]; exact r1, by rw [(g3 j hj).2]; exact r2, fun l hl => by rw [g2 _ (by omega) (by omega) (by omega)]; exact r3 l hl⟩
      refine ih m F s2 (by omega) (by omega) (by omega) ⟨by rw [g2 _ (by omega) (by omega) (by omega)]; exact x1, by rw [g2 _ (by omega) (by omega) (by omega)]; exact x2⟩ (fun j hj => keep j (by omega) _ _ _ (hlo j (by omega)) (hv.2.2 j (by omega)).2.2.1) (fun j hj hjN => ?_) (fr_tr hf (fun y hy => ⟨g2 y (by omega) (by omega) (by omega), by rw [g4]⟩))
      by_cases e : j = m + 1
      · rw [e, Nat.add_sub_cancel]; exact g1
      · exact keep j e _ _ _ (hhi j (by omega) hjN) (hv.2.2 (j - 1) (by omega)).2.2.1
  exact key (vN v - (i + 1)) (vN v) n μ (by omega) (Nat.le_refl _) (by omega) ⟨hc.1, hc.2.1⟩ (fun j hj => hc.2.2 j hj) (fun j h1 h2 => by omega) fr_rf
theorem p3_remove (hn : 40 ≤ n) (hv : Vok v) {k i : Nat} (hi : i < vN v) (hc : CV k v μ) : Ok () (fun ν => CV k (rev v i) ν ∧ fr k (k + 12) μ ν) (fX3_remove n k (nI i) μ) := by
  have h8 := hv.1
  unfold fX3_remove
  rw [p3_has_t hv hc hi, bd_some, if_neg (by decide)]
  refine loop_inv (fun F m x => fX3_remove_L11 n k F (nI m) x) (fun m x => (x.1 k 3 = nI (vN v) ∧ x.1 k 4 = nI (vr v)) ∧ (∀ j, j < i → CR k j (kd v j) (sz v j) (nm v j) x) ∧ (∀ j, i ≤ j → j < m → CR k j (kd v (j + 1)) (sz v (j + 1)) (nm v (j + 1)) x) ∧ (∀ j, m ≤ j → j < vN v → CR k j (kd v j) (sz v j) (nm v j) x) ∧ fr k (k + 12) μ x ∧ i ≤ m) (Ok () (fun ν => CV k (rev v i) ν ∧ fr k (k + 12) μ ν)) (vN v - 1) ?_ ?_ n i μ ⟨⟨hc.1, hc.2.1⟩, fun j hj => hc.2.2 j (by omega), fun j h1 h2 => by omega, fun j h1 h2 => hc.2.2 j h2, fr_rf, Nat.le_refl _⟩ (by omega) (by omega)
  · intro F x ⟨⟨x1, x2⟩, g1, g2, g3, g4, g5⟩
    rw [fX3_remove_L11, x1, lit_1, pk_sub (by omega), if_pos (nI_le (Nat.le_refl _) (by omega)), bnd]
    refine ⟨_, rfl, ⟨by rw [setI1_eq, upd_eq]; rfl, by rw [setI1_eq, upd_ne (by decide)]; exact x2, fun j hj => ?_⟩, fr_tr g4 (fr_I (by omega) (by omega))⟩
    have hj : j < vN v - 1 := hj
    rw [setI1_ne (by omega), setI1_ne (by omega), setI1_ne (by omega)]
    show x.1 (k + 1) j = nI (if j < i then kd v j else kd v (j + 1)) ∧ x.1 (k + 2) j = nI (if j < i then sz v j else sz v (j + 1)) ∧ ∀ l, l < (if j < i then sz v j else sz v (j + 1)) → x.1 (k + 3 + 1 + j) l = nI (if j < i then nm v j l else nm v (j + 1) l)
    by_cases e : j < i
    · simp only [e, if_true]; exact g1 j e
    · simp only [e, if_false]; exact g2 j (by omega) hj
  · intro F m x hm ⟨⟨x1, x2⟩, g1, g2, g3, g4, g5⟩ ih
    obtain ⟨s2, q2, f1, f2, f3, f4⟩ := p3_one (n := n) (k0 := k) (k1 := k) (a := m + 1) (b := m) (by omega) (by omega) (hv.2.2 (m + 1) (by omega)).2.2.1 (g3 (m + 1) (by omega) (by omega)) (Or.inl rfl)
    rw [fX3_remove_L11, x1, lit_1, pk_sub (by omega), if_neg (by rw [nI_leI (by omega) (by omega)]; omega), nI_add, q2, bd_some, bnd]
    have keep : ∀ j, j ≠ m → ∀ K S f, CR k j K S f x → S ≤ 10 → CR k j K S f s2 := by
      intro j hj K S f ⟨r1, r2, r3⟩ hS
      exact ⟨by rw [(f3 j hj).1]; exact r1, by rw [(f3 j hj).2]; exact r2, fun l hl => by rw [f2 _ (by omega) (by omega) (by omega)]; exact r3 l hl⟩
    refine ih s2 ⟨⟨by rw [f2 _ (by omega) (by omega) (by omega)]; exact x1, by rw [f2 _ (by omega) (by omega) (by omega)]; exact x2⟩, fun j hj => keep j (by omega) _ _ _ (g1 j hj) (hv.2.2 j (by omega)).2.2.1, fun j h1 h2 => ?_, fun j h1 h2 => keep j (by omega) _ _ _ (g3 j (by omega) h2) (hv.2.2 j h2).2.2.1, fr_tr g4 (fun y hy => ⟨f2 y (by omega) (by omega) (by omega), by rw [f4]⟩), by omega⟩
    by_cases e : j = m
    · subst e; exact f1
    · exact keep j e _ _ _ (g2 j h1 (by omega)) (hv.2.2 (j + 1) (by omega)).2.2.1
end PI
