/-! ===== the model: stations changed ===== -/
/-- a place of the model's stations -/
def MR (i K S : Nat) (f : Nat → Nat) (μ : Mem) : Prop := μ.1 51 i = nI K ∧ μ.1 50 i = nI S ∧ ∀ j, j < S → μ.1 49 (10 * i + j) = nI (f j)
/-- only names, sizes and kinds change -/
def P3 (μ ν : Mem) : Prop := (∀ a, a ≠ 49 → a ≠ 50 → a ≠ 51 → ν.1 a = μ.1 a) ∧ ν.2 = μ.2
theorem P3_rf {μ : Mem} : P3 μ μ := ⟨fun _ _ _ _ => rfl, rfl⟩
theorem P3_tr {μ ν ξ : Mem} (h1 : P3 μ ν) (h2 : P3 ν ξ) : P3 μ ξ := ⟨fun a x1 x2 x3 => (h2.1 a x1 x2 x3).trans (h1.1 a x1 x2 x3), h2.2.trans h1.2⟩
theorem P3_PF {μ ν : Mem} (h : P3 μ ν) : PF μ ν := ⟨fun a h1 h2 h3 h4 _ => h.1 a h2 h3 h4, h.2, fun f _ _ _ _ => by rw [h.1 47 (by decide) (by decide) (by decide)]⟩
theorem P3_I {μ : Mem} {a k : Nat} {x : Int32} (h : a = 49 ∨ a = 50 ∨ a = 51) : P3 μ (setI μ a k x) := ⟨fun b h1 h2 h3 => setI1_ne (by omega), rfl⟩
section PQ
variable {n : Nat} {v : Vw} {μ : Mem}
theorem p5_canBe (hv : Vok v) (hc : MV v μ) {i is : Nat} (hi : i < vN v) (h1 : is ≤ 1) : fX5_canBe n (nI i) (nI is) μ = some (if is = 1 ∨ 1 < sz v i then nI 1 else nI 0, μ) := by
  have h8 := hv.1
  have hs := (hv.2.2 i hi).2.2.1
  have e2 := (hc.2.2 i hi).2.1
  unfold fX5_canBe
  by_cases q : is = 1
  · subst q
    rw [if_pos (show nI 1 = 1 from rfl), if_pos (Or.inl rfl)]
    rfl
  · rw [if_neg (by rw [lit_1, nI_eq (by omega) (by decide)]; exact q), inb_nI (by omega) (by decide), gd_true, nI_clamp (by omega), e2]
    by_cases q2 : 1 < sz v i
    · rw [if_neg (by rw [lit_1, nI_leI (by omega) (by decide)]; omega), if_pos (Or.inr q2)]
      rfl
    · rw [if_pos (by rw [lit_1, nI_leI (by omega) (by decide)]; omega), if_neg (by omega)]
      rfl
theorem p5_change (hv : Vok v) (hc : MV v μ) {i is : Nat} (hi : i < vN v) (h1 : is = 1 → sz v i ≤ 9) (h0 : is ≠ 1 → is = 0 ∧ 1 < sz v i) : Ok () (fun ν => MV (chv v i is) ν ∧ P3 μ ν) (fX5_changes n (nI i) (nI is) μ) := by
  have h8 := hv.1
  have hs := (hv.2.2 i hi).2.2.1
  have e2 := (hc.2.2 i hi).2.1
  have fin : ∀ x : Mem, (∀ a, a ≠ 49 → x.1 a = μ.1 a) → x.2 = μ.2 → (∀ j, j < vN v → ∀ l, l < (if j = i then (if is = 1 then sz v i + 1 else sz v i - 1) else sz v j) → x.1 49 (10 * j + l) = nI (if is = 1 ∧ j = i ∧ l = sz v i then 0 else nm v j l)) → ∀ y : Int32, y = nI (if is = 1 then sz v i + 1 else sz v i - 1) → MV (chv v i is) (setI x 50 i y) ∧ P3 μ (setI x 50 i y) := by
    intro x g1 g2 g3 y hy
    refine ⟨⟨?_, ?_, fun j hj => ⟨?_, ?_, fun l hl => ?_⟩⟩, fun a b1 b2 b3 => ?_, g2⟩
    · rw [setI1_ne (by decide), g1 47 (by decide)]; exact hc.1
    · rw [setI1_ne (by decide), g1 47 (by decide)]; exact hc.2.1
    · rw [setI1_ne (by decide), g1 51 (by decide)]; exact (hc.2.2 j hj).1
    · rw [setI1_eq, upd_get]
      show _ = nI (if j = i then (if is = 1 then sz v i + 1 else sz v i - 1) else sz v j)
      by_cases e : j = i
      · rw [if_pos e, if_pos e, hy]
      · rw [if_neg e, if_neg e, g1 50 (by decide)]; exact (hc.2.2 j hj).2.1
    · rw [setI1_ne (by decide)]
      exact g3 j hj l hl
    · rw [setI1_ne b2]; exact g1 a b1
  unfold fX5_changes
  simp only [bnd]
  rw [inb_nI (by omega) (by decide), nI_clamp (by omega)]
  simp only [gd_true]
  by_cases q : is = 1
  · have q9 := h1 q
    subst q
    rw [if_pos (show nI 1 = 1 from rfl), e2, lit_10, pk_mul, nI_add, inb_nI (by omega) (by decide), gd_true, nI_clamp (by omega), setI1_ne (by decide), e2]
    refine ⟨_, rfl, fin _ (fun a h => setI1_ne h) rfl (fun j hj l hl => ?_) _ ?_⟩
    · rw [setI1_eq, upd_get]
      have hsj := (hv.2.2 j hj).2.2.1
      by_cases e : j = i
      · subst e
        rw [if_pos rfl, if_pos rfl] at hl
        by_cases e2 : l = sz v j
        · rw [if_pos (by omega), if_pos ⟨rfl, rfl, e2⟩]; rfl
        · rw [if_neg (by omega), if_neg (fun q => e2 q.2.2)]; exact (hc.2.2 j hj).2.2 l (by omega)
      · rw [if_neg e] at hl
        rw [if_neg (by omega), if_neg (fun q => e q.2.1)]
        exact (hc.2.2 j hj).2.2 l hl
    · rw [if_pos rfl, show (2 * nI 1 - 1 : Int32) = nI 1 from rfl, nI_add]
  · obtain ⟨q0, q1⟩ := h0 q
    subst q0
    rw [if_neg (by decide), e2]
    refine ⟨_, rfl, fin _ (fun a h => rfl) rfl (fun j hj l hl => ?_) _ ?_⟩
    · rw [if_neg (by omega)]
      refine (hc.2.2 j hj).2.2 l ?_
      by_cases e : j = i
      · rw [if_pos e, if_neg (by decide)] at hl; rw [e]; omega
      · rw [if_neg e] at hl; exact hl
    · rw [if_neg (by decide), show (2 * nI 0 - 1 : Int32) = -1 from rfl]
      obtain ⟨t, ht⟩ : ∃ t, sz v i = t + 1 := ⟨sz v i - 1, by omega⟩
      rw [ht, pk_m1, Nat.add_sub_cancel]
theorem p5_called0 (hn : 200 ≤ n) {s L : Nat} (hs : s < 9) (h9 : L ≤ 9) : Ok () (fun ν => ν.1 50 s = nI L ∧ (∀ l, l < L → ν.1 49 (10 * s + l) = nI 0) ∧ (∀ j, j ≠ s → ν.1 50 j = μ.1 50 j) ∧ (∀ j, (j < 10 * s ∨ 10 * s + 10 ≤ j) → ν.1 49 j = μ.1 49 j) ∧ ν.1 51 = μ.1 51 ∧ P3 μ ν) (fX5_isCalled n (nI s) (nI L) μ) := by
  unfold fX5_isCalled
  rw [inb_nI hs (by decide), gd_true, nI_clamp (by omega), bnd]
  refine loop_inv (fun F l x => fX5_isCalled_L9 n (nI s) (nI L) F (nI l) x) (fun l x => x.1 50 s = nI L ∧ (∀ j, j < l → x.1 49 (10 * s + j) = nI 0) ∧ (∀ j, j ≠ s → x.1 50 j = μ.1 50 j) ∧ (∀ j, (j < 10 * s ∨ 10 * s + 10 ≤ j) → x.1 49 j = μ.1 49 j) ∧ x.1 51 = μ.1 51 ∧ P3 μ x) _ L ?_ ?_ n 0 _ ⟨by rw [setI1_eq, upd_eq], fun j hj => by omega, fun j hj => by rw [setI1_eq, upd_ne hj], fun j hj => by rw [setI1_ne (by decide)], by rw [setI1_ne (by decide)], P3_I (Or.inr (Or.inl rfl))⟩ (by omega) (by omega)
  · intro F x hx
    rw [fX5_isCalled_L9, if_pos (nI_le (Nat.le_refl _) (by omega))]
    exact ⟨x, rfl, hx⟩
  · intro F l x hl ⟨g1, g2, g3, g4, g5, g6⟩ ih
    rw [fX5_isCalled_L9, if_neg (by rw [nI_leI (by omega) (by omega)]; omega), lit_10, pk_mul, nI_add, inb_nI (by omega) (by decide), gd_true, nI_clamp (by omega), bnd, bnd, nI_1]
    refine ih _ ⟨by rw [setI1_ne (by decide)]; exact g1, fun j hj => ?_, fun j hj => by rw [setI1_ne (by decide)]; exact g3 j hj, fun j hj => by rw [setI1_eq, upd_ne (by omega)]; exact g4 j hj, by rw [setI1_ne (by decide)]; exact g5, P3_tr g6 (P3_I (Or.inl rfl))⟩
    rw [setI1_eq, upd_get]
    by_cases e : j = l
    · rw [if_pos (by omega)]; rfl
    · rw [if_neg (by omega)]; exact g2 j (by omega)
theorem p5_called (hn : 200 ≤ n) (hv : Vok v) (hc : MV v μ) {i L : Nat} (hi : i < vN v) (h9 : L ≤ 9) : Ok () (fun ν => MV (spv v i L) ν ∧ P3 μ ν) (fX5_isCalled n (nI i) (nI L) μ) := by
  have h8 := hv.1
  obtain ⟨s2, q2, g1, g2, g3, g4, g5, g6⟩ := p5_called0 (μ := μ) hn (s := i) (by omega) h9
  refine ⟨s2, q2, ⟨by rw [g6.1 47 (by decide) (by decide) (by decide)]; exact hc.1, by rw [g6.1 47 (by decide) (by decide) (by decide)]; exact hc.2.1, fun j hj => ?_⟩, g6⟩
  have hj : j < vN v := hj
  obtain ⟨r1, r2, r3⟩ := hc.2.2 j hj
  have hsj := (hv.2.2 j hj).2.2.1
  rw [g5]
  refine ⟨r1, ?_, fun l hl => ?_⟩
  · show _ = nI (if j = i then L else sz v j)
    by_cases e : j = i
    · rw [if_pos e, e]; exact g1
    · rw [if_neg e, g3 j e]; exact r2
  · have hl : l < (if j = i then L else sz v j) := hl
    show _ = nI (if j = i then 0 else nm v j l)
    by_cases e : j = i
    · subst e
      rw [if_pos rfl] at hl ⊢
      exact g2 l hl
    · rw [if_neg e] at hl ⊢
      rw [g4 _ (by omega)]
      exact r3 l hl
theorem p5_copy (hn : 200 ≤ n) {to of : Nat} (h1 : to < 9) (h2 : of < 9) (hne : to ≠ of) {K S : Nat} {f : Nat → Nat} (hS : S ≤ 10) (hr : MR of K S f μ) : Ok () (fun ν => MR to K S f ν ∧ (∀ i, i ≠ to → ∀ K S f, S ≤ 10 → MR i K S f μ → MR i K S f ν) ∧ P3 μ ν) (fX5_copies n (nI to) (nI of) μ) := by
  obtain ⟨r1, r2, r3⟩ := hr
  unfold fX5_copies
  rw [inb_nI h2 (by decide), inb_nI h1 (by decide)]
  simp only [gd_true, bnd]
  rw [nI_clamp (by omega), nI_clamp (by omega)]
  refine loop_inv (fun F l x => fX5_copies_L26 n (nI to) (nI of) F (nI l) x) (fun l x => x.1 51 to = nI K ∧ x.1 50 to = nI S ∧ (∀ j, j < l → x.1 49 (10 * to + j) = μ.1 49 (10 * of + j)) ∧ (∀ j, (j < 10 * to ∨ 10 * to + 10 ≤ j) → x.1 49 j = μ.1 49 j) ∧ (∀ j, j ≠ to → x.1 50 j = μ.1 50 j ∧ x.1 51 j = μ.1 51 j) ∧ P3 μ x) _ 10 ?_ ?_ n 0 _ ⟨by rw [setI1_eq, upd_eq, setI1_ne (by decide)]; exact r1, by rw [setI1_ne (by decide), setI1_eq, upd_eq]; exact r2, fun j hj => by omega, fun j hj => by rw [setI1_ne (by decide), setI1_ne (by decide)], fun j hj => ⟨by rw [setI1_ne (by decide), setI1_eq, upd_ne hj], by rw [setI1_eq, upd_ne hj, setI1_ne (by decide)]⟩, P3_tr (P3_I (Or.inr (Or.inl rfl))) (P3_I (Or.inr (Or.inr rfl)))⟩ (by omega) (by omega)
  · intro F x ⟨g1, g2, g3, g4, g5, g6⟩
    rw [fX5_copies_L26, if_pos (by decide)]
    refine ⟨x, rfl, ⟨g1, g2, fun j hj => by rw [g3 j (by omega)]; exact r3 j hj⟩, fun i hi K S f hS ⟨s1, s2, s3⟩ => ⟨by rw [(g5 i hi).2]; exact s1, by rw [(g5 i hi).1]; exact s2, fun j hj => by rw [g4 _ (by omega)]; exact s3 j hj⟩, g6⟩
  · intro F l x hl ⟨g1, g2, g3, g4, g5, g6⟩ ih
    rw [fX5_copies_L26, if_neg (by rw [lit_10, nI_leI (by decide) (by omega)]; omega), lit_10, pk_mul, pk_mul, nI_add, nI_add, inb_nI (by omega) (by decide), gd_true, inb_nI (by omega) (by decide), gd_true, nI_clamp (by omega), nI_clamp (by omega), bnd, bnd, nI_1]
    refine ih _ ⟨by rw [setI1_ne (by decide)]; exact g1, by rw [setI1_ne (by decide)]; exact g2, fun j hj => ?_, fun j hj => by rw [setI1_eq, upd_ne (by omega)]; exact g4 j hj, fun j hj => by rw [setI1_ne (by decide), setI1_ne (by decide)]; exact g5 j hj, P3_tr g6 (P3_I (Or.inl rfl))⟩
    rw [setI1_eq, upd_get]
    by_cases e : j = l
    · rw [if_pos (by omega), e, g4 _ (by omega)]
    · rw [if_neg (by omega)]; exact g3 j (by omega)
theorem p5_put58 (hn : 200 ≤ n) (hv : Vok v) (hc : MV v μ) (h8 : vN v < 8) {i : Nat} (hi : i < vN v) {x2 : Int32} {Kk : Mem → Option (Int32 × Mem)} {Rr : Option (Int32 × Mem) → Prop} (hK : ∀ x, (∀ j, j ≤ i → MR j (kd v j) (sz v j) (nm v j) x) → (∀ j, i + 1 < j → j ≤ vN v → MR j (kd v (j - 1)) (sz v (j - 1)) (nm v (j - 1)) x) → P3 μ x → Rr (Kk x)) : Rr (fX5_putIn_L58 n (nI i) x2 Kk n (nI (vN v)) μ) := by
  have key : ∀ (d m F : Nat) (x : Mem), m = i + 1 + d → m ≤ vN v → d < F → (∀ j, j < m → MR j (kd v j) (sz v j) (nm v j) x) → (∀ j, m < j → j ≤ vN v → MR j (kd v (j - 1)) (sz v (j - 1)) (nm v (j - 1)) x) → P3 μ x → Rr (fX5_putIn_L58 n (nI i) x2 Kk F (nI m) x) := by
    intro d
    induction d with
    | zero =>
      intro m F x hm hmN hF hlo hhi hf
      obtain ⟨F, rfl⟩ : ∃ G, F = G + 1 := ⟨F - 1, by omega⟩
      rw [fX5_putIn_L58, if_pos (by rw [nI_1]; exact nI_le (by omega) (by omega))]
      exact hK x (fun j hj => hlo j (by omega)) (fun j h1 h2 => hhi j (by omega) h2) hf
    | succ d ih =>
      intro m F x hm hmN hF hlo hhi hf
      obtain ⟨F, rfl⟩ : ∃ G, F = G + 1 := ⟨F - 1, by omega⟩
      obtain ⟨m, rfl⟩ : ∃ m', m = m' + 1 := ⟨m - 1, by omega⟩
      obtain ⟨s2, q2, g1, g2, g3⟩ := p5_copy (n := n) hn (to := m + 1) (of := m) (by omega) (by omega) (by omega) (hv.2.2 m (by omega)).2.2.1 (hlo m (by omega))
      rw [fX5_putIn_L58, if_neg (by rw [nI_1, nI_leI (by omega) (by omega)]; omega), lit_1, pk_sub (by omega), Nat.add_sub_cancel, q2, bd_some, bnd, ← lit_1, pk_m1]
      refine ih m F s2 (by omega) (by omega) (by omega) (fun j hj => g2 j (by omega) _ _ _ (hv.2.2 j (by omega)).2.2.1 (hlo j (by omega))) (fun j hj hjN => ?_) (P3_tr hf g3)
      by_cases e : j = m + 1
      · rw [e, Nat.add_sub_cancel]; exact g1
      · exact g2 j e _ _ _ (hv.2.2 (j - 1) (by omega)).2.2.1 (hhi j (by omega) hjN)
  exact key (vN v - (i + 1)) (vN v) n μ (by omega) (Nat.le_refl _) (by omega) (fun j hj => hc.2.2 j hj) (fun j h1 h2 => by omega) P3_rf
theorem p5_shut32 (hn : 200 ≤ n) (hv : Vok v) {i : Nat} (hi : i < vN v) (h0 : μ.1 47 4 = nI (vN v - 1)) (h5 : μ.1 47 5 = nI (vr v)) (hc : ∀ j, j < vN v → MR j (kd v j) (sz v j) (nm v j) μ) {Rr : Option (Int32 × Mem) → Prop} (hK : ∀ x, MV (rev v i) x → P3 μ x → Rr (bd (fX5_neverNow n x) fun r7 m6 => bd (fX5_passesAll n 1 0 m6) fun r9 m8 => some (r7, m8))) : Rr (fX5_shut_L32 n n (nI i) μ) := by
  have h8 := hv.1
  refine loop_inv (fun F m x => fX5_shut_L32 n F (nI m) x) (fun m x => (∀ j, j < i → MR j (kd v j) (sz v j) (nm v j) x) ∧ (∀ j, i ≤ j → j < m → MR j (kd v (j + 1)) (sz v (j + 1)) (nm v (j + 1)) x) ∧ (∀ j, m ≤ j → j < vN v → MR j (kd v j) (sz v j) (nm v j) x) ∧ P3 μ x ∧ i ≤ m) Rr (vN v - 1) ?_ ?_ n i μ ⟨fun j hj => hc j (by omega), fun j h1 h2 => by omega, fun j h1 h2 => hc j h2, P3_rf, Nat.le_refl _⟩ (by omega) (by omega)
  · intro F x ⟨g1, g2, g3, g4, g5⟩
    rw [fX5_shut_L32, g4.1 47 (by decide) (by decide) (by decide), h0, if_pos (nI_le (Nat.le_refl _) (by omega))]
    refine hK x ⟨by rw [g4.1 47 (by decide) (by decide) (by decide)]; exact h0, by rw [g4.1 47 (by decide) (by decide) (by decide)]; exact h5, fun j hj => ?_⟩ g4
    have hj : j < vN v - 1 := hj
    show x.1 51 j = nI (if j < i then kd v j else kd v (j + 1)) ∧ x.1 50 j = nI (if j < i then sz v j else sz v (j + 1)) ∧ ∀ l, l < (if j < i then sz v j else sz v (j + 1)) → x.1 49 (10 * j + l) = nI (if j < i then nm v j l else nm v (j + 1) l)
    by_cases e : j < i
    · simp only [e, if_true]; exact g1 j e
    · simp only [e, if_false]; exact g2 j (by omega) hj
  · intro F m x hm ⟨g1, g2, g3, g4, g5⟩ ih
    obtain ⟨s2, q2, f1, f2, f3⟩ := p5_copy (n := n) hn (to := m) (of := m + 1) (by omega) (by omega) (by omega) (hv.2.2 (m + 1) (by omega)).2.2.1 (g3 (m + 1) (by omega) (by omega))
    rw [fX5_shut_L32, g4.1 47 (by decide) (by decide) (by decide), h0, if_neg (by rw [nI_leI (by omega) (by omega)]; omega), nI_1, q2, bd_some, bnd]
    refine ih s2 ⟨fun j hj => f2 j (by omega) _ _ _ (hv.2.2 j (by omega)).2.2.1 (g1 j hj), fun j h1 h2 => ?_, fun j h1 h2 => f2 j (by omega) _ _ _ (hv.2.2 j h2).2.2.1 (g3 j (by omega) h2), P3_tr g4 f3, by omega⟩
    by_cases e : j = m
    · subst e; exact f1
    · exact f2 j e _ _ _ (hv.2.2 (j + 1) (by omega)).2.2.1 (g2 j h1 (by omega))
end PQ
