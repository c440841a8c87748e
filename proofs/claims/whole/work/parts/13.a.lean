/-! ===== the class: stations are taken over and changed ===== -/
def chv (v : Vw) (i is : Nat) : Vw := (vN v, vr v, v.2.2.1, fun j => if j = i then (if is = 1 then sz v i + 1 else sz v i - 1) else sz v j, fun j l => if is = 1 ∧ j = i ∧ l = sz v i then 0 else nm v j l)
def spv (v : Vw) (i s : Nat) : Vw := (vN v, vr v, v.2.2.1, fun j => if j = i then s else sz v j, fun j l => if j = i then 0 else nm v j l)
def inv (v : Vw) (i s : Nat) : Vw := (vN v + 1, vr v, fun j => if j ≤ i then kd v j else if j = i + 1 then 0 else kd v (j - 1), fun j => if j ≤ i then sz v j else if j = i + 1 then s else sz v (j - 1), fun j l => if j ≤ i then nm v j l else if j = i + 1 then 0 else nm v (j - 1) l)
def rev (v : Vw) (i : Nat) : Vw := (vN v - 1, vr v, fun j => if j < i then kd v j else kd v (j + 1), fun j => if j < i then sz v j else sz v (j + 1), fun j l => if j < i then nm v j l else nm v (j + 1) l)
def V9 (v : Vw) : Prop := Vok v ∧ ∀ i, i < vN v → sz v i ≤ 9
theorem chv_ok {v : Vw} (h : Vok v) {i is : Nat} (h1 : is = 1 → sz v i ≤ 9) (h0 : is ≠ 1 → 1 < sz v i) : Vok (chv v i is) := by
  obtain ⟨a, b, c⟩ := h
  refine ⟨a, b, fun j hj => ?_⟩
  obtain ⟨c1, c2, c3, c4⟩ := c j hj
  show kd v j ≤ 5 ∧ 1 ≤ (if j = i then (if is = 1 then sz v i + 1 else sz v i - 1) else sz v j) ∧ (if j = i then (if is = 1 then sz v i + 1 else sz v i - 1) else sz v j) ≤ 10 ∧ ∀ l, l < (if j = i then (if is = 1 then sz v i + 1 else sz v i - 1) else sz v j) → (if is = 1 ∧ j = i ∧ l = sz v i then 0 else nm v j l) < 26
  by_cases e : j = i
  · subst e
    by_cases q : is = 1
    · have := h1 q
      simp only [q, if_true, true_and]
      refine ⟨c1, by omega, by omega, fun l hl => ?_⟩
      by_cases e2 : l = sz v j
      · rw [if_pos e2]; decide
      · rw [if_neg e2]; exact c4 l (by omega)
    · have := h0 q
      simp only [q, if_false, if_true, false_and]
      exact ⟨c1, by omega, by omega, fun l hl => c4 l (by omega)⟩
  · simp only [e, if_false, false_and, and_false]
    exact ⟨c1, c2, c3, c4⟩
theorem spv_ok {v : Vw} (h : Vok v) {i s : Nat} (h1 : 1 ≤ s) (h9 : s ≤ 9) : Vok (spv v i s) := by
  obtain ⟨a, b, c⟩ := h
  refine ⟨a, b, fun j hj => ?_⟩
  obtain ⟨c1, c2, c3, c4⟩ := c j hj
  show kd v j ≤ 5 ∧ 1 ≤ (if j = i then s else sz v j) ∧ (if j = i then s else sz v j) ≤ 10 ∧ ∀ l, l < (if j = i then s else sz v j) → (if j = i then 0 else nm v j l) < 26
  by_cases e : j = i
  · simp only [e, if_true]
    rw [e] at c1
    exact ⟨c1, h1, by omega, fun _ _ => by decide⟩
  · simp only [e, if_false]
    exact ⟨c1, c2, c3, c4⟩
theorem inv_ok {v : Vw} (h : Vok v) {i s : Nat} (hi : i < vN v) (h8 : vN v < 8) (h1 : 1 ≤ s) (h9 : s ≤ 9) : Vok (inv v i s) := by
  obtain ⟨a, b, c⟩ := h
  refine ⟨by show vN v + 1 ≤ 8; omega, b, fun j hj => ?_⟩
  have hj : j < vN v + 1 := hj
  show (if j ≤ i then kd v j else if j = i + 1 then 0 else kd v (j - 1)) ≤ 5 ∧ 1 ≤ (if j ≤ i then sz v j else if j = i + 1 then s else sz v (j - 1)) ∧ (if j ≤ i then sz v j else if j = i + 1 then s else sz v (j - 1)) ≤ 10 ∧ ∀ l, l < (if j ≤ i then sz v j else if j = i + 1 then s else sz v (j - 1)) → (if j ≤ i then nm v j l else if j = i + 1 then 0 else nm v (j - 1) l) < 26
  by_cases e : j ≤ i
  · simp only [e, if_true]
    exact c j (by omega)
  · by_cases e2 : j = i + 1
    · have hni : ¬ (i + 1 ≤ i) := by omega
      rw [e2]
      simp only [hni, if_true, if_false]
      exact ⟨by decide, h1, by omega, fun _ _ => by decide⟩
    · simp only [e, e2, if_false]
      exact c (j - 1) (by omega)
theorem rev_ok {v : Vw} (h : Vok v) {i : Nat} : Vok (rev v i) := by
  obtain ⟨a, b, c⟩ := h
  refine ⟨by show vN v - 1 ≤ 8; omega, b, fun j hj => ?_⟩
  have hj : j < vN v - 1 := hj
  show (if j < i then kd v j else kd v (j + 1)) ≤ 5 ∧ 1 ≤ (if j < i then sz v j else sz v (j + 1)) ∧ (if j < i then sz v j else sz v (j + 1)) ≤ 10 ∧ ∀ l, l < (if j < i then sz v j else sz v (j + 1)) → (if j < i then nm v j l else nm v (j + 1) l) < 26
  by_cases e : j < i
  · simp only [e, if_true]; exact c j (by omega)
  · simp only [e, if_false]; exact c (j + 1) (by omega)
/-- a place of the class's stations: kind, letters, name -/
def CR (k i : Nat) (K S : Nat) (f : Nat → Nat) (μ : Mem) : Prop := μ.1 (k + 1) i = nI K ∧ μ.1 (k + 2) i = nI S ∧ ∀ j, j < S → μ.1 (k + 3 + 1 + i) j = nI (f j)
theorem cpy1_ne {μ : Mem} {a d sp dp n x : Nat} (h : x ≠ d) : (cpyI μ a d sp dp n).1 x = μ.1 x := by simp [cpyI, h]
theorem cpy1_eq {μ : Mem} {a d sp dp n : Nat} : (cpyI μ a d sp dp n).1 d = va_cpy (μ.1 a) (μ.1 d) sp dp n := by simp [cpyI]
section PT
variable {n : Nat} {v : Vw} {μ : Mem}
theorem p3_one {k0 k1 : Nat} {a b : Nat} (ha : a < 8) (hb : b < 8) {K S : Nat} {f : Nat → Nat} (hS : S ≤ 10) (hr : CR k1 a K S f μ) (hk : k0 = k1 ∨ k0 + 12 ≤ k1 ∨ k1 + 12 ≤ k0) : Ok () (fun ν => CR k0 b K S f ν ∧ (∀ x, x ≠ k0 + 1 → x ≠ k0 + 2 → x ≠ k0 + 3 + 1 + b → ν.1 x = μ.1 x) ∧ (∀ j, j ≠ b → ν.1 (k0 + 1) j = μ.1 (k0 + 1) j ∧ ν.1 (k0 + 2) j = μ.1 (k0 + 2) j) ∧ ν.2 = μ.2) (fX3_takeOne n k0 k1 (nI a) (nI b) μ) := by
  obtain ⟨r1, r2, r3⟩ := hr
  have hcp : cpok 0 0 10 10 10 = true := by decide +kernel
  have z0 : Int32.toNatClampNeg 0 = 0 := rfl
  have z10 : Int32.toNatClampNeg 10 = 10 := by decide +kernel
  unfold fX3_takeOne
  rw [inb_nI ha (by decide), inb_nI hb (by decide), hcp]
  simp only [gd_true, bnd]
  rw [nI_clamp (by omega), nI_clamp (by omega), z0, z10]
  refine ⟨_, rfl, ⟨?_, ?_, fun j hj => ?_⟩, fun x h1 h2 h3 => ?_, fun j hj => ⟨?_, ?_⟩, rfl⟩
  · rw [cpy1_ne (by omega), setI1_ne (by omega), setI1_eq, upd_eq, r1]
  · rw [cpy1_ne (by omega), setI1_eq, upd_eq, setI1_ne (by omega), r2]
  · rw [cpy1_eq]
    show (if 0 ≤ j ∧ j < 0 + 10 then _ else _) = _
    rw [if_pos (by omega), setI1_ne (by omega), setI1_ne (by omega), Nat.zero_add, Nat.sub_zero]
    exact r3 j hj
  · rw [cpy1_ne h3, setI1_ne h2, setI1_ne h1]
  · rw [cpy1_ne (by omega), setI1_ne (by omega), setI1_eq, upd_ne hj]
  · rw [cpy1_ne (by omega), setI1_eq, upd_ne hj, setI1_ne (by omega)]
theorem p3_take (hn : 40 ≤ n) (hv : Vok v) {k0 k1 : Nat} (hk : k0 + 12 ≤ k1 ∨ k1 + 12 ≤ k0) (hc : CV k1 v μ) : Ok () (fun ν => CV k0 v ν ∧ fr k0 (k0 + 12) μ ν) (fX3_take n k0 k1 μ) := by
  have h8 := hv.1
  have hr1 := hv.2.1
  have hB : isB (nI (vr v)) = true := by
    rcases (show vr v = 0 ∨ vr v = 1 by omega) with q | q <;> rw [q] <;> rfl
  unfold fX3_take
  rw [bnd, setI1_ne (by omega), hc.2.1, hB, gd_true, bnd, hc.1]
  have f0 : fr k0 (k0 + 12) μ (setI (setI μ k0 3 (nI (vN v))) k0 4 (nI (vr v))) := fr_tr (fr_I (by omega) (by omega)) (fr_I (by omega) (by omega))
  refine loop_inv (fun F i s => fX3_take_L18 n k0 k1 F (nI i) s) (fun i s => (s.1 k0 3 = nI (vN v) ∧ s.1 k0 4 = nI (vr v)) ∧ (∀ j, j < i → CR k0 j (kd v j) (sz v j) (nm v j) s) ∧ fr k0 (k0 + 12) μ s) (Ok () (fun ν => CV k0 v ν ∧ fr k0 (k0 + 12) μ ν)) (vN v) ?_ ?_ n 0 _ ⟨⟨by rw [setI1_eq, upd_ne (by decide), setI1_eq, upd_eq], by rw [setI1_eq, upd_eq]⟩, fun j hj => by omega, f0⟩ (by omega) (by omega)
  · intro F s ⟨⟨h1, h2⟩, h3, h4⟩
    rw [fX3_take_L18, h1, if_pos (nI_le (Nat.le_refl _) (by omega))]
    exact ⟨s, rfl, ⟨h1, h2, fun i hi => h3 i hi⟩, h4⟩
  · intro F i s hi ⟨⟨h1, h2⟩, h3, h4⟩ ih
    have hc' := CV_fr hv h4 (by omega) hc
    obtain ⟨s2, q2, g1, g2, g3, g4⟩ := p3_one (n := n) (k0 := k0) (show i < 8 by omega) (show i < 8 by omega) (hv.2.2 i hi).2.2.1 (hc'.2.2 i hi) (by omega)
    rw [fX3_take_L18, h1, if_neg (by rw [nI_leI (by omega) (by omega)]; omega), q2, bd_some, bnd, nI_1]
    refine ih s2 ⟨⟨by rw [g2 k0 (by omega) (by omega) (by omega)]; exact h1, by rw [g2 k0 (by omega) (by omega) (by omega)]; exact h2⟩, fun j hj => ?_, fr_tr h4 (fun x hx => ⟨g2 x (by omega) (by omega) (by omega), by rw [g4]⟩)⟩
    by_cases e : j = i
    · subst e; exact g1
    · obtain ⟨r1, r2, r3⟩ := h3 j (by omega)
      exact ⟨by rw [(g3 j e).1]; exact r1, by rw [(g3 j e).2]; exact r2, fun l hl => by rw [g2 _ (by omega) (by omega) (by omega)]; exact r3 l hl⟩
theorem p3_change0 (hv : Vok v) {k i : Nat} (hi : i < vN v) (hc : CV k v μ) (h1 : 1 < sz v i) : Ok (nI 1) (fun ν => CV k (chv v i 0) ν ∧ fr k (k + 12) μ ν) (fX3_change n k (nI i) (nI 0) μ) := by
  have h8 := hv.1
  have e2 := (hc.2.2 i hi).2.1
  have a3 := (hv.2.2 i hi).2.2.1
  unfold fX3_change
  rw [p3_has_t hv hc hi, bd_some, if_neg (by decide), inb_nI (by omega) (by decide), gd_true, nI_clamp (by omega), e2, bnd, if_pos (show nI 0 = 0 from rfl), if_pos (by rw [lit_1, nI_ltI (by decide) (by omega)]; exact h1), gd_true, bnd, lit_1, pk_sub (by omega)]
  refine ⟨_, rfl, ⟨?_, ?_, fun j hj => ?_⟩, fr_I (by omega) (by omega)⟩
  · rw [setI1_ne (by omega)]; exact hc.1
  · rw [setI1_ne (by omega)]; exact hc.2.1
  · obtain ⟨r1, r2, r3⟩ := hc.2.2 j hj
    rw [setI1_ne (show k + 1 ≠ k + 2 by omega), setI1_ne (show k + 3 + 1 + j ≠ k + 2 by omega), setI1_eq, upd_get]
    refine ⟨r1, ?_, fun l hl => ?_⟩
    · show _ = nI (if j = i then (if 0 = 1 then sz v i + 1 else sz v i - 1) else sz v j)
      by_cases e : j = i
      · rw [if_pos e, if_pos e, if_neg (by decide)]
      · rw [if_neg e, if_neg e]; exact r2
    · have hl : l < (if j = i then (if 0 = 1 then sz v i + 1 else sz v i - 1) else sz v j) := hl
      show _ = nI (if 0 = 1 ∧ j = i ∧ l = sz v i then 0 else nm v j l)
      rw [if_neg (by omega)]
      refine r3 l ?_
      by_cases e : j = i
      · rw [if_pos e, if_neg (by decide)] at hl; rw [e]; omega
      · rw [if_neg e] at hl; exact hl
theorem p3_change1 (hv : Vok v) {k i : Nat} (hi : i < vN v) (hc : CV k v μ) (h1 : sz v i ≤ 9) : Ok (nI 1) (fun ν => CV k (chv v i 1) ν ∧ fr k (k + 12) μ ν) (fX3_change n k (nI i) (nI 1) μ) := by
  have h8 := hv.1
  have e2 := (hc.2.2 i hi).2.1
  unfold fX3_change
  rw [p3_has_t hv hc hi, bd_some, if_neg (by decide), inb_nI (by omega) (by decide), gd_true, nI_clamp (by omega), e2, bnd, if_neg (by decide), if_pos (by rw [lit_10, nI_ltI (by omega) (by decide)]; omega), gd_true, inb_nI (by omega) (by decide), gd_true, nI_clamp (by omega), bnd, gd_true, bnd, nI_1]
  refine ⟨_, rfl, ⟨?_, ?_, fun j hj => ?_⟩, fr_tr (fr_I (by omega) (by omega)) (fr_I (by omega) (by omega))⟩
  · rw [setI1_ne (by omega), setI1_ne (by omega)]; exact hc.1
  · rw [setI1_ne (by omega), setI1_ne (by omega)]; exact hc.2.1
  · obtain ⟨r1, r2, r3⟩ := hc.2.2 j hj
    have hj8 : j < vN v := hj
    rw [setI1_ne (by omega), setI1_ne (by omega), setI1_eq, upd_get, setI1_ne (show k + 2 ≠ k + 3 + 1 + i by omega), setI1_ne (show k + 3 + 1 + j ≠ k + 2 by omega)]
    refine ⟨r1, ?_, fun l hl => ?_⟩
    · show _ = nI (if j = i then (if 1 = 1 then sz v i + 1 else sz v i - 1) else sz v j)
      by_cases e : j = i
      · rw [if_pos e, if_pos e, if_pos rfl]
      · rw [if_neg e, if_neg e]; exact r2
    · have hl : l < (if j = i then (if 1 = 1 then sz v i + 1 else sz v i - 1) else sz v j) := hl
      show _ = nI (if 1 = 1 ∧ j = i ∧ l = sz v i then 0 else nm v j l)
      by_cases e : j = i
      · subst e
        rw [if_pos rfl, if_pos rfl] at hl
        rw [setI1_eq, upd_get]
        by_cases e2 : l = sz v j
        · rw [if_pos e2, if_pos ⟨rfl, rfl, e2⟩]; rfl
        · rw [if_neg e2, if_neg (fun q => e2 q.2.2)]; exact r3 l (by omega)
      · rw [if_neg e] at hl
        rw [setI1_ne (by omega), if_neg (fun q => e q.2.1)]
        exact r3 l hl
theorem p3_change0n (hv : Vok v) {k i : Nat} (hi : i < vN v) (hc : CV k v μ) (h1 : ¬ 1 < sz v i) : fX3_change n k (nI i) (nI 0) μ = some (nI 0, μ) := by
  have h8 := hv.1
  have e2 := (hc.2.2 i hi).2.1
  unfold fX3_change
  rw [p3_has_t hv hc hi, bd_some, if_neg (by decide), inb_nI (by omega) (by decide), gd_true, nI_clamp (by omega), e2, bnd, if_pos (show nI 0 = 0 from rfl), if_neg (by rw [lit_1, nI_ltI (by decide) (by omega)]; exact h1)]
  rfl
theorem p3_spell (hn : 40 ≤ n) (hv : Vok v) {k i s : Nat} (hi : i < vN v) (hc : CV k v μ) (h1 : 1 ≤ s) (h9 : s ≤ 9) : Ok () (fun ν => CV k (spv v i s) ν ∧ fr k (k + 12) μ ν) (fX3_spell n k (nI i) (nI s) μ) := by
  have h8 := hv.1
  unfold fX3_spell
  rw [p3_has_t hv hc hi, bd_some, if_neg (by decide), if_neg (by rw [lit_1, nI_ltI (by omega) (by decide)]; omega), if_pos (by rw [lit_9, nI_leI (by omega) (by decide)]; exact h9)]
  refine loop_inv (fun F j x => fX3_spell_L22 n k (nI i) (nI s) F (nI j) x) (fun j x => (∀ l, l < j → x.1 (k + 3 + 1 + i) l = nI 0) ∧ (∀ a, a ≠ k + 3 + 1 + i → x.1 a = μ.1 a) ∧ fr k (k + 12) μ x) (Ok () (fun ν => CV k (spv v i s) ν ∧ fr k (k + 12) μ ν)) s ?_ ?_ n 0 _ ⟨fun l hl => by omega, fun _ _ => rfl, fr_rf⟩ (by omega) (by omega)
  · intro F x ⟨g1, g2, g3⟩
    rw [fX3_spell_L22, if_pos (nI_le (Nat.le_refl _) (by omega)), inb_nI (by omega) (by decide), gd_true, nI_clamp (by omega), bnd]
    refine ⟨_, rfl, ⟨?_, ?_, fun j hj => ?_⟩, fr_tr g3 (fr_I (by omega) (by omega))⟩
    · rw [setI1_ne (by omega), g2 _ (by omega)]; exact hc.1
    · rw [setI1_ne (by omega), g2 _ (by omega)]; exact hc.2.1
    · have hj8 : j < vN v := hj
      obtain ⟨r1, r2, r3⟩ := hc.2.2 j hj
      rw [setI1_ne (by omega), g2 _ (by omega), setI1_eq, upd_get, setI1_ne (show k + 3 + 1 + j ≠ k + 2 by omega), g2 (k + 2) (by omega)]
      refine ⟨r1, ?_, fun l hl => ?_⟩
      · show _ = nI (if j = i then s else sz v j)
        by_cases e : j = i
        · rw [if_pos e, if_pos e]
        · rw [if_neg e, if_neg e]; exact r2
      · have hl : l < (if j = i then s else sz v j) := hl
        show _ = nI (if j = i then 0 else nm v j l)
        by_cases e : j = i
        · subst e
          rw [if_pos rfl] at hl ⊢
          exact g1 l hl
        · rw [if_neg e] at hl ⊢
          rw [g2 _ (by omega)]
          exact r3 l hl
  · intro F j x hj ⟨g1, g2, g3⟩ ih
    rw [fX3_spell_L22, if_neg (by rw [nI_leI (by omega) (by omega)]; omega), inb_nI (by omega) (by decide), gd_true, inb_nI (by omega) (by decide), gd_true, nI_clamp (by omega), nI_clamp (by omega), bnd, bnd, nI_1]
    refine ih _ ⟨fun l hl => ?_, fun a ha => by rw [setI1_ne ha]; exact g2 a ha, fr_tr g3 (fr_I (by omega) (by omega))⟩
    rw [setI1_eq, upd_get]
    by_cases e : l = j
    · rw [if_pos e]; rfl
    · rw [if_neg e]; exact g1 l (by omega)
end PT
