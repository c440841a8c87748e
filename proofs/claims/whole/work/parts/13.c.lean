/-! ===== the model: stations kept, put back, changed ===== -/
/-- the stations that are kept, in the part w -/
def KV (w : Nat) (v : Vw) (μ : Mem) : Prop := μ.1 58 (120 * w + 108) = nI (vN v) ∧ μ.1 58 (120 * w + 109) = nI (vr v) ∧ ∀ i, i < vN v → μ.1 58 (120 * w + 99 + i) = nI (kd v i) ∧ μ.1 58 (120 * w + 90 + i) = nI (sz v i) ∧ ∀ j, j < sz v i → μ.1 58 (120 * w + (10 * i + j)) = nI (nm v i j)
/-- what passesAll leaves as it is -/
def PF (μ ν : Mem) : Prop := (∀ a, a ≠ 47 → a ≠ 49 → a ≠ 50 → a ≠ 51 → a ≠ 58 → ν.1 a = μ.1 a) ∧ ν.2 = μ.2 ∧ (∀ f, f ≠ 4 → f ≠ 5 → f ≠ 17 → f ≠ 18 → ν.1 47 f = μ.1 47 f)
theorem PF_rf {μ : Mem} : PF μ μ := ⟨fun _ _ _ _ _ _ => rfl, rfl, fun _ _ _ _ _ => rfl⟩
theorem PF_tr {μ ν ξ : Mem} (h1 : PF μ ν) (h2 : PF ν ξ) : PF μ ξ := ⟨fun a x1 x2 x3 x4 x5 => (h2.1 a x1 x2 x3 x4 x5).trans (h1.1 a x1 x2 x3 x4 x5), h2.2.1.trans h1.2.1, fun f x1 x2 x3 x4 => (h2.2.2 f x1 x2 x3 x4).trans (h1.2.2 f x1 x2 x3 x4)⟩
section PP
variable {n : Nat} {v : Vw} {μ : Mem}
theorem p5_passS (hn : 200 ≤ n) {k l c : Nat} (hk : k ≠ 47 ∧ k ≠ 58) (hl : l ≤ 90) (hc : c + l ≤ 240) (h17 : μ.1 47 17 = nI 1) (h18 : μ.1 47 18 = nI c) : Ok () (fun ν => (∀ j, j < l → ν.1 58 (c + j) = μ.1 k j) ∧ (∀ j, (j < c ∨ c + l ≤ j) → ν.1 58 j = μ.1 58 j) ∧ ν.1 47 18 = nI (c + l) ∧ (∀ f, f ≠ 18 → ν.1 47 f = μ.1 47 f) ∧ (∀ a, a ≠ 47 → a ≠ 58 → ν.1 a = μ.1 a) ∧ ν.2 = μ.2) (fX5_passes n k l μ) := by
  have hl0 : Int32.ofNat l = nI l := rfl
  refine loop_inv (fun F i x => fX5_passes_L2 n k l F (nI i) x) (fun i x => (∀ j, j < i → x.1 58 (c + j) = μ.1 k j) ∧ (∀ j, (j < c ∨ c + i ≤ j) → x.1 58 j = μ.1 58 j) ∧ x.1 47 18 = nI (c + i) ∧ (∀ f, f ≠ 18 → x.1 47 f = μ.1 47 f) ∧ (∀ a, a ≠ 47 → a ≠ 58 → x.1 a = μ.1 a) ∧ x.2 = μ.2) _ l ?_ ?_ n 0 μ ⟨fun j hj => by omega, fun _ _ => rfl, h18, fun _ _ => rfl, fun _ _ _ => rfl, rfl⟩ (by omega) (by omega)
  · intro F x hx
    rw [fX5_passes_L2, hl0, if_pos (nI_le (Nat.le_refl _) (by omega))]
    exact ⟨x, rfl, hx⟩
  · intro F i x hi ⟨g1, g2, g3, g4, g5, g6⟩ ih
    rw [fX5_passes_L2, hl0, if_neg (by rw [nI_leI (by omega) (by omega)]; omega)]
    simp only [bnd]
    rw [g4 17 (by decide), h17, if_neg (by decide), inb_nI hi (by omega), gd_true, g3, inb_nI (by omega) (by decide), gd_true, nI_clamp (by omega), nI_clamp (by omega), setI1_ne (by decide), g3, nI_1, nI_1, g5 k hk.1 hk.2]
    refine ih _ ⟨fun j hj => ?_, fun j hj => ?_, by rw [setI1_eq, upd_eq]; rfl, fun f hf => by rw [setI1_eq, upd_ne hf, setI1_ne (by decide)]; exact g4 f hf, fun a h1 h2 => by rw [setI1_ne h1, setI1_ne h2]; exact g5 a h1 h2, g6⟩
    · rw [setI1_ne (by decide), setI1_eq, upd_get]
      by_cases e : j = i
      · rw [if_pos (by omega), e]
      · rw [if_neg (by omega)]; exact g1 j (by omega)
    · rw [setI1_ne (by decide), setI1_eq, upd_ne (by omega)]
      exact g2 j (by omega)
theorem p5_passR (hn : 200 ≤ n) {k l c : Nat} (hk : k ≠ 47 ∧ k ≠ 58) (hl : l ≤ 90) (hc : c + l ≤ 240) (h17 : μ.1 47 17 = nI 0) (h18 : μ.1 47 18 = nI c) : Ok () (fun ν => (∀ j, j < l → ν.1 k j = μ.1 58 (c + j)) ∧ ν.1 47 18 = nI (c + l) ∧ (∀ f, f ≠ 18 → ν.1 47 f = μ.1 47 f) ∧ (∀ a, a ≠ 47 → a ≠ k → ν.1 a = μ.1 a) ∧ ν.2 = μ.2) (fX5_passes n k l μ) := by
  have hl0 : Int32.ofNat l = nI l := rfl
  refine loop_inv (fun F i x => fX5_passes_L2 n k l F (nI i) x) (fun i x => (∀ j, j < i → x.1 k j = μ.1 58 (c + j)) ∧ x.1 47 18 = nI (c + i) ∧ (∀ f, f ≠ 18 → x.1 47 f = μ.1 47 f) ∧ (∀ a, a ≠ 47 → a ≠ k → x.1 a = μ.1 a) ∧ x.2 = μ.2) _ l ?_ ?_ n 0 μ ⟨fun j hj => by omega, h18, fun _ _ => rfl, fun _ _ _ => rfl, rfl⟩ (by omega) (by omega)
  · intro F x hx
    rw [fX5_passes_L2, hl0, if_pos (nI_le (Nat.le_refl _) (by omega))]
    exact ⟨x, rfl, hx⟩
  · intro F i x hi ⟨g1, g3, g4, g5, g6⟩ ih
    rw [fX5_passes_L2, hl0, if_neg (by rw [nI_leI (by omega) (by omega)]; omega)]
    simp only [bnd]
    rw [g4 17 (by decide), h17, if_pos (show nI 0 = 0 from rfl), g3, inb_nI (by omega) (by decide), gd_true, inb_nI hi (by omega), gd_true, nI_clamp (by omega), nI_clamp (by omega), setI1_ne (fun q => hk.1 q.symm), g3, nI_1, nI_1, g5 58 (by decide) (fun q => hk.2 q.symm)]
    refine ih _ ⟨fun j hj => ?_, by rw [setI1_eq, upd_eq]; rfl, fun f hf => by rw [setI1_eq, upd_ne hf, setI1_ne (fun q => hk.1 q.symm)]; exact g4 f hf, fun a h1 h2 => by rw [setI1_ne h1, setI1_ne h2]; exact g5 a h1 h2, g6⟩
    rw [setI1_ne hk.1, setI1_eq, upd_get]
    by_cases e : j = i
    · rw [if_pos e, e]
    · rw [if_neg e]; exact g1 j (by omega)
theorem p5_oneS {c : Nat} (hc : c < 240) (h17 : μ.1 47 17 = nI 1) (h18 : μ.1 47 18 = nI c) (x : Int32) : fX5_passOne n x μ = some (x, setI (setI μ 58 c x) 47 18 (nI (c + 1))) := by
  unfold fX5_passOne
  simp only [bnd, h17, h18]
  rw [if_neg (by decide), inb_nI hc (by decide), gd_true, nI_clamp (by omega), setI1_ne (by decide), h18, nI_1]
  rfl
theorem p5_oneR {c : Nat} (hc : c < 240) (h17 : μ.1 47 17 = nI 0) (h18 : μ.1 47 18 = nI c) (x : Int32) : fX5_passOne n x μ = some (μ.1 58 c, setI μ 47 18 (nI (c + 1))) := by
  unfold fX5_passOne
  simp only [bnd, h17, h18]
  rw [if_pos (show nI 0 = 0 from rfl), inb_nI hc (by decide), gd_true, nI_clamp (by omega), nI_1]
  rfl
theorem p5_save (hn : 200 ≤ n) (hv : Vok v) (hc : MV v μ) {w : Nat} (hw : w ≤ 1) : Ok () (fun ν => MV v ν ∧ KV w v ν ∧ (∀ u, KV (1 - w) u μ → Vok u → KV (1 - w) u ν) ∧ PF μ ν) (fX5_passesAll n (nI w) (nI 1) μ) := by
  have h8 := hv.1
  unfold fX5_passesAll
  have e120 : (120 : Int32) * nI w = nI (120 * w) := pk_mul 120 w
  rw [bnd, e120, show isB (nI 1) = true from rfl, gd_true, bnd]
  generalize hx0 : setI (setI μ 47 18 (nI (120 * w))) 47 17 (nI 1) = x0
  have a1 : x0.1 47 17 = nI 1 := by rw [← hx0, setI1_eq, upd_eq]
  have a2 : x0.1 47 18 = nI (120 * w) := by rw [← hx0, setI1_eq, upd_ne (by decide), setI1_eq, upd_eq]
  have a3 : ∀ f, f ≠ 17 → f ≠ 18 → x0.1 47 f = μ.1 47 f := fun f h1 h2 => by rw [← hx0, setI1_eq, upd_ne h1, setI1_eq, upd_ne h2]
  have a4 : ∀ a, a ≠ 47 → x0.1 a = μ.1 a := fun a h => by rw [← hx0, setI1_ne h, setI1_ne h]
  have a5 : x0.2 = μ.2 := by rw [← hx0]; rfl
  obtain ⟨x1, q1, b1, b2, b3, b4, b5, b6⟩ := p5_passS hn (k := 49) (l := 90) (by decide) (by decide) (by omega) a1 a2
  obtain ⟨x2, q2, c1, c2, c3, c4, c5, c6⟩ := p5_passS hn (k := 50) (l := 9) (c := 120 * w + 90) (by decide) (by decide) (by omega) (by rw [b4 17 (by decide)]; exact a1) b3
  obtain ⟨x3, q3, d1, d2, d3, d4, d5, d6⟩ := p5_passS hn (k := 51) (l := 9) (c := 120 * w + 90 + 9) (by decide) (by decide) (by omega) (by rw [c4 17 (by decide), b4 17 (by decide)]; exact a1) c3
  rw [q1, bd_some, q2, bd_some, q3, bd_some]
  have f47 : ∀ f, f ≠ 17 → f ≠ 18 → x3.1 47 f = μ.1 47 f := fun f h1 h2 => by rw [d4 f h2, c4 f h2, b4 f h2]; exact a3 f h1 h2
  have f17 : x3.1 47 17 = nI 1 := by rw [d4 17 (by decide), c4 17 (by decide), b4 17 (by decide)]; exact a1
  rw [f47 4 (by decide) (by decide), hc.1, p5_oneS (c := 120 * w + 90 + 9 + 9) (by omega) f17 d3, bd_some, bnd]
  generalize hx4 : setI (setI (setI x3 58 (120 * w + 90 + 9 + 9) (nI (vN v))) 47 18 (nI (120 * w + 90 + 9 + 9 + 1))) 47 4 (nI (vN v)) = x4
  have g1 : x4.1 47 17 = nI 1 := by rw [← hx4, setI1_eq, upd_ne (by decide), setI1_eq, upd_ne (by decide), setI1_ne (by decide)]; exact f17
  have g2 : x4.1 47 18 = nI (120 * w + 90 + 9 + 9 + 1) := by rw [← hx4, setI1_eq, upd_ne (by decide), setI1_eq, upd_eq]
  have g3 : ∀ f, f ≠ 17 → f ≠ 18 → x4.1 47 f = μ.1 47 f := fun f h1 h2 => by
    rw [← hx4, setI1_eq, upd_get]
    by_cases e : f = 4
    · rw [if_pos e, e]; exact hc.1.symm
    · rw [if_neg e, setI1_eq, upd_ne h2, setI1_ne (by decide)]; exact f47 f h1 h2
  have g4 : ∀ j, x4.1 58 j = if j = 120 * w + 90 + 9 + 9 then nI (vN v) else x3.1 58 j := fun j => by rw [← hx4, setI1_ne (by decide), setI1_ne (by decide), setI1_eq, upd_get]
  have g5 : ∀ a, a ≠ 47 → a ≠ 58 → x4.1 a = μ.1 a := fun a h1 h2 => by rw [← hx4, setI1_ne h1, setI1_ne h1, setI1_ne h2, d5 a h1 h2, c5 a h1 h2, b5 a h1 h2]; exact a4 a h1
  rw [g3 5 (by decide) (by decide), hc.2.1, p5_oneS (c := 120 * w + 90 + 9 + 9 + 1) (by omega) g1 g2, bd_some, bnd]
  generalize hx5 : setI (setI (setI x4 58 (120 * w + 90 + 9 + 9 + 1) (nI (vr v))) 47 18 (nI (120 * w + 90 + 9 + 9 + 1 + 1))) 47 5 (nI (vr v)) = x5
  have i3 : ∀ f, f ≠ 17 → f ≠ 18 → x5.1 47 f = μ.1 47 f := fun f h1 h2 => by
    rw [← hx5, setI1_eq, upd_get]
    by_cases e : f = 5
    · rw [if_pos e, e]; exact hc.2.1.symm
    · rw [if_neg e, setI1_eq, upd_ne h2, setI1_ne (by decide)]; exact g3 f h1 h2
  have i4 : ∀ j, x5.1 58 j = if j = 120 * w + 90 + 9 + 9 + 1 then nI (vr v) else x4.1 58 j := fun j => by rw [← hx5, setI1_ne (by decide), setI1_ne (by decide), setI1_eq, upd_get]
  have i5 : ∀ a, a ≠ 47 → a ≠ 58 → x5.1 a = μ.1 a := fun a h1 h2 => by rw [← hx5, setI1_ne h1, setI1_ne h1, setI1_ne h2]; exact g5 a h1 h2
  have i6 : x5.2 = μ.2 := by rw [← hx5, ← hx4]; show x3.2 = _; rw [d6, c6, b6, a5]
  have k49 : ∀ j, j < 90 → x5.1 58 (120 * w + j) = μ.1 49 j := fun j hj => by rw [i4, if_neg (by omega), g4, if_neg (by omega), d2 _ (by omega), c2 _ (by omega), b1 j hj, a4 49 (by decide)]
  have k50 : ∀ j, j < 9 → x5.1 58 (120 * w + 90 + j) = μ.1 50 j := fun j hj => by rw [i4, if_neg (by omega), g4, if_neg (by omega), d2 _ (by omega), c1 j hj, b5 50 (by decide) (by decide), a4 50 (by decide)]
  have k51 : ∀ j, j < 9 → x5.1 58 (120 * w + 99 + j) = μ.1 51 j := fun j hj => by rw [i4, if_neg (by omega), g4, if_neg (by omega), show 120 * w + 99 + j = 120 * w + 90 + 9 + j by omega, d1 j hj, c5 51 (by decide) (by decide), b5 51 (by decide) (by decide), a4 51 (by decide)]
  have kout : ∀ j, (j < 120 * w ∨ 120 * w + 110 ≤ j) → x5.1 58 j = μ.1 58 j := fun j hj => by rw [i4, if_neg (by omega), g4, if_neg (by omega), d2 _ (by omega), c2 _ (by omega), b2 _ (by omega), a4 58 (by decide)]
  refine ⟨x5, rfl, ⟨by rw [i3 4 (by decide) (by decide)]; exact hc.1, by rw [i3 5 (by decide) (by decide)]; exact hc.2.1, fun i hi => by rw [i5 51 (by decide) (by decide), i5 50 (by decide) (by decide), i5 49 (by decide) (by decide)]; exact hc.2.2 i hi⟩, ⟨by rw [i4, if_neg (by omega), g4, if_pos (by omega)], by rw [i4, if_pos (by omega)], fun i hi => ?_⟩, fun u hu hok => ?_, ⟨fun a h1 _ _ _ h2 => i5 a h1 h2, i6, fun f _ _ h1 h2 => i3 f h1 h2⟩⟩
  · obtain ⟨r1, r2, r3⟩ := hc.2.2 i hi
    have hs := (hv.2.2 i hi).2.2.1
    exact ⟨by rw [k51 i (by omega)]; exact r1, by rw [k50 i (by omega)]; exact r2, fun j hj => by rw [k49 _ (by omega)]; exact r3 j hj⟩
  · have hu8 := hok.1
    refine ⟨by rw [kout _ (by omega)]; exact hu.1, by rw [kout _ (by omega)]; exact hu.2.1, fun i hi => ?_⟩
    have hs := (hok.2.2 i hi).2.2.1
    obtain ⟨r1, r2, r3⟩ := hu.2.2 i hi
    exact ⟨by rw [kout _ (by omega)]; exact r1, by rw [kout _ (by omega)]; exact r2, fun j hj => by rw [kout _ (by omega)]; exact r3 j hj⟩
theorem p5_load (hn : 200 ≤ n) (hv : Vok v) {w : Nat} (hw : w ≤ 1) (hk : KV w v μ) : Ok () (fun ν => MV v ν ∧ (∀ j, ν.1 58 j = μ.1 58 j) ∧ PF μ ν) (fX5_passesAll n (nI w) (nI 0) μ) := by
  have h8 := hv.1
  unfold fX5_passesAll
  have e120 : (120 : Int32) * nI w = nI (120 * w) := pk_mul 120 w
  rw [bnd, e120, show isB (nI 0) = true from rfl, gd_true, bnd]
  generalize hx0 : setI (setI μ 47 18 (nI (120 * w))) 47 17 (nI 0) = x0
  have a1 : x0.1 47 17 = nI 0 := by rw [← hx0, setI1_eq, upd_eq]
  have a2 : x0.1 47 18 = nI (120 * w) := by rw [← hx0, setI1_eq, upd_ne (by decide), setI1_eq, upd_eq]
  have a3 : ∀ f, f ≠ 17 → f ≠ 18 → x0.1 47 f = μ.1 47 f := fun f h1 h2 => by rw [← hx0, setI1_eq, upd_ne h1, setI1_eq, upd_ne h2]
  have a4 : ∀ a, a ≠ 47 → x0.1 a = μ.1 a := fun a h => by rw [← hx0, setI1_ne h, setI1_ne h]
  have a5 : x0.2 = μ.2 := by rw [← hx0]; rfl
  obtain ⟨x1, q1, b1, b3, b4, b5, b6⟩ := p5_passR hn (k := 49) (l := 90) (by decide) (by decide) (by omega) a1 a2
  obtain ⟨x2, q2, c1, c3, c4, c5, c6⟩ := p5_passR hn (k := 50) (l := 9) (c := 120 * w + 90) (by decide) (by decide) (by omega) (by rw [b4 17 (by decide)]; exact a1) b3
  obtain ⟨x3, q3, d1, d3, d4, d5, d6⟩ := p5_passR hn (k := 51) (l := 9) (c := 120 * w + 90 + 9) (by decide) (by decide) (by omega) (by rw [c4 17 (by decide), b4 17 (by decide)]; exact a1) c3
  rw [q1, bd_some, q2, bd_some, q3, bd_some]
  have f47 : ∀ f, f ≠ 17 → f ≠ 18 → x3.1 47 f = μ.1 47 f := fun f h1 h2 => by rw [d4 f h2, c4 f h2, b4 f h2]; exact a3 f h1 h2
  have f17 : x3.1 47 17 = nI 0 := by rw [d4 17 (by decide), c4 17 (by decide), b4 17 (by decide)]; exact a1
  have f58 : x3.1 58 = μ.1 58 := by rw [d5 58 (by decide) (by decide), c5 58 (by decide) (by decide), b5 58 (by decide) (by decide), a4 58 (by decide)]
  rw [p5_oneR (c := 120 * w + 90 + 9 + 9) (by omega) f17 d3, bd_some, bnd, f58, show 120 * w + 90 + 9 + 9 = 120 * w + 108 by omega, hk.1]
  generalize hx4 : setI (setI x3 47 18 (nI (120 * w + 108 + 1))) 47 4 (nI (vN v)) = x4
  have g1 : x4.1 47 17 = nI 0 := by rw [← hx4, setI1_eq, upd_ne (by decide), setI1_eq, upd_ne (by decide)]; exact f17
  have g2 : x4.1 47 18 = nI (120 * w + 108 + 1) := by rw [← hx4, setI1_eq, upd_ne (by decide), setI1_eq, upd_eq]
  have g5 : ∀ a, a ≠ 47 → x4.1 a = x3.1 a := fun a h1 => by rw [← hx4, setI1_ne h1, setI1_ne h1]
  rw [p5_oneR (c := 120 * w + 108 + 1) (by omega) g1 g2, bd_some, bnd, g5 58 (by decide), f58, show 120 * w + 108 + 1 = 120 * w + 109 by omega, hk.2.1]
  generalize hx5 : setI (setI x4 47 18 (nI (120 * w + 109 + 1))) 47 5 (nI (vr v)) = x5
  have i4 : x5.1 47 4 = nI (vN v) := by rw [← hx5, setI1_eq, upd_ne (by decide), setI1_eq, upd_ne (by decide), ← hx4, setI1_eq, upd_eq]
  have i5 : x5.1 47 5 = nI (vr v) := by rw [← hx5, setI1_eq, upd_eq]
  have i6 : ∀ a, a ≠ 47 → x5.1 a = x3.1 a := fun a h1 => by rw [← hx5, setI1_ne h1, setI1_ne h1, g5 a h1]
  have i7 : x5.2 = μ.2 := by rw [← hx5, ← hx4]; show x3.2 = _; rw [d6, c6, b6, a5]
  refine ⟨x5, rfl, ⟨i4, i5, fun i hi => ?_⟩, fun j => by rw [i6 58 (by decide), f58], ⟨fun a h1 h2 h3 h4 _ => by rw [i6 a h1, d5 a h1 h4, c5 a h1 h3, b5 a h1 h2, a4 a h1], i7, fun f h1 h2 h3 h4 => by rw [← hx5, setI1_eq, upd_ne h2, setI1_eq, upd_ne h4, ← hx4, setI1_eq, upd_ne h1, setI1_eq, upd_ne h4]; exact f47 f h3 h4⟩⟩
  obtain ⟨r1, r2, r3⟩ := hk.2.2 i hi
  have hs := (hv.2.2 i hi).2.2.1
  rw [i6 51 (by decide), i6 50 (by decide), i6 49 (by decide)]
  refine ⟨?_, ?_, fun j hj => ?_⟩
  · rw [d1 i (by omega), c5 58 (by decide) (by decide), b5 58 (by decide) (by decide), a4 58 (by decide), show 120 * w + 90 + 9 + i = 120 * w + 99 + i by omega]; exact r1
  · rw [d5 50 (by decide) (by decide), c1 i (by omega), b5 58 (by decide) (by decide), a4 58 (by decide)]; exact r2
  · rw [d5 49 (by decide) (by decide), c5 49 (by decide) (by decide), b1 _ (by omega), a4 58 (by decide)]; exact r3 j hj
end PP
