/-! ===== ways and luck: tallies ===== -/
def cb (h : Bool) (R f : Nat → Nat) (j t : Nat) : Nat := (if h = true ∧ R j = 0 ∧ t = j then 2 * f j else 0) + (if (R j).testBit t then (if h = true ∧ pop (R j) = 1 then 2 * f j else f j) else 0)
def gs (h : Bool) (N : Nat) (R f : Nat → Nat) : Nat → Nat := fun t => fb_sm (fun j => cb h R f j t) N
def gsn (h : Bool) (N : Nat) (R f : Nat → Nat) : Nat → Nat → Nat
  | 0 => f
  | k + 1 => gs h N R (gsn h N R f k)
def e0 (a : Nat) : Nat → Nat := fun i => if i = a then 1 else 0
def TJ (c N : Nat) (f : Nat → Nat) (μ : Mem) : Prop := ∀ i, i < N → μ.2 c i = lN (f i)
theorem litL_0 : (0 : Int64) = lN 0 := rfl
theorem litL_1 : (1 : Int64) = lN 1 := rfl
theorem litL_2 : (2 : Int64) = lN 2 := rfl
theorem updL_get {f : Nat → Int64} {k j : Nat} {x : Int64} : vp_updL f k x j = if j = k then x else f j := rfl
theorem TJ_cong {c N : Nat} {f g : Nat → Nat} {μ : Mem} (h : TJ c N f μ) (e : ∀ i, i < N → f i = g i) : TJ c N g μ := fun i hi => by rw [h i hi, e i hi]
theorem TJ_fr {lo hi c N : Nat} {f : Nat → Nat} {μ ν : Mem} (h : fr lo hi μ ν) (hc : c < lo ∨ hi ≤ c) (t : TJ c N f μ) : TJ c N f ν := fun i hi => by rw [(h c hc).2]; exact t i hi
theorem NK_fr {lo hi : Nat} {v : Vw} {μ ν : Mem} (h : fr lo hi μ ν) (hc : 45 ≤ lo ∨ hi ≤ 42) (t : NK v μ) : NK v ν := by
  refine ⟨by rw [(h 42 (by omega)).1]; exact t.1, fun i hi => ?_⟩
  rw [(h 43 (by omega)).1, (h 44 (by omega)).1]
  exact t.2 i hi
section PWA
variable {n : Nat} {v : Vw} {μ : Mem}
theorem p0_start (hn : 40 ≤ n) (hv : Vok v) (hc : NK v μ) {a : Nat} (ha : a < vN v) : Ok () (fun ν => TJ 45 (vN v) (e0 a) ν ∧ fr 45 47 μ ν) (fX0_startAt n (nI a) μ) := by
  have h8 := hv.1
  refine loop_inv (fun F i s => fX0_startAt_L2 n (nI a) F (nI i) s) (fun i s => (∀ j, j < i → s.2 45 j = lN (e0 a j)) ∧ fr 45 47 μ s) (Ok () (fun ν => TJ 45 (vN v) (e0 a) ν ∧ fr 45 47 μ ν)) (vN v) ?_ ?_ n 0 _ ⟨fun j hj => by omega, fr_rf⟩ (by omega) (by omega)
  · intro F s ⟨h1, h2⟩
    rw [fX0_startAt_L2]
    simp (disch := omega) only [(NK_fr h2 (Or.inl (by decide)) hc).1, nI_leI, if_pos]
    exact ⟨s, rfl, h1, h2⟩
  · intro F i s hi ⟨h1, h2⟩ ih
    have fin : ∀ x : Int64, x = lN (e0 a i) → Ok () (fun ν => TJ 45 (vN v) (e0 a) ν ∧ fr 45 47 μ ν) (fX0_startAt_L2 n (nI a) F (nI (i + 1)) (setJ s 45 i x)) := by
      intro x hx
      refine ih _ ⟨fun j hj => ?_, fr_tr h2 (fr_J (by decide) (by decide))⟩
      rw [setJ2_eq, updL_get]
      by_cases q : j = i
      · rw [if_pos q, hx, q]
      · rw [if_neg q]; exact h1 j (by omega)
    rw [fX0_startAt_L2]
    by_cases q : i = a
    · simp (disch := omega) only [inb_nI, gd_true, nI_clamp, nI_leI, nI_ltI, nI_eq, if_pos, if_neg, reduceIte, bnd, bd_some, nI_add, pk_mul, pk_sub, lit_0, lit_1, lit_2, lit_3, lit_4, lit_5, lit_7, lit_8, lit_9, lit_10, lit_12, lit_14, lit_20, lit_31, lit_60, lit_96, lit_99, lit_255, (NK_fr h2 (Or.inl (by decide)) hc).1]
      exact fin _ (by rw [e0, if_pos q]; rfl)
    · simp (disch := omega) only [inb_nI, gd_true, nI_clamp, nI_leI, nI_ltI, nI_eq, if_pos, if_neg, reduceIte, bnd, bd_some, nI_add, pk_mul, pk_sub, lit_0, lit_1, lit_2, lit_3, lit_4, lit_5, lit_7, lit_8, lit_9, lit_10, lit_12, lit_14, lit_20, lit_31, lit_60, lit_96, lit_99, lit_255, (NK_fr h2 (Or.inl (by decide)) hc).1]
      exact fin _ (by rw [e0, if_neg q]; rfl)
theorem p0_turn (hn : 40 ≤ n) (hv : Vok v) (hc : NK v μ) {f : Nat → Nat} (hf : TJ 46 (vN v) f μ) : Ok () (fun ν => TJ 45 (vN v) f ν ∧ fr 45 47 μ ν) (fX0_turn n μ) := by
  have h8 := hv.1
  refine loop_inv (fun F i s => fX0_turn_L2 n F (nI i) s) (fun i s => (∀ j, j < i → s.2 45 j = lN (f j)) ∧ TJ 46 (vN v) f s ∧ fr 45 47 μ s) (Ok () (fun ν => TJ 45 (vN v) f ν ∧ fr 45 47 μ ν)) (vN v) ?_ ?_ n 0 _ ⟨fun j hj => by omega, hf, fr_rf⟩ (by omega) (by omega)
  · intro F s ⟨h1, h3, h2⟩
    rw [fX0_turn_L2]
    simp (disch := omega) only [(NK_fr h2 (Or.inl (by decide)) hc).1, nI_leI, if_pos]
    exact ⟨s, rfl, h1, h2⟩
  · intro F i s hi ⟨h1, h3, h2⟩ ih
    rw [fX0_turn_L2]
    simp (disch := omega) only [inb_nI, gd_true, nI_clamp, nI_leI, nI_ltI, nI_eq, if_pos, if_neg, reduceIte, bnd, bd_some, nI_add, pk_mul, pk_sub, lit_0, lit_1, lit_2, lit_3, lit_4, lit_5, lit_7, lit_8, lit_9, lit_10, lit_12, lit_14, lit_20, lit_31, lit_60, lit_96, lit_99, lit_255, (NK_fr h2 (Or.inl (by decide)) hc).1]
    refine ih _ ⟨fun j hj => ?_, fun j hj => by rw [setJ2_ne (by decide)]; exact h3 j hj, fr_tr h2 (fr_J (by decide) (by decide))⟩
    rw [setJ2_eq, updL_get]
    by_cases q : j = i
    · rw [if_pos q, q]; exact h3 i hi
    · rw [if_neg q]; exact h1 j (by omega)
theorem p0_into (hn : 40 ≤ n) (hv : Vok v) (hc : NK v μ) {f : Nat → Nat} (hf : TJ 45 (vN v) f μ) {i : Nat} (hi : i < vN v) : fX0_tallyInto n (nI i) μ = some (lN (gs false (vN v) (rb v) f i), μ) := by
  have h8 := hv.1
  refine loop_inv (fun F j s => fX0_tallyInto_L5 n (nI i) F (lN s) (nI j) μ) (fun j s => s = fb_sm (fun j => cb false (rb v) f j i) j) (fun o => o = some (lN (gs false (vN v) (rb v) f i), μ)) (vN v) ?_ ?_ n 0 0 rfl (by omega) (by omega)
  · intro F s hs
    rw [fX0_tallyInto_L5]
    simp (disch := omega) only [hc.1, nI_leI, if_pos, hs]
    rfl
  · intro F j s hj hs ih
    have q := p0_leads (n := n) h8 hc.1 hj hi (rb_lt hv j hj) (hc.2 j hj).1
    have ih2 := ih _ (show fb_sm (fun j => cb false (rb v) f j i) (j + 1) = _ from rfl)
    rw [fb_sm_succ, ← hs] at ih2
    unfold cb at ih2
    rw [fX0_tallyInto_L5]
    simp (disch := omega) only [hc.1, nI_leI, if_neg, q, bd_some]
    by_cases hb : (rb v j).testBit i = true
    · rw [if_pos hb] at ih2 ⊢
      simp (disch := omega) only [inb_nI, gd_true, nI_clamp, nI_leI, nI_ltI, nI_eq, if_pos, if_neg, reduceIte, bnd, bd_some, nI_add, pk_mul, pk_sub, lit_0, lit_1, lit_2, lit_3, lit_4, lit_5, lit_7, lit_8, lit_9, lit_10, lit_12, lit_14, lit_20, lit_31, lit_60, lit_96, lit_99, lit_255, hf j hj, lN_add]
      simpa using ih2
    · rw [if_neg hb] at ih2 ⊢
      simp (disch := omega) only [inb_nI, gd_true, nI_clamp, nI_leI, nI_ltI, nI_eq, if_pos, if_neg, reduceIte, bnd, bd_some, nI_add, pk_mul, pk_sub, lit_0, lit_1, lit_2, lit_3, lit_4, lit_5, lit_7, lit_8, lit_9, lit_10, lit_12, lit_14, lit_20, lit_31, lit_60, lit_96, lit_99, lit_255]
      simpa using ih2
theorem p0_ways17 (hn : 40 ≤ n) (hv : Vok v) (hc : NK v μ) {f : Nat → Nat} (hf : TJ 45 (vN v) f μ) {x2 x3 x4 : Int32} {K : Mem → Option (Int64 × Mem)} {Rr : Option (Int64 × Mem) → Prop} (hK : ∀ s, TJ 46 (vN v) (gs false (vN v) (rb v) f) s → fr 46 47 μ s → Rr (K s)) : Rr (fX0_waysBy_L17 n x2 x3 x4 K n 0 μ) := by
  have h8 := hv.1
  refine loop_inv (fun F i s => fX0_waysBy_L17 n x2 x3 x4 K F (nI i) s) (fun i s => (∀ j, j < i → s.2 46 j = lN (gs false (vN v) (rb v) f j)) ∧ fr 46 47 μ s) Rr (vN v) ?_ ?_ n 0 _ ⟨fun j hj => by omega, fr_rf⟩ (by omega) (by omega)
  · intro F s ⟨h1, h2⟩
    rw [fX0_waysBy_L17]
    simp (disch := omega) only [(NK_fr h2 (Or.inl (by decide)) hc).1, nI_leI, if_pos]
    exact hK s h1 h2
  · intro F i s hi ⟨h1, h2⟩ ih
    have hc' := NK_fr h2 (Or.inl (by decide)) hc
    have q := p0_into hn hv hc' (TJ_fr h2 (Or.inl (by decide)) hf) hi
    rw [fX0_waysBy_L17]
    simp (disch := omega) only [inb_nI, gd_true, nI_clamp, nI_leI, nI_ltI, nI_eq, if_pos, if_neg, reduceIte, bnd, bd_some, nI_add, pk_mul, pk_sub, lit_0, lit_1, lit_2, lit_3, lit_4, lit_5, lit_7, lit_8, lit_9, lit_10, lit_12, lit_14, lit_20, lit_31, lit_60, lit_96, lit_99, lit_255, hc'.1, q]
    refine ih _ ⟨fun j hj => ?_, fr_tr h2 (fr_J (by decide) (by decide))⟩
    rw [setJ2_eq, updL_get]
    by_cases q : j = i
    · rw [if_pos q, q]
    · rw [if_neg q]; exact h1 j (by omega)
theorem p0_ways (hn : 40 ≤ n) (hv : Vok v) (hc : NK v μ) {a b t : Nat} (ha : a < vN v) (hb : b < vN v) (ht : t ≤ 20) : Ok (lN (gsn false (vN v) (rb v) (e0 a) t b)) (fun ν => fr 45 47 μ ν) (fX0_waysBy n (nI a) (nI b) (nI t) μ) := by
  have h8 := hv.1
  obtain ⟨s0, q0, t0, f0⟩ := p0_start hn hv hc ha
  unfold fX0_waysBy
  rw [q0, bd_some]
  refine loop_inv (fun F i s => fX0_waysBy_L8 n (nI b) (nI t) F (nI i) s) (fun i s => TJ 45 (vN v) (gsn false (vN v) (rb v) (e0 a) i) s ∧ fr 45 47 μ s) (Ok (lN (gsn false (vN v) (rb v) (e0 a) t b)) (fun ν => fr 45 47 μ ν)) t ?_ ?_ n 0 _ ⟨t0, f0⟩ (by omega) (by omega)
  · intro F s ⟨h1, h2⟩
    rw [fX0_waysBy_L8]
    simp (disch := omega) only [inb_nI, gd_true, nI_clamp, nI_leI, nI_ltI, nI_eq, if_pos, if_neg, reduceIte, bnd, bd_some, nI_add, pk_mul, pk_sub, lit_0, lit_1, lit_2, lit_3, lit_4, lit_5, lit_7, lit_8, lit_9, lit_10, lit_12, lit_14, lit_20, lit_31, lit_60, lit_96, lit_99, lit_255, h1 b hb]
    exact ⟨s, rfl, h2⟩
  · intro F i s hi ⟨h1, h2⟩ ih
    have hc' := NK_fr h2 (Or.inl (by decide)) hc
    rw [fX0_waysBy_L8]
    simp (disch := omega) only [nI_leI, if_neg]
    refine p0_ways17 hn hv hc' h1 (fun s' h3 h4 => ?_)
    obtain ⟨s2, q2, t2, f2⟩ := p0_turn hn hv (NK_fr h4 (Or.inl (by decide)) hc') h3
    rw [q2]
    simp (disch := omega) only [inb_nI, gd_true, nI_clamp, nI_leI, nI_ltI, nI_eq, if_pos, if_neg, reduceIte, bnd, bd_some, nI_add, pk_mul, pk_sub, lit_0, lit_1, lit_2, lit_3, lit_4, lit_5, lit_7, lit_8, lit_9, lit_10, lit_12, lit_14, lit_20, lit_31, lit_60, lit_96, lit_99, lit_255]
    exact ih _ ⟨t2, fr_tr h2 (fr_tr (fr_wd h4 (by decide) (by decide)) f2)⟩
/-! the model -/
theorem p5_begin (hn : 40 ≤ n) (hv : Vok v) (hc : MV v μ) {a : Nat} (ha : a < vN v) : Ok () (fun ν => TJ 59 (vN v) (e0 a) ν ∧ fr 59 61 μ ν) (fX5_beginsAt n (nI a) μ) := by
  have h8 := hv.1
  refine loop_inv (fun F i s => fX5_beginsAt_L2 n (nI a) F (nI i) s) (fun i s => (∀ j, j < i → s.2 59 j = lN (e0 a j)) ∧ fr 59 61 μ s) (Ok () (fun ν => TJ 59 (vN v) (e0 a) ν ∧ fr 59 61 μ ν)) (vN v) ?_ ?_ n 0 _ ⟨fun j hj => by omega, fr_rf⟩ (by omega) (by omega)
  · intro F s ⟨h1, h2⟩
    rw [fX5_beginsAt_L2]
    simp (disch := omega) only [(MV_fr h2 (Or.inr (by decide)) hc).1, nI_leI, if_pos]
    exact ⟨s, rfl, h1, h2⟩
  · intro F i s hi ⟨h1, h2⟩ ih
    have fin : ∀ x : Int64, x = lN (e0 a i) → Ok () (fun ν => TJ 59 (vN v) (e0 a) ν ∧ fr 59 61 μ ν) (fX5_beginsAt_L2 n (nI a) F (nI (i + 1)) (setJ s 59 i x)) := by
      intro x hx
      refine ih _ ⟨fun j hj => ?_, fr_tr h2 (fr_J (by decide) (by decide))⟩
      rw [setJ2_eq, updL_get]
      by_cases q : j = i
      · rw [if_pos q, hx, q]
      · rw [if_neg q]; exact h1 j (by omega)
    rw [fX5_beginsAt_L2]
    by_cases q : i = a
    · simp (disch := omega) only [inb_nI, gd_true, nI_clamp, nI_leI, nI_ltI, nI_eq, if_pos, if_neg, reduceIte, bnd, bd_some, nI_add, pk_mul, pk_sub, lit_0, lit_1, lit_2, lit_3, lit_4, lit_5, lit_7, lit_8, lit_9, lit_10, lit_12, lit_14, lit_20, lit_31, lit_60, lit_96, lit_99, lit_255, (MV_fr h2 (Or.inr (by decide)) hc).1]
      exact fin _ (by rw [e0, if_pos q]; rfl)
    · simp (disch := omega) only [inb_nI, gd_true, nI_clamp, nI_leI, nI_ltI, nI_eq, if_pos, if_neg, reduceIte, bnd, bd_some, nI_add, pk_mul, pk_sub, lit_0, lit_1, lit_2, lit_3, lit_4, lit_5, lit_7, lit_8, lit_9, lit_10, lit_12, lit_14, lit_20, lit_31, lit_60, lit_96, lit_99, lit_255, (MV_fr h2 (Or.inr (by decide)) hc).1]
      exact fin _ (by rw [e0, if_neg q]; rfl)
theorem p5_gw102 (hn : 40 ≤ n) (hv : Vok v) (hc : MV v μ) {A : Nat → Nat} (hA : TJ 60 (vN v) A μ) {x1 x2 : Int32} {r e : Nat} (hr : r < 256) {K : Mem → Option (Unit × Mem)} {Rr : Option (Unit × Mem) → Prop} (hK : ∀ s, TJ 60 (vN v) (fun t => A t + (if r.testBit t then e else 0)) s → fr 60 61 μ s → Rr (K s)) : Rr (fX5_goesWays_L102 n x1 x2 (nI r) (lN e) K n 0 μ) := by
  have h8 := hv.1
  refine loop_inv (fun F i s => fX5_goesWays_L102 n x1 x2 (nI r) (lN e) K F (nI i) s) (fun i s => (∀ t, t < vN v → s.2 60 t = lN (if t < i then A t + (if r.testBit t then e else 0) else A t)) ∧ fr 60 61 μ s) Rr (vN v) ?_ ?_ n 0 _ ⟨fun t ht => by rw [hA t ht]; simp, fr_rf⟩ (by omega) (by omega)
  · intro F s ⟨h1, h2⟩
    rw [fX5_goesWays_L102]
    simp (disch := omega) only [(MV_fr h2 (Or.inr (by decide)) hc).1, nI_leI, if_pos]
    exact hK s (fun t ht => by rw [h1 t ht, if_pos ht]) h2
  · intro F i s hi ⟨h1, h2⟩ ih
    have e1 := h1 i hi
    rw [if_neg (by omega)] at e1
    have fin : ∀ x : Int64, x = lN (A i + (if r.testBit i then e else 0)) → Rr (fX5_goesWays_L102 n x1 x2 (nI r) (lN e) K F (nI (i + 1)) (setJ s 60 i x)) := by
      intro x hx
      refine ih _ ⟨fun t ht => ?_, fr_tr h2 (fr_J (by decide) (by decide))⟩
      rw [setJ2_eq, updL_get]
      by_cases q : t = i
      · rw [if_pos q, hx, q, if_pos (show i < i + 1 by omega)]
      · rw [if_neg q, h1 t ht]
        by_cases q2 : t < i
        · rw [if_pos q2, if_pos (show t < i + 1 by omega)]
        · rw [if_neg q2, if_neg (show ¬ t < i + 1 by omega)]
    rw [fX5_goesWays_L102]
    simp (disch := omega) only [(MV_fr h2 (Or.inr (by decide)) hc).1, nI_leI, if_neg, inb_nI, gd_true, nI_clamp, bnd, lit_1, jshr_n1, bitE, nI_add, e1, litL_0, lN_add]
    by_cases hb : r.testBit i = true
    · rw [if_pos hb]
      exact fin _ (by rw [if_pos hb])
    · rw [if_neg hb]
      exact fin _ (by rw [if_neg hb])
set_option maxHeartbeats 1000000 in
theorem p5_gw (hn : 40 ≤ n) (hv : Vok v) (hc : MV v μ) {f : Nat → Nat} (hf : TJ 59 (vN v) f μ) (h : Bool) : Ok () (fun ν => TJ 59 (vN v) (gs h (vN v) (rb v) f) ν ∧ fr 59 61 μ ν) (fX5_goesWays n (if h then nI 1 else nI 0) μ) := by
  have h8 := hv.1
  generalize hx1 : (if h then nI 1 else nI 0) = x1
  unfold fX5_goesWays
  refine loop_inv (fun F i s => fX5_goesWays_L2 n x1 (fun m3 => fX5_goesWays_L25 n x1 (fun m24 => fX5_goesWays_L151 n n 0 m24) n 0 m3) F (nI i) s) (fun i s => (∀ j, j < i → s.2 60 j = lN 0) ∧ fr 60 61 μ s) (Ok () (fun ν => TJ 59 (vN v) (gs h (vN v) (rb v) f) ν ∧ fr 59 61 μ ν)) (vN v) ?_ ?_ n 0 _ ⟨fun j hj => by omega, fr_rf⟩ (by omega) (by omega)
  · intro F s ⟨h1, h2⟩
    rw [fX5_goesWays_L2]
    simp (disch := omega) only [(MV_fr h2 (Or.inr (by decide)) hc).1, nI_leI, if_pos]
    refine loop_inv (fun F i s => fX5_goesWays_L25 n x1 (fun m24 => fX5_goesWays_L151 n n 0 m24) F (nI i) s) (fun i s => TJ 60 (vN v) (fun t => fb_sm (fun j => cb h (rb v) f j t) i) s ∧ fr 60 61 μ s) (Ok () (fun ν => TJ 59 (vN v) (gs h (vN v) (rb v) f) ν ∧ fr 59 61 μ ν)) (vN v) ?_ ?_ n 0 _ ⟨h1, h2⟩ (by omega) (by omega)
    · intro F s ⟨h1, h2⟩
      have hc' := MV_fr h2 (Or.inr (by decide)) hc
      rw [fX5_goesWays_L25]
      simp (disch := omega) only [hc'.1, nI_leI, if_pos]
      refine loop_inv (fun F i s => fX5_goesWays_L151 n F (nI i) s) (fun i s => (∀ j, j < i → s.2 59 j = lN (gs h (vN v) (rb v) f j)) ∧ TJ 60 (vN v) (gs h (vN v) (rb v) f) s ∧ fr 59 61 μ s) (Ok () (fun ν => TJ 59 (vN v) (gs h (vN v) (rb v) f) ν ∧ fr 59 61 μ ν)) (vN v) ?_ ?_ n 0 _ ⟨fun j hj => by omega, h1, fr_wd h2 (by decide) (by decide)⟩ (by omega) (by omega)
      · intro F s ⟨h1, h3, h2⟩
        rw [fX5_goesWays_L151]
        simp (disch := omega) only [(MV_fr h2 (Or.inr (by decide)) hc).1, nI_leI, if_pos]
        exact ⟨s, rfl, h1, h2⟩
      · intro F i s hi ⟨h1, h3, h2⟩ ih
        rw [fX5_goesWays_L151]
        simp (disch := omega) only [inb_nI, gd_true, nI_clamp, nI_leI, nI_ltI, nI_eq, if_pos, if_neg, reduceIte, bnd, bd_some, nI_add, pk_mul, pk_sub, lit_0, lit_1, lit_2, lit_3, lit_4, lit_5, lit_7, lit_8, lit_9, lit_10, lit_12, lit_14, lit_20, lit_31, lit_60, lit_96, lit_99, lit_255, (MV_fr h2 (Or.inr (by decide)) hc).1]
        refine ih _ ⟨fun j hj => ?_, fun j hj => by rw [setJ2_ne (by decide)]; exact h3 j hj, fr_tr h2 (fr_J (by decide) (by decide))⟩
        rw [setJ2_eq, updL_get]
        by_cases q : j = i
        · rw [if_pos q, q]; exact h3 i hi
        · rw [if_neg q]; exact h1 j (by omega)
    · intro F i s hi ⟨h1, h2⟩ ih
      have hc' := MV_fr h2 (Or.inr (by decide)) hc
      have q := p5_rides (by omega) hv hc' hi (n := n)
      have hr : rb v i < 256 := pow8 h8 (rb_lt hv i hi)
      have e1 : s.2 59 i = lN (f i) := TJ_fr h2 (Or.inl (by decide)) hf i hi
      -- what the inner loop gives
      have fin : ∀ (s' : Mem) (e : Nat), (∀ t, t < vN v → s'.2 60 t = lN (fb_sm (fun j => cb h (rb v) f j t) i + (if h = true ∧ rb v i = 0 ∧ t = i then 2 * f i else 0))) → e = (if h = true ∧ pop (rb v i) = 1 then 2 * f i else f i) → fr 60 61 μ s' → Ok () (fun ν => TJ 59 (vN v) (gs h (vN v) (rb v) f) ν ∧ fr 59 61 μ ν) (fX5_goesWays_L102 n x1 (nI i) (nI (rb v i)) (lN e) (fun m16 => fX5_goesWays_L25 n x1 (fun m24 => fX5_goesWays_L151 n n 0 m24) F (nI (i + 1)) m16) n 0 s') := by
        intro s' e hs' he hf'
        refine p5_gw102 hn hv (MV_fr hf' (Or.inr (by decide)) hc) hs' hr (fun s2 h3 h4 => ?_)
        refine ih s2 ⟨fun t ht => ?_, fr_tr hf' h4⟩
        rw [h3 t ht]
        show lN ((fb_sm (fun j => cb h (rb v) f j t) i + _) + _) = lN (fb_sm (fun j => cb h (rb v) f j t) i + cb h (rb v) f i t)
        rw [Nat.add_assoc, he]
        rfl
      rw [fX5_goesWays_L25]
      simp (disch := omega) only [hc'.1, nI_leI, if_neg, q, bd_some, bnd, inb_nI, gd_true, nI_clamp, nI_1, e1]
      cases h with
      | false =>
        have hx : x1 = 0 := by rw [← hx1]; rfl
        have g := fin s (f i) (fun t ht => by rw [h1 t ht]; simp) (by simp) h2
        simp only [hx] at g ⊢
        simpa using g
      | true =>
        have hx : x1 = 1 := by rw [← hx1]; rfl
        have hne : ¬ (1 : Int32) = 0 := by decide
        simp only [hx, if_neg hne] at fin ⊢
        have tail : ∀ s' : Mem, (∀ t, t < vN v → s'.2 60 t = lN (fb_sm (fun j => cb true (rb v) f j t) i + (if True ∧ rb v i = 0 ∧ t = i then 2 * f i else 0))) → s'.2 59 i = lN (f i) → fr 60 61 μ s' → Ok () (fun ν => TJ 59 (vN v) (gs true (vN v) (rb v) f) ν ∧ fr 59 61 μ ν) (bd (fX5_bits n (nI (rb v i)) s') fun r19 m18 => if r19 = 1 then fX5_goesWays_L102 n 1 (nI i) (nI (rb v i)) (2 * m18.2 59 i) (fun m21 => fX5_goesWays_L25 n 1 (fun m24 => fX5_goesWays_L151 n n 0 m24) F (nI (i + 1)) m21) n 0 m18 else fX5_goesWays_L102 n 1 (nI i) (nI (rb v i)) (m18.2 59 i) (fun m16 => fX5_goesWays_L25 n 1 (fun m24 => fX5_goesWays_L151 n n 0 m24) F (nI (i + 1)) m16) n 0 m18) := by
          intro s' g1 g2 g3
          have hp : pop (rb v i) ≤ 8 := fb_ct_le _ _
          rw [p5_bits hn hr, bd_some, g2, litL_2, lN_mul]
          by_cases hq : pop (rb v i) = 1
          · rw [if_pos (by rw [hq]; rfl)]
            exact fin s' _ (fun t ht => by rw [g1 t ht]) (by simp [hq]) g3
          · rw [if_neg (by rw [lit_1, nI_eq (by omega) (by decide)]; exact hq)]
            exact fin s' _ (fun t ht => by rw [g1 t ht]) (by simp [hq]) g3
        by_cases hz : rb v i = 0
        · rw [if_pos (by rw [hz]; rfl)]
          refine tail _ (fun t ht => ?_) (by rw [setJ2_ne (by decide)]; exact e1) (fr_tr h2 (fr_J (by decide) (by decide)))
          rw [setJ2_eq, updL_get, h1 i hi, litL_2, lN_mul, lN_add]
          by_cases q : t = i
          · rw [if_pos q, q, if_pos ⟨trivial, hz, rfl⟩]
          · rw [if_neg q, h1 t ht, if_neg (fun x => q x.2.2), Nat.add_zero]
        · rw [if_neg (by rw [lit_0, nI_eq (by omega) (by decide)]; exact hz)]
          exact tail s (fun t ht => by rw [h1 t ht, if_neg (fun x => hz x.2.1), Nat.add_zero]) e1 h2
  · intro F i s hi ⟨h1, h2⟩ ih
    rw [fX5_goesWays_L2]
    simp (disch := omega) only [inb_nI, gd_true, nI_clamp, nI_leI, nI_ltI, nI_eq, if_pos, if_neg, reduceIte, bnd, bd_some, nI_add, pk_mul, pk_sub, lit_0, lit_1, lit_2, lit_3, lit_4, lit_5, lit_7, lit_8, lit_9, lit_10, lit_12, lit_14, lit_20, lit_31, lit_60, lit_96, lit_99, lit_255, (MV_fr h2 (Or.inr (by decide)) hc).1]
    refine ih _ ⟨fun j hj => ?_, fr_tr h2 (fr_J (by decide) (by decide))⟩
    rw [setJ2_eq, updL_get]
    by_cases q : j = i
    · rw [if_pos q]; rfl
    · rw [if_neg q]; exact h1 j (by omega)
theorem p5_ways (hn : 40 ≤ n) (hv : Vok v) (hc : MV v μ) {a b t : Nat} (hb : b < vN v) (ht : t ≤ 20) {f : Nat → Nat} (hf : TJ 59 (vN v) f μ) : Ok (lN (gsn false (vN v) (rb v) f t b)) (fun ν => fr 59 61 μ ν) (fX5_ways_L51 n (nI b) (nI t) n (nI 0) μ) := by
  have h8 := hv.1
  refine loop_inv (fun F i s => fX5_ways_L51 n (nI b) (nI t) F (nI i) s) (fun i s => TJ 59 (vN v) (gsn false (vN v) (rb v) f i) s ∧ fr 59 61 μ s) (Ok (lN (gsn false (vN v) (rb v) f t b)) (fun ν => fr 59 61 μ ν)) t ?_ ?_ n 0 _ ⟨hf, fr_rf⟩ (by omega) (by omega)
  · intro F s ⟨h1, h2⟩
    rw [fX5_ways_L51]
    simp (disch := omega) only [inb_nI, gd_true, nI_clamp, nI_leI, nI_ltI, nI_eq, if_pos, if_neg, reduceIte, bnd, bd_some, nI_add, pk_mul, pk_sub, lit_0, lit_1, lit_2, lit_3, lit_4, lit_5, lit_7, lit_8, lit_9, lit_10, lit_12, lit_14, lit_20, lit_31, lit_60, lit_96, lit_99, lit_255, h1 b hb]
    exact ⟨s, rfl, h2⟩
  · intro F i s hi ⟨h1, h2⟩ ih
    obtain ⟨s2, q2, t2, f2⟩ := p5_gw hn hv (MV_fr h2 (Or.inr (by decide)) hc) h1 false
    rw [fX5_ways_L51]
    simp (disch := omega) only [nI_leI, if_neg]
    have e0 : (if false = true then nI 1 else nI 0) = (0 : Int32) := rfl
    rw [e0] at q2
    rw [q2]
    simp (disch := omega) only [inb_nI, gd_true, nI_clamp, nI_leI, nI_ltI, nI_eq, if_pos, if_neg, reduceIte, bnd, bd_some, nI_add, pk_mul, pk_sub, lit_0, lit_1, lit_2, lit_3, lit_4, lit_5, lit_7, lit_8, lit_9, lit_10, lit_12, lit_14, lit_20, lit_31, lit_60, lit_96, lit_99, lit_255]
    exact ih _ ⟨t2, fr_tr h2 f2⟩
end PWA
