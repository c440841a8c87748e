/-! ===== where one got on: ways that fit what was seen ===== -/
def okS (sg : Nat → Nat) (p i : Nat) : Bool := decide (sg p = 9 ∨ sg p = i)
/-- from the last sight back -/
def Bwd (N : Nat) (R : Nat → Nat) (sg : Nat → Nat) (Rn : Nat) : Nat → Nat → Nat
  | 0, i => if okS sg (Rn - 1) i then 1 else 0
  | e + 1, i => if okS sg (Rn - 2 - e) i then fb_sm (fun j => if (R i).testBit j then Bwd N R sg Rn e j else 0) N else 0
/-- from the first one on -/
def Fwd (N : Nat) (R : Nat → Nat) (sg : Nat → Nat) (s : Nat) : Nat → Nat → Nat
  | 0, i => if okS sg 0 i then e0 s i else 0
  | k + 1, i => if okS sg (k + 1) i then gs false N R (Fwd N R sg s k) i else 0
theorem sm_mul (x : Nat) (f : Nat → Nat) : ∀ n, x * fb_sm f n = fb_sm (fun j => x * f j) n
  | 0 => Nat.mul_zero x
  | n + 1 => by rw [fb_sm_succ, Nat.mul_add, sm_mul x f n, fb_sm_succ]
theorem sm_swap (g : Nat → Nat → Nat) (m : Nat) : ∀ n, fb_sm (fun i => fb_sm (fun j => g i j) m) n = fb_sm (fun j => fb_sm (fun i => g i j) n) m
  | 0 => by
    show 0 = fb_sm (fun _ => 0) m
    rw [fb_sm_const, Nat.mul_zero]
  | n + 1 => by
    rw [fb_sm_succ, sm_swap g m n, ← fb_sm_add]
    rfl
theorem sm_e0 (f : Nat → Nat) (s : Nat) : ∀ n, s < n → fb_sm (fun i => e0 s i * f i) n = f s := by
  intro n hs
  have h1 : ∀ n, n ≤ s → fb_sm (fun i => e0 s i * f i) n = 0 := by
    intro n
    induction n with
    | zero => intro _; rfl
    | succ n ih =>
      intro h
      rw [fb_sm_succ, ih (by omega)]
      unfold e0
      rw [if_neg (by omega), Nat.zero_mul]
  induction n with
  | zero => omega
  | succ n ih =>
    rw [fb_sm_succ]
    by_cases h : s = n
    · subst h
      rw [h1 s (Nat.le_refl _)]
      unfold e0
      rw [if_pos rfl, Nat.one_mul, Nat.zero_add]
    · rw [ih (by omega)]
      unfold e0
      rw [if_neg (fun q => h q.symm), Nat.zero_mul, Nat.add_zero]
theorem fit_const {N : Nat} {R sg : Nat → Nat} {s Rn : Nat} : ∀ k, k + 1 < Rn → fb_sm (fun i => Fwd N R sg s k i * Bwd N R sg Rn (Rn - 1 - k) i) N = fb_sm (fun i => Fwd N R sg s (k + 1) i * Bwd N R sg Rn (Rn - 1 - (k + 1)) i) N := by
  intro k hk
  have hm : ∀ i, okS sg k i = false → Fwd N R sg s k i = 0 := by
    intro i h
    cases k with
    | zero => unfold Fwd; rw [h]; rfl
    | succ k => unfold Fwd; rw [h]; rfl
  have e1 : Rn - 1 - k = (Rn - 1 - (k + 1)) + 1 := by omega
  have h1 : ∀ i, i < N → Fwd N R sg s k i * Bwd N R sg Rn (Rn - 1 - k) i = fb_sm (fun j => if (R i).testBit j then Fwd N R sg s k i * Bwd N R sg Rn (Rn - 1 - (k + 1)) j else 0) N := by
    intro i _
    rw [e1, Bwd, show Rn - 2 - (Rn - 1 - (k + 1)) = k by omega]
    cases h : okS sg k i with
    | false =>
      rw [hm i h]
      simp only [Nat.zero_mul, ite_self]
      rw [fb_sm_const, Nat.mul_zero]
    | true =>
      rw [if_pos rfl, sm_mul]
      exact fb_sm_cong (fun j _ => by split <;> simp)
  rw [fb_sm_cong h1, sm_swap]
  refine fb_sm_cong (fun j _ => ?_)
  have hb : okS sg (k + 1) j = false → Bwd N R sg Rn (Rn - 1 - (k + 1)) j = 0 := by
    intro h
    by_cases q : Rn - 1 - (k + 1) = 0
    · rw [q, Bwd, show Rn - 1 = k + 1 by omega, h]; rfl
    · obtain ⟨e, he⟩ : ∃ e, Rn - 1 - (k + 1) = e + 1 := ⟨Rn - 1 - (k + 1) - 1, by omega⟩
      rw [he, Bwd, show Rn - 2 - e = k + 1 by omega, h]; rfl
  show _ = (if okS sg (k + 1) j then gs false N R (Fwd N R sg s k) j else 0) * _
  cases h : okS sg (k + 1) j with
  | false =>
    rw [hb h]
    simp only [Nat.mul_zero, ite_self]
    rw [fb_sm_const, Nat.mul_zero]
  | true =>
    rw [if_pos rfl]
    unfold gs
    rw [Nat.mul_comm, sm_mul]
    refine fb_sm_cong (fun i _ => ?_)
    unfold cb
    simp only [Bool.false_eq_true, false_and, if_false, Nat.zero_add]
    split
    · rw [Nat.mul_comm]
    · rw [Nat.mul_zero]
theorem fit_eq {N : Nat} {R sg : Nat → Nat} {s Rn : Nat} (hs : s < N) (hR : 0 < Rn) : fb_sm (Fwd N R sg s (Rn - 1)) N = Bwd N R sg Rn (Rn - 1) s := by
  have h1 : ∀ k, k < Rn → fb_sm (fun i => Fwd N R sg s k i * Bwd N R sg Rn (Rn - 1 - k) i) N = fb_sm (fun i => Fwd N R sg s 0 i * Bwd N R sg Rn (Rn - 1) i) N := by
    intro k
    induction k with
    | zero => intro _; rfl
    | succ k ih => intro h; rw [← fit_const k h]; exact ih (by omega)
  have h2 := h1 (Rn - 1) (by omega)
  rw [Nat.sub_self] at h2
  have h3 : fb_sm (fun i => Fwd N R sg s (Rn - 1) i * Bwd N R sg Rn 0 i) N = fb_sm (Fwd N R sg s (Rn - 1)) N := by
    refine fb_sm_cong (fun i _ => ?_)
    rw [Bwd]
    cases h : okS sg (Rn - 1) i with
    | true => rw [if_pos rfl, Nat.mul_one]
    | false =>
      have : Fwd N R sg s (Rn - 1) i = 0 := by
        by_cases q : Rn - 1 = 0
        · rw [q] at h ⊢; unfold Fwd; rw [h]; rfl
        · obtain ⟨e, he⟩ : ∃ e, Rn - 1 = e + 1 := ⟨Rn - 1 - 1, by omega⟩
          rw [he] at h ⊢; unfold Fwd; rw [h]; rfl
      rw [this, Nat.zero_mul]
  rw [h3] at h2
  rw [h2]
  rw [← sm_e0 (Bwd N R sg Rn (Rn - 1)) s N hs]
  refine fb_sm_cong (fun i _ => ?_)
  rw [Fwd]
  cases h : okS sg 0 i with
  | true => rw [if_pos rfl]
  | false =>
    have : Bwd N R sg Rn (Rn - 1) i = 0 := by
      by_cases q : Rn - 1 = 0
      · rw [q, Bwd, q, h]; rfl
      · obtain ⟨e, he⟩ : ∃ e, Rn - 1 = e + 1 := ⟨Rn - 1 - 1, by omega⟩
        rw [he, Bwd, show Rn - 2 - e = 0 by omega, h]; rfl
    rw [this, Nat.mul_zero, Nat.mul_zero]
theorem Bwd_le {N : Nat} {R sg : Nat → Nat} {Rn : Nat} (h8 : N ≤ 8) : ∀ e i, Bwd N R sg Rn e i ≤ 8 ^ e
  | 0, i => by rw [Bwd]; split <;> decide
  | e + 1, i => by
    rw [Bwd]
    split
    · have h1 := fb_sm_le (f := fun j => if (R i).testBit j then Bwd N R sg Rn e j else 0) (g := fun _ => 8 ^ e) (n := N) (fun j _ => by
        have := Bwd_le (R := R) (sg := sg) (Rn := Rn) h8 e j
        show (if (R i).testBit j then _ else 0) ≤ _
        split
        · exact this
        · exact Nat.zero_le _)
      rw [fb_sm_const] at h1
      have h2 : N * 8 ^ e ≤ 8 * 8 ^ e := Nat.mul_le_mul_right _ h8
      rw [Nat.pow_succ]
      omega
    · exact Nat.zero_le _
def SC (Rn : Nat) (sg : Nat → Nat) (μ : Mem) : Prop := μ.1 40 1 = nI Rn ∧ ∀ i, i < Rn → μ.1 41 i = nI (sg i)
def SM (Rn : Nat) (sg : Nat → Nat) (μ : Mem) : Prop := μ.1 47 22 = nI Rn ∧ ∀ i, i < Rn → μ.1 61 i = nI (sg i)
def Sok (Rn : Nat) (sg : Nat → Nat) : Prop := Rn ≤ 12 ∧ ∀ i, i < Rn → sg i ≤ 9
theorem SC_fr {lo hi Rn : Nat} {sg : Nat → Nat} {μ ν : Mem} (h : fr lo hi μ ν) (hc : 42 ≤ lo ∨ hi ≤ 40) (t : SC Rn sg μ) : SC Rn sg ν := by
  refine ⟨by rw [(h 40 (by omega)).1]; exact t.1, fun i hi => ?_⟩
  rw [(h 41 (by omega)).1]
  exact t.2 i hi
theorem SM_fr {lo hi Rn : Nat} {sg : Nat → Nat} {μ ν : Mem} (h : fr lo hi μ ν) (hc : hi ≤ 47 ∨ (48 ≤ lo ∧ hi ≤ 61) ∨ 62 ≤ lo) (t : SM Rn sg μ) : SM Rn sg ν := by
  refine ⟨by rw [(h 47 (by omega)).1]; exact t.1, fun i hi => ?_⟩
  rw [(h 61 (by omega)).1]
  exact t.2 i hi
def dm : Nat → Int32
  | 0 => -1
  | d + 1 => nI d
theorem dm_dec (d : Nat) : nI d + (-1) = dm d := by
  cases d with
  | zero => rfl
  | succ d => exact pk_m1 d
section PF
variable {n : Nat} {v : Vw} {μ : Mem} {Rn : Nat} {sg : Nat → Nat}
theorem p1_at (hk : Sok Rn sg) (hs : SC Rn sg μ) {p : Nat} (hp : p < Rn) : fX1_at n (nI p) μ = some (nI (sg p), μ) := by
  have h1 := hk.1
  unfold fX1_at
  simp (disch := omega) only [inb_nI, gd_true, nI_clamp, nI_leI, nI_ltI, nI_eq, if_pos, if_neg, reduceIte, bnd, bd_some, nI_add, pk_mul, pk_sub, lit_0, lit_1, lit_2, lit_3, lit_4, lit_5, lit_7, lit_8, lit_9, lit_10, lit_12, lit_14, lit_20, lit_31, lit_60, lit_96, lit_99, lit_255, hs.1, hs.2 p hp]
theorem p1_allows (hk : Sok Rn sg) (hs : SC Rn sg μ) {p i : Nat} (hp : p < Rn) (hi : i < 8) : fX1_allows n (nI p) (nI i) μ = some (if okS sg p i then nI 1 else nI 0, μ) := by
  have h1 := hk.2 p hp
  unfold fX1_allows okS
  rw [p1_at hk hs hp, bd_some]
  by_cases h9 : sg p = 9
  · simp (disch := omega) only [inb_nI, gd_true, nI_clamp, nI_leI, nI_ltI, nI_eq, if_pos, if_neg, reduceIte, bnd, bd_some, nI_add, pk_mul, pk_sub, lit_0, lit_1, lit_2, lit_3, lit_4, lit_5, lit_7, lit_8, lit_9, lit_10, lit_12, lit_14, lit_20, lit_31, lit_60, lit_96, lit_99, lit_255, h9, true_or, decide_true]
  · by_cases h2 : sg p = i
    · simp (disch := omega) only [inb_nI, gd_true, nI_clamp, nI_leI, nI_ltI, nI_eq, if_pos, if_neg, reduceIte, bnd, bd_some, nI_add, pk_mul, pk_sub, lit_0, lit_1, lit_2, lit_3, lit_4, lit_5, lit_7, lit_8, lit_9, lit_10, lit_12, lit_14, lit_20, lit_31, lit_60, lit_96, lit_99, lit_255, h2, or_true, decide_true]
    · simp (disch := omega) only [inb_nI, gd_true, nI_clamp, nI_leI, nI_ltI, nI_eq, if_pos, if_neg, reduceIte, bnd, bd_some, nI_add, pk_mul, pk_sub, lit_0, lit_1, lit_2, lit_3, lit_4, lit_5, lit_7, lit_8, lit_9, lit_10, lit_12, lit_14, lit_20, lit_31, lit_60, lit_96, lit_99, lit_255, h9, h2, or_self, decide_false, Bool.false_eq_true]
theorem p0_from (hn : 40 ≤ n) (hv : Vok v) (hc : NK v μ) {f : Nat → Nat} (hf : TJ 45 (vN v) f μ) {i : Nat} (hi : i < vN v) : fX0_tallyFrom n (nI i) μ = some (lN (fb_sm (fun j => if (rb v i).testBit j then f j else 0) (vN v)), μ) := by
  have h8 := hv.1
  refine loop_inv (fun F j s => fX0_tallyFrom_L5 n (nI i) F (lN s) (nI j) μ) (fun j s => s = fb_sm (fun j => if (rb v i).testBit j then f j else 0) j) (fun o => o = some (lN (fb_sm (fun j => if (rb v i).testBit j then f j else 0) (vN v)), μ)) (vN v) ?_ ?_ n 0 0 rfl (by omega) (by omega)
  · intro F s hs
    rw [fX0_tallyFrom_L5]
    simp (disch := omega) only [hc.1, nI_leI, if_pos, hs]
  · intro F j s hj hs ih
    have q := p0_leads (n := n) h8 hc.1 hi hj (rb_lt hv i hi) (hc.2 i hi).1
    have ih2 := ih _ (show fb_sm (fun j => if (rb v i).testBit j then f j else 0) (j + 1) = _ from rfl)
    rw [fb_sm_succ, ← hs] at ih2
    rw [fX0_tallyFrom_L5]
    simp (disch := omega) only [hc.1, nI_leI, if_neg, q, bd_some]
    by_cases hb : (rb v i).testBit j = true
    · rw [if_pos hb] at ih2 ⊢
      simp (disch := omega) only [inb_nI, gd_true, nI_clamp, nI_leI, nI_ltI, nI_eq, if_pos, if_neg, reduceIte, bnd, bd_some, nI_add, pk_mul, pk_sub, lit_0, lit_1, lit_2, lit_3, lit_4, lit_5, lit_7, lit_8, lit_9, lit_10, lit_12, lit_14, lit_20, lit_31, lit_60, lit_96, lit_99, lit_255, hf j hj, lN_add]
      exact ih2
    · rw [if_neg hb] at ih2 ⊢
      simp (disch := omega) only [inb_nI, gd_true, nI_clamp, nI_leI, nI_ltI, nI_eq, if_pos, if_neg, reduceIte, bnd, bd_some, nI_add, pk_mul, pk_sub, lit_0, lit_1, lit_2, lit_3, lit_4, lit_5, lit_7, lit_8, lit_9, lit_10, lit_12, lit_14, lit_20, lit_31, lit_60, lit_96, lit_99, lit_255]
      exact ih2
theorem p0_fit54 (hn : 40 ≤ n) (hv : Vok v) (hc : NK v μ) (hk : Sok Rn sg) (hs : SC Rn sg μ) {f : Nat → Nat} (hf : TJ 45 (vN v) f μ) {p : Nat} (hp : p < Rn) {K : Mem → Option (Unit × Mem)} {Rr : Option (Unit × Mem) → Prop} (hK : ∀ s, TJ 46 (vN v) (fun i => if okS sg p i then fb_sm (fun j => if (rb v i).testBit j then f j else 0) (vN v) else 0) s → fr 46 47 μ s → Rr (K s)) : Rr (fX0_fit_L54 n (nI p) K n 0 μ) := by
  have h8 := hv.1
  refine loop_inv (fun F i s => fX0_fit_L54 n (nI p) K F (nI i) s) (fun i s => (∀ i', i' < i → s.2 46 i' = lN (if okS sg p i' then fb_sm (fun j => if (rb v i').testBit j then f j else 0) (vN v) else 0)) ∧ fr 46 47 μ s) Rr (vN v) ?_ ?_ n 0 _ ⟨fun j hj => by omega, fr_rf⟩ (by omega) (by omega)
  · intro F s ⟨h1, h2⟩
    rw [fX0_fit_L54, (NK_fr h2 (Or.inl (by decide)) hc).1, if_pos (nI_le (Nat.le_refl _) (by omega))]
    exact hK s h1 h2
  · intro F i s hi ⟨h1, h2⟩ ih
    have hc' := NK_fr h2 (Or.inl (by decide)) hc
    have q := p1_allows (n := n) hk (SC_fr h2 (Or.inl (by decide)) hs) hp (show i < 8 by omega)
    have q2 := p0_from hn hv hc' (TJ_fr h2 (Or.inl (by decide)) hf) hi
    have fin : ∀ x : Int64, x = lN (if okS sg p i then fb_sm (fun j => if (rb v i).testBit j then f j else 0) (vN v) else 0) → Rr (fX0_fit_L54 n (nI p) K F (nI (i + 1)) (setJ s 46 i x)) := by
      intro x hx
      refine ih _ ⟨fun j hj => ?_, fr_tr h2 (fr_J (by decide) (by decide))⟩
      rw [setJ2_eq, updL_get]
      by_cases q : j = i
      · rw [if_pos q, hx, q]
      · rw [if_neg q]; exact h1 j (by omega)
    rw [fX0_fit_L54, hc'.1, if_neg (by rw [nI_leI (by omega) (by omega)]; omega), q, bd_some]
    cases hok : okS sg p i with
    | true =>
      rw [if_pos rfl, if_neg (by decide), q2, bd_some, inb_nI (by omega) (by decide), gd_true, nI_clamp (by omega), bnd, bnd, nI_1 i]
      exact fin _ (by rw [hok, if_pos rfl])
    | false =>
      rw [if_neg (show ¬ (false = true) by decide), if_pos (show nI 0 = 0 from rfl), inb_nI (by omega) (by decide), gd_true, nI_clamp (by omega), bnd, bnd, nI_1 i]
      exact fin _ (by rw [hok]; rfl)
theorem p0_fit48 (hn : 40 ≤ n) (hv : Vok v) (hc : NK v μ) (hk : Sok Rn sg) (hs : SC Rn sg μ) (hR : 0 < Rn) : ∀ (d F : Nat) (s : Mem), d < Rn → d < F → TJ 45 (vN v) (Bwd (vN v) (rb v) sg Rn (Rn - 1 - d)) s → fr 45 47 μ s → Ok () (fun ν => TJ 45 (vN v) (Bwd (vN v) (rb v) sg Rn (Rn - 1)) ν ∧ fr 45 47 μ ν) (fX0_fit_L48 n F (dm d) s)
  | 0, F + 1, s, _, _, h1, h2 => by
    rw [fX0_fit_L48, if_pos (by decide)]
    exact ⟨s, rfl, h1, h2⟩
  | d + 1, F + 1, s, hd, hF, h1, h2 => by
    have h12 := hk.1
    have hc' := NK_fr h2 (Or.inl (by decide)) hc
    rw [fX0_fit_L48, dm, if_neg (nI_pos (by omega))]
    refine p0_fit54 hn hv hc' hk (SC_fr h2 (Or.inl (by decide)) hs) h1 (show d < Rn by omega) (fun s' h3 h4 => ?_)
    obtain ⟨s2, q2, t2, f2⟩ := p0_turn hn hv (NK_fr h4 (Or.inl (by decide)) hc') h3
    rw [q2, bd_some, bnd, dm_dec]
    refine p0_fit48 hn hv hc hk hs hR d F s2 (by omega) (by omega) (TJ_cong t2 (fun i _ => ?_)) (fr_tr h2 (fr_tr (fr_wd h4 (by decide) (by decide)) f2))
    rw [show Rn - 1 - d = (Rn - 1 - (d + 1)) + 1 by omega, Bwd, show Rn - 2 - (Rn - 1 - (d + 1)) = d by omega]
theorem p0_fit (hn : 40 ≤ n) (hv : Vok v) (hc : NK v μ) (hk : Sok Rn sg) (hs : SC Rn sg μ) (hR : 0 < Rn) : Ok () (fun ν => TJ 45 (vN v) (Bwd (vN v) (rb v) sg Rn (Rn - 1)) ν ∧ fr 45 47 μ ν) (fX0_fit n μ) := by
  have h8 := hv.1
  have h12 := hk.1
  unfold fX0_fit
  refine loop_inv (fun F i s => fX0_fit_L2 n _ F (nI i) s) (fun i s => (∀ i', i' < i → s.2 45 i' = lN (Bwd (vN v) (rb v) sg Rn 0 i')) ∧ fr 45 47 μ s) _ (vN v) ?_ ?_ n 0 _ ⟨fun j hj => by omega, fr_rf⟩ (by omega) (by omega)
  · intro F s ⟨h1, h2⟩
    rw [fX0_fit_L2, (NK_fr h2 (Or.inl (by decide)) hc).1, if_pos (nI_le (Nat.le_refl _) (by omega)), bnd, (SC_fr h2 (Or.inl (by decide)) hs).1]
    have e1 : nI Rn - 2 = dm (Rn - 1) := by
      by_cases q : Rn = 1
      · subst q; rfl
      · obtain ⟨d, rfl⟩ : ∃ d, Rn = d + 2 := ⟨Rn - 2, by omega⟩
        rw [lit_2, pk_sub (by omega)]
        rfl
    rw [e1]
    exact p0_fit48 hn hv hc hk hs hR (Rn - 1) n s (by omega) (by omega) (by rw [Nat.sub_self]; exact h1) h2
  · intro F i s hi ⟨h1, h2⟩ ih
    have hc' := NK_fr h2 (Or.inl (by decide)) hc
    have hs' := SC_fr h2 (Or.inl (by decide)) hs
    have q := p1_allows (n := n) hk hs' (show Rn - 1 < Rn by omega) (show i < 8 by omega)
    have fin : ∀ x : Int64, x = lN (Bwd (vN v) (rb v) sg Rn 0 i) → _ := fun x hx => ih (setJ s 45 i x) ⟨fun j hj => by
      rw [setJ2_eq, updL_get]
      by_cases q : j = i
      · rw [if_pos q, hx, q]
      · rw [if_neg q]; exact h1 j (by omega), fr_tr h2 (fr_J (by decide) (by decide))⟩
    rw [fX0_fit_L2, hc'.1, if_neg (by rw [nI_leI (by omega) (by omega)]; omega), hs'.1, lit_1, pk_sub (by omega), q, bd_some]
    cases hok : okS sg (Rn - 1) i with
    | true =>
      rw [if_pos rfl, if_neg (by decide), inb_nI (by omega) (by decide), gd_true, nI_clamp (by omega), bnd, bnd, nI_add i 1]
      exact fin _ (by rw [Bwd, hok, if_pos rfl]; rfl)
    | false =>
      rw [if_neg (show ¬ (false = true) by decide), if_pos (show nI 0 = 0 from rfl), inb_nI (by omega) (by decide), gd_true, nI_clamp (by omega), bnd, bnd, nI_add i 1]
      exact fin _ (by rw [Bwd, hok]; rfl)
def fsS (B : Nat → Nat) : Nat → Nat
  | 0 => 0
  | i + 1 => fsS B i + (if 0 < B i then 2 ^ i else 0)
theorem fsS_lt (B : Nat → Nat) : ∀ i, fsS B i < 2 ^ i
  | 0 => Nat.pow_pos (by decide)
  | i + 1 => by
    have := fsS_lt B i
    rw [fsS, Nat.pow_succ]
    split <;> omega
theorem fsS_zero (B : Nat → Nat) : ∀ i, fsS B i = 0 ↔ fb_sm B i = 0
  | 0 => Iff.rfl
  | i + 1 => by
    have h1 := fsS_zero B i
    have h2 : 0 < 2 ^ i := Nat.pow_pos (by decide)
    rw [fsS, fb_sm_succ]
    split <;> omega
theorem p0_fstat (hn : 40 ≤ n) (hv : Vok v) (hc : NK v μ) {B : Nat → Nat} (hf : TJ 45 (vN v) B μ) (hB : ∀ i, i < vN v → B i < 2 ^ 60) : fX0_fittingStations n μ = some (nI (fsS B (vN v)), μ) := by
  have h8 := hv.1
  refine loop_inv (fun F j s => fX0_fittingStations_L4 n F (nI s) (nI j) μ) (fun j s => s = fsS B j) (fun o => o = some (nI (fsS B (vN v)), μ)) (vN v) ?_ ?_ n 0 0 rfl (by omega) (by omega)
  · intro F s hs
    rw [fX0_fittingStations_L4]
    simp (disch := omega) only [hc.1, nI_leI, if_pos, hs]
  · intro F j s hj hs ih
    have ih2 := ih _ (show fsS B (j + 1) = _ from rfl)
    have hlt := fsS_lt B j
    have hb := hB j hj
    rw [fsS, ← hs] at ih2
    rw [← hs] at hlt
    rw [fX0_fittingStations_L4, hc.1, if_neg (by rw [nI_leI (by omega) (by omega)]; omega), inb_nI (by omega) (by decide), gd_true, nI_clamp (by omega), hf j hj]
    by_cases q : B j = 0
    · rw [if_neg (by omega), Nat.add_zero] at ih2
      rw [if_pos ((cmp0' (by omega)).mpr q), bnd, nI_1]
      exact ih2
    · rw [if_pos (by omega)] at ih2
      rw [if_neg (fun h => q ((cmp0' (by omega)).mp h)), bnd, bnd, nI_1, jshl1 j (by omega), or_nI, Nat.or_comm, ← or_nI]
      have h3 := fa_or_sum 1 hlt
      rw [Nat.mul_one] at h3
      rw [h3, Nat.add_comm]
      exact ih2
theorem p0_fways (hn : 40 ≤ n) (hv : Vok v) (hc : NK v μ) {B : Nat → Nat} (hf : TJ 45 (vN v) B μ) : fX0_fittingWays n μ = some (lN (fb_sm B (vN v)), μ) := by
  have h8 := hv.1
  refine loop_inv (fun F j s => fX0_fittingWays_L4 n F (lN s) (nI j) μ) (fun j s => s = fb_sm B j) (fun o => o = some (lN (fb_sm B (vN v)), μ)) (vN v) ?_ ?_ n 0 0 rfl (by omega) (by omega)
  · intro F s hs
    rw [fX0_fittingWays_L4]
    simp (disch := omega) only [hc.1, nI_leI, if_pos, hs]
  · intro F j s hj hs ih
    rw [fX0_fittingWays_L4]
    simp (disch := omega) only [inb_nI, gd_true, nI_clamp, nI_leI, nI_ltI, nI_eq, if_pos, if_neg, reduceIte, bnd, bd_some, nI_add, pk_mul, pk_sub, lit_0, lit_1, lit_2, lit_3, lit_4, lit_5, lit_7, lit_8, lit_9, lit_10, lit_12, lit_14, lit_20, lit_31, lit_60, lit_96, lit_99, lit_255, hc.1, hf j hj, lN_add]
    exact ih _ (by rw [hs]; rfl)
/-! the model -/
theorem p5_fits26 (hn : 40 ≤ n) (hv : Vok v) (hc : MV v μ) (hk : Sok Rn sg) (hs : SM Rn sg μ) {f : Nat → Nat} (hf : TJ 59 (vN v) f μ) {k : Nat} (hkk : k < Rn) {K : Mem → Option (Int64 × Mem)} {Rr : Option (Int64 × Mem) → Prop} (hK : ∀ s, TJ 59 (vN v) (fun i => if okS sg k i then f i else 0) s → fr 59 60 μ s → Rr (K s)) : Rr (fX5_fits_L26 n (nI k) K n 0 μ) := by
  have h8 := hv.1
  have h12 := hk.1
  have h9 := hk.2 k hkk
  refine loop_inv (fun F i s => fX5_fits_L26 n (nI k) K F (nI i) s) (fun i s => (∀ t, t < vN v → s.2 59 t = lN (if t < i then (if okS sg k t then f t else 0) else f t)) ∧ fr 59 60 μ s) Rr (vN v) ?_ ?_ n 0 _ ⟨fun t ht => by rw [hf t ht]; simp, fr_rf⟩ (by omega) (by omega)
  · intro F s ⟨h1, h2⟩
    rw [fX5_fits_L26, (MV_fr h2 (Or.inr (by decide)) hc).1, if_pos (nI_le (Nat.le_refl _) (by omega))]
    exact hK s (fun t ht => by rw [h1 t ht, if_pos ht]) h2
  · intro F i s hi ⟨h1, h2⟩ ih
    have hs' := SM_fr h2 (Or.inr (Or.inl (by decide))) hs
    have e1 := h1 i hi
    rw [if_neg (Nat.lt_irrefl i)] at e1
    have fin : ∀ x : Int64, x = lN (if okS sg k i then f i else 0) → Rr (fX5_fits_L26 n (nI k) K F (nI (i + 1)) (setJ s 59 i x)) := by
      intro x hx
      refine ih _ ⟨fun t ht => ?_, fr_tr h2 (fr_J (by decide) (by decide))⟩
      rw [setJ2_eq, updL_get]
      by_cases q : t = i
      · rw [if_pos q, hx, q, if_pos (show i < i + 1 by omega)]
      · rw [if_neg q, h1 t ht]
        by_cases q2 : t < i
        · rw [if_pos q2, if_pos (show t < i + 1 by omega)]
        · rw [if_neg q2, if_neg (show ¬ t < i + 1 by omega)]
    rw [fX5_fits_L26, (MV_fr h2 (Or.inr (by decide)) hc).1, if_neg (by rw [nI_leI (by omega) (by omega)]; omega), inb_nI (by omega) (by decide), gd_true]
    rw [bnd, nI_clamp (by omega), hs'.2 k hkk]
    have hgo : okS sg k i = true → Rr (gd (inb (nI i) 9) (gd (inb (nI i) 9) (bnd (setJ s 59 (nI i).toNatClampNeg (s.2 59 (nI i).toNatClampNeg)) fun m5 => bnd (nI i + 1) fun x6 => fX5_fits_L26 n (nI k) K F x6 m5))) := by
      intro hok
      rw [inb_nI (by omega) (by decide), gd_true, gd_true, nI_clamp (by omega), bnd, bnd, nI_1 i]
      exact fin _ (by rw [hok, e1, if_pos rfl])
    by_cases q9 : sg k = 9
    · rw [if_pos (by rw [q9]; rfl)]
      exact hgo (by unfold okS; simp [q9])
    · rw [if_neg (by rw [lit_9, nI_eq (by omega) (by decide)]; exact q9), gd_true]
      by_cases qi : sg k = i
      · rw [if_pos (by rw [qi])]
        exact hgo (by unfold okS; simp [qi])
      · rw [if_neg (by rw [nI_eq (by omega) (by omega)]; exact qi), inb_nI (by omega) (by decide), gd_true, nI_clamp (by omega), bnd, bnd, nI_1 i]
        exact fin _ (by rw [show okS sg k i = false by unfold okS; simp [q9, qi]]; rfl)
theorem p5_fits (hn : 40 ≤ n) (hv : Vok v) (hc : MV v μ) (hk : Sok Rn sg) (hs : SM Rn sg μ) (hR : 0 < Rn) {s : Nat} (hss : s < vN v) : Ok (lN (Bwd (vN v) (rb v) sg Rn (Rn - 1) s)) (fun ν => fr 59 61 μ ν) (fX5_fits n (nI s) μ) := by
  have h8 := hv.1
  have h12 := hk.1
  obtain ⟨s0, q0, t0, f0⟩ := p5_begin hn hv hc hss
  unfold fX5_fits
  rw [q0, bd_some]
  refine loop_inv (fun F i s' => fX5_fits_L7 n _ F (nI i) s') (fun i s' => (i = 0 → TJ 59 (vN v) (e0 s) s') ∧ (∀ k, i = k + 1 → TJ 59 (vN v) (Fwd (vN v) (rb v) sg s k) s') ∧ fr 59 61 μ s') _ Rn ?_ ?_ n 0 _ ⟨fun _ => t0, fun k h => by omega, f0⟩ (by omega) (by omega)
  · intro F s' ⟨h1, h3, h2⟩
    have hc' := MV_fr h2 (Or.inr (by decide)) hc
    have h4 := h3 (Rn - 1) (by omega)
    rw [fX5_fits_L7, (SM_fr h2 (Or.inr (Or.inl (by decide))) hs).1, if_pos (nI_le (Nat.le_refl _) (by omega))]
    rw [← fit_eq hss hR]
    refine loop_inv (fun F j x => fX5_fits_L88 n F (lN x) (nI j) s') (fun j x => x = fb_sm (Fwd (vN v) (rb v) sg s (Rn - 1)) j) _ (vN v) ?_ ?_ n 0 0 rfl (by omega) (by omega)
    · intro F x hx
      rw [fX5_fits_L88, hc'.1, if_pos (nI_le (Nat.le_refl _) (by omega)), hx]
      exact ⟨s', rfl, h2⟩
    · intro F j x hj hx ih
      rw [fX5_fits_L88]
      simp (disch := omega) only [inb_nI, gd_true, nI_clamp, nI_leI, nI_ltI, nI_eq, if_pos, if_neg, reduceIte, bnd, bd_some, nI_add, pk_mul, pk_sub, lit_0, lit_1, lit_2, lit_3, lit_4, lit_5, lit_7, lit_8, lit_9, lit_10, lit_12, lit_14, lit_20, lit_31, lit_60, lit_96, lit_99, lit_255, hc'.1, h4 j hj, lN_add]
      exact ih _ (by rw [hx]; rfl)
  · intro F k s' hkk ⟨h1, h3, h2⟩ ih
    have hc' := MV_fr h2 (Or.inr (by decide)) hc
    have hs' := SM_fr h2 (Or.inr (Or.inl (by decide))) hs
    rw [fX5_fits_L7, hs'.1, if_neg (by rw [nI_leI (by omega) (by omega)]; omega)]
    by_cases q : k = 0
    · subst q
      rw [if_pos (by decide)]
      refine p5_fits26 hn hv hc' hk hs' (h1 rfl) hR (fun s2 h4 h5 => ?_)
      rw [bnd, nI_1]
      exact ih _ ⟨fun h => by omega, fun k' hk' => by
        obtain rfl : k' = 0 := by omega
        exact h4, fr_tr h2 (fr_wd h5 (by decide) (by decide))⟩
    · obtain ⟨k', rfl⟩ : ∃ k', k = k' + 1 := ⟨k - 1, by omega⟩
      obtain ⟨s2, q2, t2, f2⟩ := p5_gw hn hv hc' (h3 k' rfl) false
      have e0 : (if false = true then nI 1 else nI 0) = (0 : Int32) := rfl
      rw [e0] at q2
      rw [if_neg (by rw [lit_0, nI_leI (by omega) (by decide)]; omega), q2, bd_some]
      refine p5_fits26 hn hv (MV_fr f2 (Or.inr (by decide)) hc') hk (SM_fr f2 (Or.inr (Or.inl (by decide))) hs') t2 hkk (fun s3 h4 h5 => ?_)
      rw [bnd, nI_1]
      exact ih _ ⟨fun h => by omega, fun k2 hk2 => by
        obtain rfl : k2 = k' + 1 := by omega
        exact h4, fr_tr h2 (fr_tr f2 (fr_wd h5 (by decide) (by decide)))⟩
theorem p5_fitsAll (hn : 40 ≤ n) (hv : Vok v) (hc : MV v μ) (hk : Sok Rn sg) (hs : SM Rn sg μ) (hR : 0 < Rn) : Ok (lN (fb_sm (Bwd (vN v) (rb v) sg Rn (Rn - 1)) (vN v))) (fun ν => fr 59 61 μ ν) (fX5_fitsAll n μ) := by
  have h8 := hv.1
  refine loop_inv (fun F j (x : Nat × Mem) => fX5_fitsAll_L4 n F (lN x.1) (nI j) x.2) (fun j x => x.1 = fb_sm (Bwd (vN v) (rb v) sg Rn (Rn - 1)) j ∧ fr 59 61 μ x.2) (Ok (lN (fb_sm (Bwd (vN v) (rb v) sg Rn (Rn - 1)) (vN v))) (fun ν => fr 59 61 μ ν)) (vN v) ?_ ?_ n 0 (0, μ) ⟨rfl, fr_rf⟩ (by omega) (by omega)
  · intro F x ⟨hx, h2⟩
    rw [fX5_fitsAll_L4, (MV_fr h2 (Or.inr (by decide)) hc).1, if_pos (nI_le (Nat.le_refl _) (by omega)), hx]
    exact ⟨x.2, rfl, h2⟩
  · intro F j x hj ⟨hx, h2⟩ ih
    have hc' := MV_fr h2 (Or.inr (by decide)) hc
    have hs' := SM_fr h2 (Or.inr (Or.inl (by decide))) hs
    obtain ⟨s2, q2, f2⟩ := p5_fits hn hv hc' hk hs' hR hj
    rw [fX5_fitsAll_L4, hc'.1, if_neg (by rw [nI_leI (by omega) (by omega)]; omega), q2, bd_some, bnd, bnd, lN_add, nI_1]
    exact ih (_, s2) ⟨by rw [hx]; rfl, fr_tr h2 f2⟩
theorem jlshl1' : ∀ k, k < 8 → jlshl 1 (nI k) = lN (2 ^ k) := by decide +kernel
theorem p5_got45 (hn : 40 ≤ n) (hv : Vok v) (hc : MV v μ) (hk : Sok Rn sg) (hs : SM Rn sg μ) (hR : 0 < Rn) : Ok (lN (fsS (Bwd (vN v) (rb v) sg Rn (Rn - 1)) (vN v))) (fun ν => fr 59 61 μ ν) (fX5_gotOn_L45 n n 0 0 μ) := by
  have h8 := hv.1
  have h12 := hk.1
  refine loop_inv (fun F j (x : Nat × Mem) => fX5_gotOn_L45 n F (lN x.1) (nI j) x.2) (fun j x => x.1 = fsS (Bwd (vN v) (rb v) sg Rn (Rn - 1)) j ∧ fr 59 61 μ x.2) (Ok (lN (fsS (Bwd (vN v) (rb v) sg Rn (Rn - 1)) (vN v))) (fun ν => fr 59 61 μ ν)) (vN v) ?_ ?_ n 0 (0, μ) ⟨rfl, fr_rf⟩ (by omega) (by omega)
  · intro F x ⟨hx, h2⟩
    rw [fX5_gotOn_L45, (MV_fr h2 (Or.inr (by decide)) hc).1, if_pos (nI_le (Nat.le_refl _) (by omega)), hx]
    exact ⟨x.2, rfl, h2⟩
  · intro F j x hj ⟨hx, h2⟩ ih
    have hc' := MV_fr h2 (Or.inr (by decide)) hc
    have hs' := SM_fr h2 (Or.inr (Or.inl (by decide))) hs
    obtain ⟨s2, q2, f2⟩ := p5_fits hn hv hc' hk hs' hR hj
    have hB := Bwd_le (R := rb v) (sg := sg) (Rn := Rn) h8 (Rn - 1) j
    have hpw : 8 ^ (Rn - 1) ≤ 8 ^ 11 := Nat.pow_le_pow_right (by decide) (by omega)
    have ih2 := ih (fsS (Bwd (vN v) (rb v) sg Rn (Rn - 1)) j + (if 0 < Bwd (vN v) (rb v) sg Rn (Rn - 1) j then 2 ^ j else 0), s2) ⟨rfl, fr_tr h2 f2⟩
    rw [← hx] at ih2
    rw [fX5_gotOn_L45, hc'.1, if_neg (by rw [nI_leI (by omega) (by omega)]; omega), q2, bd_some]
    simp only [bnd]
    rw [nI_1, jlshl1' j (by omega)]
    by_cases q : Bwd (vN v) (rb v) sg Rn (Rn - 1) j = 0
    · rw [if_neg (by omega)] at ih2
      rw [if_pos ((cmp0' (by omega)).mpr q), litL_0, lN_add]
      exact ih2
    · rw [if_pos (by omega)] at ih2
      rw [if_neg (fun h => q ((cmp0' (by omega)).mp h)), lN_add]
      exact ih2
end PF
