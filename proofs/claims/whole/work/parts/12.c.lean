/-! ===== luck and alike ===== -/
theorem pop0_tab : ∀ b, b < 256 → (pop b = 0 ↔ b = 0) := by decide +kernel
def ptab (j : Nat) : Nat := if j = 8 then 0 else 2 ^ j
theorem pop2_tab : ∀ i, i < 9 → ∀ j, j < 9 → pop (ptab i ||| ptab j) ≤ 2 := by decide +kernel
theorem bitz_tab {v : Vw} (hv : Vok v) (h0 : 0 < vN v) (z : Int) : ∃ j, j < 9 ∧ bitz v z = ptab j := by
  have h8 := hv.1
  unfold bitz
  split
  · have := Int.emod_lt_of_pos z (show (0 : Int) < vN v by omega)
    have := Int.emod_nonneg z (show (vN v : Int) ≠ 0 by omega)
    refine ⟨(z % (vN v : Int)).toNat, by omega, ?_⟩
    unfold ptab
    rw [if_neg (by omega)]
  · split
    · refine ⟨z.toNat, by omega, ?_⟩
      unfold ptab
      rw [if_neg (by omega)]
    · exact ⟨8, by omega, rfl⟩
theorem rb_pop {v : Vw} (hv : Vok v) {i : Nat} (hi : i < vN v) : pop (rb v i) ≤ 2 := by
  have b1 := bitz_tab hv (by omega)
  unfold rb
  split
  · decide +kernel
  · split
    · obtain ⟨j, h1, h2⟩ := b1 ((i : Int) + stp v i)
      have := pop2_tab j h1 8 (by decide)
      rw [h2]
      have e : ptab j ||| ptab 8 = ptab j := Nat.or_zero _
      rwa [e] at this
    · obtain ⟨j, h1, h2⟩ := b1 ((i : Int) + stp v i)
      obtain ⟨k, h3, h4⟩ := b1 ((i : Int) - stp v i)
      rw [h2, h4]
      exact pop2_tab j h1 k h3
theorem gs_bound {h : Bool} {N B : Nat} {R f : Nat → Nat} (h8 : N ≤ 8) (hf : ∀ i, i < N → f i ≤ B) (t : Nat) : gs h N R f t ≤ 16 * B := by
  have h1 : ∀ j, j < N → cb h R f j t ≤ 2 * B := by
    intro j hj
    have h2 := hf j hj
    unfold cb
    by_cases hz : R j = 0
    · rw [hz]
      simp only [Nat.zero_testBit, Bool.false_eq_true, if_false]
      split <;> omega
    · rw [if_neg (fun q => hz q.2.1)]
      split
      · split <;> omega
      · omega
  have h3 := fb_sm_le (f := fun j => cb h R f j t) (g := fun _ => 2 * B) (n := N) h1
  rw [fb_sm_const] at h3
  have h4 : N * (2 * B) ≤ 8 * (2 * B) := Nat.mul_le_mul_right _ h8
  unfold gs
  omega
theorem gsn_bound {h : Bool} {N : Nat} {R : Nat → Nat} (h8 : N ≤ 8) (a : Nat) : ∀ k i, gsn h N R (e0 a) k i ≤ 16 ^ k
  | 0, i => by
    show e0 a i ≤ 16 ^ 0
    unfold e0
    split <;> decide
  | k + 1, i => by
    have := gs_bound (h := h) (R := R) h8 (fun j _ => gsn_bound (h := h) (R := R) h8 a k j) i
    show gs h N R (gsn h N R (e0 a) k) i ≤ 16 ^ (k + 1)
    rw [Nat.pow_succ]
    omega
theorem gcd_go {x y : Nat} : Nat.gcd x y = Nat.gcd y (x % y) := by
  rw [Nat.gcd_comm x y, Nat.gcd_rec y x, Nat.gcd_comm]
theorem cmp0 {a : Nat} (h : a < 2 ^ 63) : lg_cmp (lN a) 0 = 0 ↔ a = 0 := by
  unfold lg_cmp
  have h1 : lN a > 0 ↔ 0 < a := pk_lLT (a := 0) (by decide) h
  have h2 : lN a = 0 ↔ a = 0 := pk_lEQ (b := 0) h (by decide)
  by_cases h0 : a = 0
  · subst h0; exact ⟨fun _ => rfl, fun _ => by decide⟩
  · rw [if_pos (h1.mpr (by omega))]
    simp [h0]
theorem cmp0' {a : Nat} (h : a < 2 ^ 63) : lg_cmp (lN a) 0 ≤ 0 ↔ a = 0 := by
  unfold lg_cmp
  have h1 : lN a > 0 ↔ 0 < a := pk_lLT (a := 0) (by decide) h
  have h2 : lN a = 0 ↔ a = 0 := pk_lEQ (b := 0) h (by decide)
  by_cases h0 : a = 0
  · subst h0; exact ⟨fun _ => rfl, fun _ => by decide⟩
  · rw [if_pos (h1.mpr (by omega))]
    simp only [h0, iff_false]
    decide
theorem nzL_lN {a : Nat} (h0 : 0 < a) (h : a < 2 ^ 63) : nzL (lN a) = true := decide_eq_true (by
  intro q
  have := (pk_lEQ (a := a) (b := 0) h (by decide)).mp q
  omega)
theorem jremL_lN {a b : Nat} (ha : a < 2 ^ 63) (h0 : 0 < b) (hb : b < 2 ^ 63) : jremL (lN a) (lN b) = lN (a % b) := pk_lRem ha h0 hb
theorem p5_div {n : Nat} {μ : Mem} : ∀ (F x y : Nat), x < 2 ^ 62 → y < 2 ^ 62 → y < F → fX5_divisor_L6 n F (lN x) (lN y) μ = some (lN (Nat.gcd x y), μ)
  | 0, x, y, _, _, h => by omega
  | F + 1, x, y, hx, hy, h => by
    rw [fX5_divisor_L6]
    by_cases h0 : y = 0
    · rw [if_pos ((cmp0 (by omega)).mpr h0), h0, Nat.gcd_zero_right]
    · rw [if_neg (fun q => h0 ((cmp0 (by omega)).mp q)), nzL_lN (by omega) (by omega), gd_true, bnd, jremL_lN (by omega) (by omega) (by omega)]
      have h1 : x % y < y := Nat.mod_lt _ (by omega)
      rw [p5_div F y (x % y) hy (by omega) (by omega), ← gcd_go]
theorem odd_dvd : ∀ (k d : Nat), d % 2 = 1 → d ∣ 2 ^ k → d = 1
  | 0, d, _, h => Nat.dvd_one.mp h
  | k + 1, d, hd, h => by
    obtain ⟨c, hc⟩ := h
    refine odd_dvd k d hd ⟨c / 2, ?_⟩
    have h2 : (d * c) % 2 = 0 := by rw [← hc, Nat.pow_succ]; omega
    have h3 : c % 2 = 0 := by
      rw [Nat.mul_mod, hd, Nat.one_mul, Nat.mod_mod] at h2
      exact h2
    have h4 : c = 2 * (c / 2) := by omega
    rw [h4, ← Nat.mul_assoc, Nat.mul_comm d 2, Nat.mul_assoc] at hc
    rw [Nat.pow_succ] at hc
    omega
theorem gcd_odd {a k : Nat} (h : a % 2 = 1) : Nat.gcd a (2 ^ k) = 1 := by
  refine odd_dvd k _ ?_ (Nat.gcd_dvd_right _ _)
  obtain ⟨c, hc⟩ := Nat.gcd_dvd_left a (2 ^ k)
  rcases Nat.mod_two_eq_zero_or_one (Nat.gcd a (2 ^ k)) with q | q
  · exfalso
    have h2 : a % 2 = 0 := by rw [hc, Nat.mul_mod, q, Nat.zero_mul]
    omega
  · exact q
section PLU
variable {n : Nat} {v : Vw} {μ : Mem}
theorem p0_share (hn : 400 ≤ n) (hv : Vok v) (hc : NK v μ) {f A : Nat → Nat} (hf : TJ 45 (vN v) f μ) (hA : TJ 46 (vN v) A μ) {i : Nat} (hi : i < vN v) (hB : f i < 2 ^ 60) : Ok () (fun ν => TJ 46 (vN v) (fun t => A t + cb true (rb v) f i t) ν ∧ fr 46 47 μ ν) (fX0_shareOut n (nI i) μ) := by
  have h8 := hv.1
  have hr : rb v i < 256 := pow8 h8 (rb_lt hv i hi)
  have hp := rb_pop hv hi
  have hp0 := pop0_tab (rb v i) hr
  have e1 := hf i hi
  unfold fX0_shareOut
  simp (disch := omega) only [inb_nI, gd_true, nI_clamp, (hc.2 i hi).1, pJ6_bc hr, bd_some, lit_1, nI_leI, bnd, nI_l, e1, litL_2, lN_mul, hA i hi, lN_add]
  by_cases h1 : 1 ≤ pop (rb v i)
  · have hne : ¬ rb v i = 0 := fun q => by have := hp0.mpr q; omega
    rw [if_pos h1, nzL_lN (by omega) (by omega), gd_true, pk_lDiv (by omega) (by omega) (by omega)]
    have hs : 2 * f i / pop (rb v i) = if pop (rb v i) = 1 then 2 * f i else f i := by
      by_cases q : pop (rb v i) = 1
      · rw [if_pos q, q, Nat.div_one]
      · rw [if_neg q, show pop (rb v i) = 2 by omega]; omega
    rw [hs]
    generalize he : (if pop (rb v i) = 1 then 2 * f i else f i) = e
    refine loop_inv (fun F j s => fX0_shareOut_L52 n (nI i) (lN e) F (nI j) s) (fun j s => (∀ t, t < vN v → s.2 46 t = lN (if t < j then A t + cb true (rb v) f i t else A t)) ∧ fr 46 47 μ s) (Ok () (fun ν => TJ 46 (vN v) (fun t => A t + cb true (rb v) f i t) ν ∧ fr 46 47 μ ν)) (vN v) ?_ ?_ n 0 _ ⟨fun t ht => by rw [hA t ht]; simp, fr_rf⟩ (by omega) (by omega)
    · intro F s ⟨h2, h3⟩
      rw [fX0_shareOut_L52]
      simp (disch := omega) only [(NK_fr h3 (Or.inl (by decide)) hc).1, nI_leI, if_pos]
      exact ⟨s, rfl, fun t ht => by rw [h2 t ht, if_pos ht], h3⟩
    · intro F j s hj ⟨h2, h3⟩ ih
      have hc' := NK_fr h3 (Or.inl (by decide)) hc
      have q := p0_leads (n := n) h8 hc'.1 hi hj (rb_lt hv i hi) (hc'.2 i hi).1
      have hcb : cb true (rb v) f i j = if (rb v i).testBit j then e else 0 := by
        unfold cb
        rw [if_neg (fun q => hne q.2.1), Nat.zero_add]
        simp only [true_and, he]
      rw [fX0_shareOut_L52]
      simp (disch := omega) only [hc'.1, nI_leI, if_neg, q, bd_some]
      have keep : ∀ s' : Mem, (∀ t, t < vN v → t ≠ j → s'.2 46 t = s.2 46 t) → s'.2 46 j = lN (A j + cb true (rb v) f i j) → ∀ t, t < vN v → s'.2 46 t = lN (if t < j + 1 then A t + cb true (rb v) f i t else A t) := by
        intro s' g1 g2 t ht
        by_cases q1 : t = j
        · rw [q1, g2, if_pos (show j < j + 1 by omega)]
        · rw [g1 t ht q1, h2 t ht]
          by_cases q2 : t < j
          · rw [if_pos q2, if_pos (show t < j + 1 by omega)]
          · rw [if_neg q2, if_neg (show ¬ t < j + 1 by omega)]
      have e3 := h2 j hj
      rw [if_neg (by omega)] at e3
      by_cases hb : (rb v i).testBit j = true
      · rw [if_pos hb] at hcb ⊢
        simp (disch := omega) only [inb_nI, gd_true, nI_clamp, nI_leI, nI_ltI, nI_eq, if_pos, if_neg, reduceIte, bnd, bd_some, nI_add, pk_mul, pk_sub, lit_0, lit_1, lit_2, lit_3, lit_4, lit_5, lit_7, lit_8, lit_9, lit_10, lit_12, lit_14, lit_20, lit_31, lit_60, lit_96, lit_99, lit_255, e3, lN_add]
        refine ih _ ⟨keep _ (fun t ht q1 => by rw [setJ2_eq, updL_ne q1]) (by rw [setJ2_eq, updL_eq, hcb]), fr_tr h3 (fr_J (by decide) (by decide))⟩
      · rw [if_neg hb] at hcb ⊢
        simp (disch := omega) only [inb_nI, gd_true, nI_clamp, nI_leI, nI_ltI, nI_eq, if_pos, if_neg, reduceIte, bnd, bd_some, nI_add, pk_mul, pk_sub, lit_0, lit_1, lit_2, lit_3, lit_4, lit_5, lit_7, lit_8, lit_9, lit_10, lit_12, lit_14, lit_20, lit_31, lit_60, lit_96, lit_99, lit_255]
        exact ih _ ⟨keep _ (fun t ht q1 => rfl) (by rw [e3, hcb, Nat.add_zero]), h3⟩
  · have hz : rb v i = 0 := hp0.mp (by omega)
    rw [if_neg h1]
    refine ⟨_, rfl, fun t ht => ?_, fr_J (by decide) (by decide)⟩
    rw [setJ2_eq, updL_get]
    unfold cb
    rw [hz]
    simp only [Nat.zero_testBit, Bool.false_eq_true, if_false, Nat.add_zero, true_and]
    by_cases q : t = i
    · rw [if_pos q, q, if_pos rfl]
    · rw [if_neg q, hA t ht, if_neg q, Nat.add_zero]
theorem p0_lots (hn : 400 ≤ n) (hv : Vok v) (hc : NK v μ) {a b t : Nat} (ha : a < vN v) (hb : b < vN v) (ht : t ≤ 8) : Ok (lN (gsn true (vN v) (rb v) (e0 a) t b)) (fun ν => fr 45 47 μ ν) (fX0_lotsOf n (nI a) (nI b) (nI t) μ) := by
  have h8 := hv.1
  obtain ⟨s0, q0, t0, f0⟩ := p0_start (by omega) hv hc ha (n := n)
  unfold fX0_lotsOf
  rw [q0, bd_some]
  refine loop_inv (fun F i s => fX0_lotsOf_L8 n (nI b) (nI t) F (nI i) s) (fun i s => TJ 45 (vN v) (gsn true (vN v) (rb v) (e0 a) i) s ∧ fr 45 47 μ s) (Ok (lN (gsn true (vN v) (rb v) (e0 a) t b)) (fun ν => fr 45 47 μ ν)) t ?_ ?_ n 0 _ ⟨t0, f0⟩ (by omega) (by omega)
  · intro F s ⟨h1, h2⟩
    rw [fX0_lotsOf_L8]
    simp (disch := omega) only [inb_nI, gd_true, nI_clamp, nI_leI, nI_ltI, nI_eq, if_pos, if_neg, reduceIte, bnd, bd_some, nI_add, pk_mul, pk_sub, lit_0, lit_1, lit_2, lit_3, lit_4, lit_5, lit_7, lit_8, lit_9, lit_10, lit_12, lit_14, lit_20, lit_31, lit_60, lit_96, lit_99, lit_255, h1 b hb]
    exact ⟨s, rfl, h2⟩
  · intro F k s hk ⟨h1, h2⟩ ih
    have hc' := NK_fr h2 (Or.inl (by decide)) hc
    rw [fX0_lotsOf_L8]
    simp (disch := omega) only [nI_leI, if_neg]
    refine loop_inv (fun F i s => fX0_lotsOf_L17 n (nI b) (nI t) (nI k) _ F (nI i) s) (fun i s' => (∀ j, j < i → s'.2 46 j = lN 0) ∧ fr 46 47 s s') _ (vN v) ?_ ?_ n 0 _ ⟨fun j hj => by omega, fr_rf⟩ (by omega) (by omega)
    · intro F s' ⟨h3, h4⟩
      rw [fX0_lotsOf_L17]
      simp (disch := omega) only [(NK_fr h4 (Or.inl (by decide)) hc').1, nI_leI, if_pos]
      refine loop_inv (fun F i s => fX0_lotsOf_L43 n (nI b) (nI t) (nI k) _ F (nI i) s) (fun i s' => TJ 46 (vN v) (fun t => fb_sm (fun j => cb true (rb v) (gsn true (vN v) (rb v) (e0 a) k) j t) i) s' ∧ fr 46 47 s s') _ (vN v) ?_ ?_ n 0 _ ⟨h3, h4⟩ (by omega) (by omega)
      · intro F s' ⟨h3, h4⟩
        have hc2 := NK_fr h4 (Or.inl (by decide)) hc'
        rw [fX0_lotsOf_L43]
        simp (disch := omega) only [hc2.1, nI_leI, if_pos]
        obtain ⟨s2, q2, t2, f2⟩ := p0_turn (by omega) hv hc2 h3 (n := n)
        rw [q2]
        simp (disch := omega) only [inb_nI, gd_true, nI_clamp, nI_leI, nI_ltI, nI_eq, if_pos, if_neg, reduceIte, bnd, bd_some, nI_add, pk_mul, pk_sub, lit_0, lit_1, lit_2, lit_3, lit_4, lit_5, lit_7, lit_8, lit_9, lit_10, lit_12, lit_14, lit_20, lit_31, lit_60, lit_96, lit_99, lit_255]
        exact ih _ ⟨t2, fr_tr h2 (fr_tr (fr_wd h4 (by decide) (by decide)) f2)⟩
      · intro F i s' hi ⟨h3, h4⟩ ih2
        have hc2 := NK_fr h4 (Or.inl (by decide)) hc'
        have hbd := gsn_bound (h := true) (R := rb v) h8 a k i
        have hpw : 16 ^ k ≤ 16 ^ 8 := Nat.pow_le_pow_right (by decide) (by omega)
        obtain ⟨s2, q2, t2, f2⟩ := p0_share hn hv hc2 (TJ_fr h4 (Or.inl (by decide)) h1) h3 hi (Nat.lt_of_le_of_lt hbd (Nat.lt_of_le_of_lt hpw (by decide)))
        rw [fX0_lotsOf_L43, hc2.1, if_neg (by rw [nI_leI (by omega) (by omega)]; omega), q2, bd_some, bnd, nI_1 i]
        exact ih2 _ ⟨t2, fr_tr h4 f2⟩
    · intro F i s' hi ⟨h3, h4⟩ ih2
      rw [fX0_lotsOf_L17, (NK_fr h4 (Or.inl (by decide)) hc').1, if_neg (by rw [nI_leI (by omega) (by omega)]; omega), inb_nI (by omega) (by decide), gd_true, nI_clamp (by omega), bnd, bnd, nI_1 i]
      refine ih2 _ ⟨fun j hj => ?_, fr_tr h4 (fr_J (by decide) (by decide))⟩
      rw [setJ2_eq, updL_get]
      by_cases q : j = i
      · rw [if_pos q]; rfl
      · rw [if_neg q]; exact h3 j (by omega)
def lkp (part up k : Nat) : Nat := (if part = 0 then up else 2 ^ k) / Nat.gcd up (2 ^ k)
theorem p4_reduce {part : Nat} (hp : part ≤ 1) {t : Nat} (ht : t ≤ 8) : ∀ (d F i up : Nat), i + d = t → d < F → up < 2 ^ 60 → fX4_luck_L98 n (nI t) (nI part) F (lN up) (lN (2 ^ d)) (nI i) μ = some (lN (lkp part up d), μ)
  | 0, F + 1, i, up, hi, _, hu => by
    rw [fX4_luck_L98]
    simp (disch := omega) only [nI_leI, if_pos]
    unfold lkp
    rw [Nat.pow_zero, Nat.gcd_one_right, Nat.div_one]
    by_cases h : part = 0
    · simp (disch := omega) only [inb_nI, gd_true, nI_clamp, nI_leI, nI_ltI, nI_eq, if_pos, if_neg, reduceIte, bnd, bd_some, nI_add, pk_mul, pk_sub, lit_0, lit_1, lit_2, lit_3, lit_4, lit_5, lit_7, lit_8, lit_9, lit_10, lit_12, lit_14, lit_20, lit_31, lit_60, lit_96, lit_99, lit_255]
    · simp (disch := omega) only [inb_nI, gd_true, nI_clamp, nI_leI, nI_ltI, nI_eq, if_pos, if_neg, reduceIte, bnd, bd_some, nI_add, pk_mul, pk_sub, lit_0, lit_1, lit_2, lit_3, lit_4, lit_5, lit_7, lit_8, lit_9, lit_10, lit_12, lit_14, lit_20, lit_31, lit_60, lit_96, lit_99, lit_255]
  | d + 1, F + 1, i, up, hi, hd, hu => by
    have hpw : 2 ^ (d + 1) ≤ 2 ^ 8 := Nat.pow_le_pow_right (by decide) (by omega)
    have hj : jremL (lN up) 2 = lN (up % 2) := jremL_lN (by omega) (by decide) (by decide)
    rw [fX4_luck_L98, if_neg (by rw [nI_leI (by omega) (by omega)]; omega), hj]
    rcases Nat.mod_two_eq_zero_or_one up with h0 | h0
    · rw [if_pos ((cmp0 (by omega)).mpr h0)]
      simp only [bnd]
      rw [litL_2, pk_lDiv (by omega) (by decide) (by decide), pk_lDiv (by omega) (by decide) (by decide), nI_1, show 2 ^ (d + 1) / 2 = 2 ^ d by rw [Nat.pow_succ]; omega]
      rw [p4_reduce hp ht d F (i + 1) (up / 2) (by omega) (by omega) (by omega)]
      congr 3
      unfold lkp
      have hg : Nat.gcd up (2 ^ (d + 1)) = 2 * Nat.gcd (up / 2) (2 ^ d) := by
        rw [← Nat.gcd_mul_left, Nat.pow_succ, Nat.mul_comm (2 ^ d) 2, show 2 * (up / 2) = up by omega]
      rw [hg]
      by_cases h : part = 0
      · rw [if_pos h, if_pos h, ← Nat.div_div_eq_div_mul]
      · rw [if_neg h, if_neg h, ← Nat.div_div_eq_div_mul, show 2 ^ (d + 1) / 2 = 2 ^ d by rw [Nat.pow_succ]; omega]
    · rw [if_neg (fun q => by have := (cmp0 (by omega)).mp q; omega)]
      unfold lkp
      rw [gcd_odd h0, Nat.div_one]
      by_cases h : part = 0
      · simp (disch := omega) only [inb_nI, gd_true, nI_clamp, nI_leI, nI_ltI, nI_eq, if_pos, if_neg, reduceIte, bnd, bd_some, nI_add, pk_mul, pk_sub, lit_0, lit_1, lit_2, lit_3, lit_4, lit_5, lit_7, lit_8, lit_9, lit_10, lit_12, lit_14, lit_20, lit_31, lit_60, lit_96, lit_99, lit_255]
      · simp (disch := omega) only [inb_nI, gd_true, nI_clamp, nI_leI, nI_ltI, nI_eq, if_pos, if_neg, reduceIte, bnd, bd_some, nI_add, pk_mul, pk_sub, lit_0, lit_1, lit_2, lit_3, lit_4, lit_5, lit_7, lit_8, lit_9, lit_10, lit_12, lit_14, lit_20, lit_31, lit_60, lit_96, lit_99, lit_255]
theorem jlshl1 : ∀ k, k < 9 → jlshl 1 (nI k) = lN (2 ^ k) := by decide +kernel
theorem p5_luck (hn : 400 ≤ n) (hv : Vok v) (hc : MV v μ) {a b t part : Nat} (hb : b < vN v) (ht : t ≤ 8) (hp : part ≤ 1) (hf : TJ 59 (vN v) (e0 a) μ) {K : Mem → Option (Int64 × Mem)} {Rr : Option (Int64 × Mem) → Prop} (hK : ∀ s, TJ 59 (vN v) (gsn true (vN v) (rb v) (e0 a) t) s → fr 59 61 μ s → Rr (K s)) : Rr (fX5_luck_L70 n (nI b) (nI t) (nI part) K n (nI 0) μ) := by
  have h8 := hv.1
  refine loop_inv (fun F i s => fX5_luck_L70 n (nI b) (nI t) (nI part) K F (nI i) s) (fun i s => TJ 59 (vN v) (gsn true (vN v) (rb v) (e0 a) i) s ∧ fr 59 61 μ s) Rr t ?_ ?_ n 0 _ ⟨hf, fr_rf⟩ (by omega) (by omega)
  · intro F s ⟨h1, h2⟩
    rw [fX5_luck_L70]
    simp (disch := omega) only [nI_leI, if_pos]
    exact hK s h1 h2
  · intro F i s hi ⟨h1, h2⟩ ih
    obtain ⟨s2, q2, t2, f2⟩ := p5_gw (by omega) hv (MV_fr h2 (Or.inr (by decide)) hc) h1 true (n := n)
    have e1 : (if true = true then nI 1 else nI 0) = (1 : Int32) := rfl
    rw [e1] at q2
    rw [fX5_luck_L70]
    simp (disch := omega) only [nI_leI, if_neg]
    rw [q2]
    simp (disch := omega) only [inb_nI, gd_true, nI_clamp, nI_leI, nI_ltI, nI_eq, if_pos, if_neg, reduceIte, bnd, bd_some, nI_add, pk_mul, pk_sub, lit_0, lit_1, lit_2, lit_3, lit_4, lit_5, lit_7, lit_8, lit_9, lit_10, lit_12, lit_14, lit_20, lit_31, lit_60, lit_96, lit_99, lit_255]
    exact ih _ ⟨t2, fr_tr h2 f2⟩
theorem p4_alike {a b : Nat} (ha : a < 100) (hb : b < 100) (ha0 : 0 < a) : ∀ (d F : Nat), d < 100 → d < F → Nat.gcd a b ≤ d → fX4_alike_L38 n (nI a) (nI b) F (nI d) μ = some (nI (Nat.gcd a b), μ)
  | 0, F, _, _, h => by
    have := Nat.gcd_pos_of_pos_left b ha0
    omega
  | d + 1, F + 1, h1, h2, h3 => by
    have hg := Nat.gcd_pos_of_pos_left b ha0
    rw [fX4_alike_L38]
    by_cases hd : d = 0
    · subst hd
      rw [if_pos (by decide), show Nat.gcd a b = 1 by omega]
      rfl
    · rw [if_neg (by rw [lit_1, nI_leI (by omega) (by decide)]; omega), nz_nI (by omega) (by omega), gd_true, gd_true, jrem_nI (by omega) (by omega) (by omega), jrem_nI (by omega) (by omega) (by omega)]
      simp only [bnd]
      rw [pk_m1]
      have hrec : Nat.gcd a b ≠ d + 1 → fX4_alike_L38 n (nI a) (nI b) F (nI d) μ = some (nI (Nat.gcd a b), μ) := fun q => p4_alike ha hb ha0 d F (by omega) (by omega) (by omega)
      have m1 : a % (d + 1) < d + 1 := Nat.mod_lt _ (by omega)
      have m2 : b % (d + 1) < d + 1 := Nat.mod_lt _ (by omega)
      by_cases q1 : a % (d + 1) = 0
      · rw [if_pos (by rw [q1]; rfl)]
        by_cases q2 : b % (d + 1) = 0
        · rw [if_pos (by rw [q2]; rfl)]
          have h5 : d + 1 ∣ Nat.gcd a b := Nat.dvd_gcd (Nat.dvd_of_mod_eq_zero q1) (Nat.dvd_of_mod_eq_zero q2)
          have := Nat.le_of_dvd hg h5
          rw [show Nat.gcd a b = d + 1 by omega]
        · rw [if_neg (by rw [lit_0, nI_eq (by omega) (by decide)]; exact q2)]
          refine hrec (fun e => q2 ?_)
          rw [← e]
          exact Nat.mod_eq_zero_of_dvd (Nat.gcd_dvd_right a b)
      · rw [if_neg (by rw [lit_0, nI_eq (by omega) (by decide)]; exact q1)]
        refine hrec (fun e => q1 ?_)
        rw [← e]
        exact Nat.mod_eq_zero_of_dvd (Nat.gcd_dvd_left a b)
end PLU
