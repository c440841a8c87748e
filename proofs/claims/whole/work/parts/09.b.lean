/-! ===== the model: stops and rides of a station ===== -/
section PM1
variable {n : Nat} {v : Vw} {μ : Mem}
theorem p5_is_t (hv : Vok v) (hc : MV v μ) {i : Nat} (hi : i < vN v) : fX5_isStation n (nI i) μ = some (nI 1, μ) := by
  have h1 := hv.1
  unfold fX5_isStation
  simp (disch := omega) only [inb_nI, gd_true, nI_clamp, nI_leI, nI_ltI, nI_eq, if_pos, if_neg, reduceIte, bnd, bd_some, nI_add, pk_mul, pk_sub, lit_0, lit_1, lit_2, lit_3, lit_4, lit_5, lit_7, lit_8, lit_9, lit_10, lit_12, lit_14, lit_20, lit_31, lit_60, lit_96, lit_99, lit_255, hc.1]
theorem p5_is_f (hv : Vok v) (hc : MV v μ) {x : Int32} (hx : ¬ ∃ i, i < vN v ∧ x = nI i) : fX5_isStation n x μ = some (nI 0, μ) := by
  have h1 := hv.1
  unfold fX5_isStation
  rw [hc.1]
  by_cases g1 : x < 0
  · rw [if_pos g1]; rfl
  · rw [if_neg g1]
    by_cases g2 : nI (vN v) ≤ x
    · rw [if_pos g2]; rfl
    · refine absurd ?_ hx
      obtain ⟨j, hj, rfl⟩ := nI_of g1
      exact ⟨j, by rw [nI_leI (by omega) hj] at g2; omega, rfl⟩
theorem p5_isV {c : Nat} (h : c < 26) : fX5_isVowel n (nI c) μ = some (nI (isV c), μ) := by
  unfold fX5_isVowel isV
  by_cases k0 : c = 0
  · simp (disch := omega) only [inb_nI, gd_true, nI_clamp, nI_leI, nI_ltI, nI_eq, if_pos, if_neg, reduceIte, bnd, bd_some, nI_add, pk_mul, pk_sub, lit_0, lit_1, lit_2, lit_3, lit_4, lit_5, lit_7, lit_8, lit_9, lit_10, lit_12, lit_14, lit_20, lit_31, lit_60, lit_96, lit_99, lit_255, k0, true_or]
  by_cases k4 : c = 4
  · simp (disch := omega) only [inb_nI, gd_true, nI_clamp, nI_leI, nI_ltI, nI_eq, if_pos, if_neg, reduceIte, bnd, bd_some, nI_add, pk_mul, pk_sub, lit_0, lit_1, lit_2, lit_3, lit_4, lit_5, lit_7, lit_8, lit_9, lit_10, lit_12, lit_14, lit_20, lit_31, lit_60, lit_96, lit_99, lit_255, k4, true_or, or_true]
  by_cases k8 : c = 8
  · simp (disch := omega) only [inb_nI, gd_true, nI_clamp, nI_leI, nI_ltI, nI_eq, if_pos, if_neg, reduceIte, bnd, bd_some, nI_add, pk_mul, pk_sub, lit_0, lit_1, lit_2, lit_3, lit_4, lit_5, lit_7, lit_8, lit_9, lit_10, lit_12, lit_14, lit_20, lit_31, lit_60, lit_96, lit_99, lit_255, k8, true_or, or_true]
  by_cases k14 : c = 14
  · simp (disch := omega) only [inb_nI, gd_true, nI_clamp, nI_leI, nI_ltI, nI_eq, if_pos, if_neg, reduceIte, bnd, bd_some, nI_add, pk_mul, pk_sub, lit_0, lit_1, lit_2, lit_3, lit_4, lit_5, lit_7, lit_8, lit_9, lit_10, lit_12, lit_14, lit_20, lit_31, lit_60, lit_96, lit_99, lit_255, k14, true_or, or_true]
  by_cases k20 : c = 20
  · simp (disch := omega) only [inb_nI, gd_true, nI_clamp, nI_leI, nI_ltI, nI_eq, if_pos, if_neg, reduceIte, bnd, bd_some, nI_add, pk_mul, pk_sub, lit_0, lit_1, lit_2, lit_3, lit_4, lit_5, lit_7, lit_8, lit_9, lit_10, lit_12, lit_14, lit_20, lit_31, lit_60, lit_96, lit_99, lit_255, k20, or_true]
  simp (disch := omega) only [inb_nI, gd_true, nI_clamp, nI_leI, nI_ltI, nI_eq, if_pos, if_neg, reduceIte, bnd, bd_some, nI_add, pk_mul, pk_sub, lit_0, lit_1, lit_2, lit_3, lit_4, lit_5, lit_7, lit_8, lit_9, lit_10, lit_12, lit_14, lit_20, lit_31, lit_60, lit_96, lit_99, lit_255, k0, k4, k8, k14, k20, or_self]
set_option maxHeartbeats 1000000 in
theorem p5_vowels (hn : 20 ≤ n) (hv : Vok v) (hc : MV v μ) {i : Nat} (hi : i < vN v) : fX5_vowelsOf n (nI i) μ = some (nI (vow (nm v i) (sz v i)), μ) := by
  obtain ⟨h1, h2, h3⟩ := hv
  obtain ⟨c1, c2, c3⟩ := hc
  obtain ⟨a1, a2, a3, a4⟩ := h3 i hi
  obtain ⟨e1, e2, e3⟩ := c3 i hi
  refine loop_inv (fun F j s => fX5_vowelsOf_L4 n (nI i) F (nI s) (nI j) μ) (fun j s => s = vow (nm v i) j) (fun o => o = some (nI (vow (nm v i) (sz v i)), μ)) (sz v i) ?_ ?_ n 0 0 rfl (by omega) (by omega)
  · intro F s hs
    rw [fX5_vowelsOf_L4]
    simp (disch := omega) only [inb_nI, gd_true, nI_clamp, nI_leI, nI_ltI, nI_eq, if_pos, if_neg, reduceIte, bnd, bd_some, nI_add, pk_mul, pk_sub, lit_0, lit_1, lit_2, lit_3, lit_4, lit_5, lit_7, lit_8, lit_9, lit_10, lit_12, lit_14, lit_20, lit_31, lit_60, lit_96, lit_99, lit_255, e2, hs]
  · intro F j s hj hs ih
    have e4 := e3 j hj
    have a5 := a4 j hj
    have hV : isV (nm v i j) = 0 ∨ isV (nm v i j) = 1 := by unfold isV; split <;> simp
    rw [fX5_vowelsOf_L4]
    simp (disch := omega) only [inb_nI, gd_true, nI_clamp, nI_leI, nI_ltI, nI_eq, if_pos, if_neg, reduceIte, bnd, bd_some, nI_add, pk_mul, pk_sub, lit_0, lit_1, lit_2, lit_3, lit_4, lit_5, lit_7, lit_8, lit_9, lit_10, lit_12, lit_14, lit_20, lit_31, lit_60, lit_96, lit_99, lit_255, e2, e4, p5_isV a5]
    have ih2 := ih (s + isV (nm v i j)) (by rw [hs]; rfl)
    rcases hV with hV | hV
    · rw [hV] at ih2 ⊢
      simp (disch := omega) only [inb_nI, gd_true, nI_clamp, nI_leI, nI_ltI, nI_eq, if_pos, if_neg, reduceIte, bnd, bd_some, nI_add, pk_mul, pk_sub, lit_0, lit_1, lit_2, lit_3, lit_4, lit_5, lit_7, lit_8, lit_9, lit_10, lit_12, lit_14, lit_20, lit_31, lit_60, lit_96, lit_99, lit_255]
      exact ih2
    · rw [hV] at ih2 ⊢
      simp (disch := omega) only [inb_nI, gd_true, nI_clamp, nI_leI, nI_ltI, nI_eq, if_pos, if_neg, reduceIte, bnd, bd_some, nI_add, pk_mul, pk_sub, lit_0, lit_1, lit_2, lit_3, lit_4, lit_5, lit_7, lit_8, lit_9, lit_10, lit_12, lit_14, lit_20, lit_31, lit_60, lit_96, lit_99, lit_255]
      exact ih2
set_option maxHeartbeats 1000000 in
theorem p5_stops (hn : 20 ≤ n) (hv : Vok v) (hc : MV v μ) {i : Nat} (hi : i < vN v) : fX5_stopsOf n (nI i) μ = some (nI (stp v i), μ) := by
  have q1 := p5_vowels hn hv hc hi
  obtain ⟨h1, h2, h3⟩ := hv
  obtain ⟨c1, c2, c3⟩ := hc
  obtain ⟨a1, a2, a3, a4⟩ := h3 i hi
  obtain ⟨e1, e2, e3⟩ := c3 i hi
  have e0 := (c3 0 (by omega)).2.1
  unfold fX5_stopsOf stp
  simp (disch := omega) only [inb_nI, gd_true, nI_clamp, nI_leI, nI_ltI, nI_eq, if_pos, if_neg, reduceIte, bnd, bd_some, nI_add, pk_mul, pk_sub, lit_0, lit_1, lit_2, lit_3, lit_4, lit_5, lit_7, lit_8, lit_9, lit_10, lit_12, lit_14, lit_20, lit_31, lit_60, lit_96, lit_99, lit_255, e1, e2, q1, c1, nz_nI, jrem_nI]
  by_cases k2 : kd v i = 2
  · simp (disch := omega) only [inb_nI, gd_true, nI_clamp, nI_leI, nI_ltI, nI_eq, if_pos, if_neg, reduceIte, bnd, bd_some, nI_add, pk_mul, pk_sub, lit_0, lit_1, lit_2, lit_3, lit_4, lit_5, lit_7, lit_8, lit_9, lit_10, lit_12, lit_14, lit_20, lit_31, lit_60, lit_96, lit_99, lit_255, k2]
  by_cases k3 : kd v i = 3
  · by_cases hl : i + 1 < vN v
    · have e5 := (c3 _ hl).2.1
      have e6 : (i + 1) % vN v = i + 1 := Nat.mod_eq_of_lt hl
      simp (disch := omega) only [inb_nI, gd_true, nI_clamp, nI_leI, nI_ltI, nI_eq, if_pos, if_neg, reduceIte, bnd, bd_some, nI_add, pk_mul, pk_sub, lit_0, lit_1, lit_2, lit_3, lit_4, lit_5, lit_7, lit_8, lit_9, lit_10, lit_12, lit_14, lit_20, lit_31, lit_60, lit_96, lit_99, lit_255, k3, e6, e5]
    · have e6 : (i + 1) % vN v = 0 := by rw [show i + 1 = vN v by omega]; exact Nat.mod_self _
      simp (disch := omega) only [inb_nI, gd_true, nI_clamp, nI_leI, nI_ltI, nI_eq, if_pos, if_neg, reduceIte, bnd, bd_some, nI_add, pk_mul, pk_sub, lit_0, lit_1, lit_2, lit_3, lit_4, lit_5, lit_7, lit_8, lit_9, lit_10, lit_12, lit_14, lit_20, lit_31, lit_60, lit_96, lit_99, lit_255, k3, e6, e0]
  by_cases k4 : kd v i = 4
  · simp (disch := omega) only [inb_nI, gd_true, nI_clamp, nI_leI, nI_ltI, nI_eq, if_pos, if_neg, reduceIte, bnd, bd_some, nI_add, pk_mul, pk_sub, lit_0, lit_1, lit_2, lit_3, lit_4, lit_5, lit_7, lit_8, lit_9, lit_10, lit_12, lit_14, lit_20, lit_31, lit_60, lit_96, lit_99, lit_255, k4]
  by_cases k5 : kd v i = 5
  · have e4 := e3 (sz v i - 1) (by omega)
    rw [show 10 * i + (sz v i - 1) = 10 * i + sz v i - 1 by omega] at e4
    simp (disch := omega) only [inb_nI, gd_true, nI_clamp, nI_leI, nI_ltI, nI_eq, if_pos, if_neg, reduceIte, bnd, bd_some, nI_add, pk_mul, pk_sub, lit_0, lit_1, lit_2, lit_3, lit_4, lit_5, lit_7, lit_8, lit_9, lit_10, lit_12, lit_14, lit_20, lit_31, lit_60, lit_96, lit_99, lit_255, k5, e4]
  simp (disch := omega) only [inb_nI, gd_true, nI_clamp, nI_leI, nI_ltI, nI_eq, if_pos, if_neg, reduceIte, bnd, bd_some, nI_add, pk_mul, pk_sub, lit_0, lit_1, lit_2, lit_3, lit_4, lit_5, lit_7, lit_8, lit_9, lit_10, lit_12, lit_14, lit_20, lit_31, lit_60, lit_96, lit_99, lit_255]
theorem rm_plus : ∀ N, N < 9 → 0 < N → ∀ i, i < 8 → ∀ s, s < 27 → jrem (jrem (nI i + nI s) (nI N) + nI N) (nI N) = nI (((i : Int) + s) % (N : Int)).toNat := by decide +kernel
theorem rm_minus : ∀ N, N < 9 → 0 < N → ∀ i, i < 8 → ∀ s, s < 27 → jrem (jrem (nI i + - nI s) (nI N) + nI N) (nI N) = nI (((i : Int) - s) % (N : Int)).toNat := by decide +kernel
theorem mi_minus : ∀ i, i < 8 → ∀ s, s < 27 → (nI i + - nI s).toInt = (i : Int) - s := by decide +kernel
theorem p5_bit (hv : Vok v) (hc : MV v μ) (h0 : 0 < vN v) {x y : Int32} {z : Int} (hz : (x + y).toInt = z) (hf : jrem (jrem (x + y) (nI (vN v)) + nI (vN v)) (nI (vN v)) = nI (z % (vN v : Int)).toNat) : fX5_bitAt n x y μ = some (nI (bitz v z), μ) := by
  have h1 := hv.1
  have h2 := hv.2.1
  have hm : (z % (vN v : Int)).toNat < vN v := by
    have := Int.emod_lt_of_pos z (show (0 : Int) < vN v by omega)
    have := Int.emod_nonneg z (show (vN v : Int) ≠ 0 by omega)
    omega
  unfold fX5_bitAt bitz
  simp only [bnd, hc.1, hc.2.1]
  generalize x + y = w at *
  by_cases hr : vr v = 1
  · have h3 := p5_is_t (n := n) hv hc hm
    simp (disch := omega) only [inb_nI, gd_true, nI_clamp, nI_leI, nI_ltI, nI_eq, if_pos, if_neg, reduceIte, bnd, bd_some, nI_add, pk_mul, pk_sub, lit_0, lit_1, lit_2, lit_3, lit_4, lit_5, lit_7, lit_8, lit_9, lit_10, lit_12, lit_14, lit_20, lit_31, lit_60, lit_96, lit_99, lit_255, hr, nz_nI, hf, h3, jshl_n1]
  · by_cases hz2 : 0 ≤ z ∧ z < (vN v : Int)
    · have hx : w = nI z.toNat := by
        apply Int32.toInt_inj.mp
        rw [nI_toInt (by omega), hz]
        omega
      have h3 := p5_is_t (n := n) hv hc (i := z.toNat) (by omega)
      rw [hx]
      simp (disch := omega) only [inb_nI, gd_true, nI_clamp, nI_leI, nI_ltI, nI_eq, if_pos, if_neg, reduceIte, bnd, bd_some, nI_add, pk_mul, pk_sub, lit_0, lit_1, lit_2, lit_3, lit_4, lit_5, lit_7, lit_8, lit_9, lit_10, lit_12, lit_14, lit_20, lit_31, lit_60, lit_96, lit_99, lit_255, hr, h3, jshl_n1, hz2, if_true, and_self]
    · have hx : ¬ ∃ i, i < vN v ∧ w = nI i := by
        rintro ⟨i, hi, rfl⟩
        rw [nI_toInt (by omega)] at hz
        omega
      have h3 := p5_is_f (n := n) hv hc hx
      simp (disch := omega) only [inb_nI, gd_true, nI_clamp, nI_leI, nI_ltI, nI_eq, if_pos, if_neg, reduceIte, bnd, bd_some, nI_add, pk_mul, pk_sub, lit_0, lit_1, lit_2, lit_3, lit_4, lit_5, lit_7, lit_8, lit_9, lit_10, lit_12, lit_14, lit_20, lit_31, lit_60, lit_96, lit_99, lit_255, hr, h3, hz2]
set_option maxHeartbeats 1000000 in
theorem p5_rides (hn : 20 ≤ n) (hv : Vok v) (hc : MV v μ) {i : Nat} (hi : i < vN v) : fX5_ridesOf n (nI i) μ = some (nI (rb v i), μ) := by
  have q1 := p5_stops hn hv hc hi
  have q2 := stp_le hv hi
  have h1 := hv.1
  have q3 := p5_bit (n := n) hv hc (by omega) (x := nI i) (y := nI (stp v i)) (z := (i : Int) + stp v i) (by rw [nI_add, nI_toInt (by omega)]; omega) (rm_plus _ (by omega) (by omega) _ (by omega) _ (by omega))
  have q4 := p5_bit (n := n) hv hc (by omega) (x := nI i) (y := -nI (stp v i)) (z := (i : Int) - stp v i) (mi_minus _ (by omega) _ (by omega)) (rm_minus _ (by omega) (by omega) _ (by omega) _ (by omega))
  have e1 := (hc.2.2 i hi).1
  have a1 := (hv.2.2 i hi).1
  unfold fX5_ridesOf
  simp (disch := omega) only [inb_nI, gd_true, nI_clamp, e1, q1, q3, q4, bd_some, bnd, or_nI]
  rw [lit_2, jrem_nI (by omega) (by decide) (by decide)]
  unfold rb
  by_cases k4 : kd v i = 4
  · by_cases hs : stp v i % 2 = 1
    · simp (disch := omega) only [inb_nI, gd_true, nI_clamp, nI_leI, nI_ltI, nI_eq, if_pos, if_neg, reduceIte, bnd, bd_some, nI_add, pk_mul, pk_sub, lit_0, lit_1, lit_2, lit_3, lit_4, lit_5, lit_7, lit_8, lit_9, lit_10, lit_12, lit_14, lit_20, lit_31, lit_60, lit_96, lit_99, lit_255, k4, hs, and_self]
    · simp (disch := omega) only [inb_nI, gd_true, nI_clamp, nI_leI, nI_ltI, nI_eq, if_pos, if_neg, reduceIte, bnd, bd_some, nI_add, pk_mul, pk_sub, lit_0, lit_1, lit_2, lit_3, lit_4, lit_5, lit_7, lit_8, lit_9, lit_10, lit_12, lit_14, lit_20, lit_31, lit_60, lit_96, lit_99, lit_255, k4, hs, and_false, or_self]
  by_cases k1 : kd v i = 1
  · simp (disch := omega) only [inb_nI, gd_true, nI_clamp, nI_leI, nI_ltI, nI_eq, if_pos, if_neg, reduceIte, bnd, bd_some, nI_add, pk_mul, pk_sub, lit_0, lit_1, lit_2, lit_3, lit_4, lit_5, lit_7, lit_8, lit_9, lit_10, lit_12, lit_14, lit_20, lit_31, lit_60, lit_96, lit_99, lit_255, k1, true_or, false_and]
  by_cases k5 : kd v i = 5
  · simp (disch := omega) only [inb_nI, gd_true, nI_clamp, nI_leI, nI_ltI, nI_eq, if_pos, if_neg, reduceIte, bnd, bd_some, nI_add, pk_mul, pk_sub, lit_0, lit_1, lit_2, lit_3, lit_4, lit_5, lit_7, lit_8, lit_9, lit_10, lit_12, lit_14, lit_20, lit_31, lit_60, lit_96, lit_99, lit_255, k5, or_true, false_and]
  simp (disch := omega) only [inb_nI, gd_true, nI_clamp, nI_leI, nI_ltI, nI_eq, if_pos, if_neg, reduceIte, bnd, bd_some, nI_add, pk_mul, pk_sub, lit_0, lit_1, lit_2, lit_3, lit_4, lit_5, lit_7, lit_8, lit_9, lit_10, lit_12, lit_14, lit_20, lit_31, lit_60, lit_96, lit_99, lit_255, k1, k5, k4, or_self, false_and]
end PM1
