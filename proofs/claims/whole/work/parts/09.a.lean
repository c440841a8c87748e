/-! ===== the class: stops and rides of a station ===== -/
theorem jshr_n1 {b i : Nat} (hb : b < 256) (hi : i < 8) : (jshr (nI b) (nI i) &&& nI 1) = nI (b / 2 ^ i % 2) := jshr_and1 hb hi
theorem jshl_n1 {i : Nat} (h : i < 31) : jshl (nI 1) (nI i) = nI (2 ^ i) := jshl1 i h
theorem bitz_lt {v : Vw} (h : Vok v) (z : Int) : bitz v z < 2 ^ vN v ∨ vN v = 0 := by
  obtain ⟨h1, h2, h3⟩ := h
  by_cases h0 : vN v = 0
  · exact Or.inr h0
  refine Or.inl ?_
  unfold bitz
  split
  · exact Nat.pow_lt_pow_right (by decide) (by have := Int.emod_lt_of_pos z (show (0 : Int) < vN v by omega); have := Int.emod_nonneg z (show (vN v : Int) ≠ 0 by omega); omega)
  · split
    · exact Nat.pow_lt_pow_right (by decide) (by omega)
    · exact Nat.pow_pos (by decide)
section PC1
variable {n k : Nat} {v : Vw} {μ : Mem}
set_option maxHeartbeats 1000000 in
theorem p3_vowels (hn : 20 ≤ n) (hv : Vok v) (hc : CV k v μ) {i : Nat} (hi : i < vN v) : fX3_vowelsOf n k (nI i) μ = some (nI (vow (nm v i) (sz v i)), μ) := by
  obtain ⟨h1, h2, h3⟩ := hv
  obtain ⟨c1, c2, c3⟩ := hc
  obtain ⟨a1, a2, a3, a4⟩ := h3 i hi
  obtain ⟨e1, e2, e3⟩ := c3 i hi
  refine loop_inv (fun F j s => fX3_vowelsOf_L4 n k (nI i) F (nI s) (nI j) μ) (fun j s => s = vow (nm v i) j) (fun o => o = some (nI (vow (nm v i) (sz v i)), μ)) (sz v i) ?_ ?_ n 0 0 rfl (by omega) (by omega)
  · intro F s hs
    rw [fX3_vowelsOf_L4]
    simp (disch := omega) only [inb_nI, gd_true, nI_clamp, nI_leI, nI_ltI, nI_eq, if_pos, if_neg, reduceIte, bnd, bd_some, nI_add, pk_mul, pk_sub, lit_0, lit_1, lit_2, lit_3, lit_4, lit_5, lit_7, lit_8, lit_9, lit_10, lit_12, lit_14, lit_20, lit_31, lit_60, lit_96, lit_99, lit_255, e2, hs]
  · intro F j s hj hs ih
    have e4 := e3 j hj
    have key : ∀ c, c < 26 → (jshr 1065233 (nI c) &&& nI 1) = nI (isV c) := by decide +kernel
    rw [fX3_vowelsOf_L4]
    simp (disch := omega) only [inb_nI, gd_true, nI_clamp, nI_leI, nI_ltI, nI_eq, if_pos, if_neg, reduceIte, bnd, bd_some, nI_add, pk_mul, pk_sub, lit_0, lit_1, lit_2, lit_3, lit_4, lit_5, lit_7, lit_8, lit_9, lit_10, lit_12, lit_14, lit_20, lit_31, lit_60, lit_96, lit_99, lit_255, e2, e4, key _ (a4 j hj)]
    exact ih _ (by rw [hs]; rfl)
theorem p3_last (hv : Vok v) (hc : CV k v μ) {i : Nat} (hi : i < vN v) : fX3_lastLetterOf n k (nI i) μ = some (nI (nm v i (sz v i - 1)), μ) := by
  obtain ⟨h1, h2, h3⟩ := hv
  obtain ⟨c1, c2, c3⟩ := hc
  obtain ⟨a1, a2, a3, a4⟩ := h3 i hi
  obtain ⟨e1, e2, e3⟩ := c3 i hi
  have e4 := e3 (sz v i - 1) (by omega)
  unfold fX3_lastLetterOf
  simp (disch := omega) only [inb_nI, gd_true, nI_clamp, nI_leI, nI_ltI, nI_eq, if_pos, if_neg, reduceIte, bnd, bd_some, nI_add, pk_mul, pk_sub, lit_0, lit_1, lit_2, lit_3, lit_4, lit_5, lit_7, lit_8, lit_9, lit_10, lit_12, lit_14, lit_20, lit_31, lit_60, lit_96, lit_99, lit_255, e2, e4]
set_option maxHeartbeats 1000000 in
theorem p3_stops (hn : 20 ≤ n) (hv : Vok v) (hc : CV k v μ) {i : Nat} (hi : i < vN v) : fX3_stopsFrom n k (nI i) μ = some (nI (stp v i), μ) := by
  have q1 := p3_vowels hn hv hc hi
  have q2 := p3_last (n := n) hv hc hi
  obtain ⟨h1, h2, h3⟩ := hv
  obtain ⟨c1, c2, c3⟩ := hc
  obtain ⟨a1, a2, a3, a4⟩ := h3 i hi
  obtain ⟨e1, e2, e3⟩ := c3 i hi
  have e0 := (c3 0 (by omega)).2.1
  unfold fX3_stopsFrom stp
  simp (disch := omega) only [inb_nI, gd_true, nI_clamp, nI_leI, nI_ltI, nI_eq, if_pos, if_neg, reduceIte, bnd, bd_some, nI_add, pk_mul, pk_sub, lit_0, lit_1, lit_2, lit_3, lit_4, lit_5, lit_7, lit_8, lit_9, lit_10, lit_12, lit_14, lit_20, lit_31, lit_60, lit_96, lit_99, lit_255, e1, e2, q1, q2]
  by_cases k2 : kd v i = 2
  · simp (disch := omega) only [inb_nI, gd_true, nI_clamp, nI_leI, nI_ltI, nI_eq, if_pos, if_neg, reduceIte, bnd, bd_some, nI_add, pk_mul, pk_sub, lit_0, lit_1, lit_2, lit_3, lit_4, lit_5, lit_7, lit_8, lit_9, lit_10, lit_12, lit_14, lit_20, lit_31, lit_60, lit_96, lit_99, lit_255, k2]
  by_cases k3 : kd v i = 3
  · by_cases hl : i + 1 < vN v
    · have e5 := (c3 _ hl).2.1
      simp (disch := omega) only [inb_nI, gd_true, nI_clamp, nI_leI, nI_ltI, nI_eq, if_pos, if_neg, reduceIte, bnd, bd_some, nI_add, pk_mul, pk_sub, lit_0, lit_1, lit_2, lit_3, lit_4, lit_5, lit_7, lit_8, lit_9, lit_10, lit_12, lit_14, lit_20, lit_31, lit_60, lit_96, lit_99, lit_255, k3, c1, e5]
    · simp (disch := omega) only [inb_nI, gd_true, nI_clamp, nI_leI, nI_ltI, nI_eq, if_pos, if_neg, reduceIte, bnd, bd_some, nI_add, pk_mul, pk_sub, lit_0, lit_1, lit_2, lit_3, lit_4, lit_5, lit_7, lit_8, lit_9, lit_10, lit_12, lit_14, lit_20, lit_31, lit_60, lit_96, lit_99, lit_255, k3, c1, e0]
  by_cases k4 : kd v i = 4
  · simp (disch := omega) only [inb_nI, gd_true, nI_clamp, nI_leI, nI_ltI, nI_eq, if_pos, if_neg, reduceIte, bnd, bd_some, nI_add, pk_mul, pk_sub, lit_0, lit_1, lit_2, lit_3, lit_4, lit_5, lit_7, lit_8, lit_9, lit_10, lit_12, lit_14, lit_20, lit_31, lit_60, lit_96, lit_99, lit_255, k4]
  by_cases k5 : kd v i = 5
  · simp (disch := omega) only [inb_nI, gd_true, nI_clamp, nI_leI, nI_ltI, nI_eq, if_pos, if_neg, reduceIte, bnd, bd_some, nI_add, pk_mul, pk_sub, lit_0, lit_1, lit_2, lit_3, lit_4, lit_5, lit_7, lit_8, lit_9, lit_10, lit_12, lit_14, lit_20, lit_31, lit_60, lit_96, lit_99, lit_255, k5]
  simp (disch := omega) only [inb_nI, gd_true, nI_clamp, nI_leI, nI_ltI, nI_eq, if_pos, if_neg, reduceIte, bnd, bd_some, nI_add, pk_mul, pk_sub, lit_0, lit_1, lit_2, lit_3, lit_4, lit_5, lit_7, lit_8, lit_9, lit_10, lit_12, lit_14, lit_20, lit_31, lit_60, lit_96, lit_99, lit_255]
theorem p3_has_t (hv : Vok v) (hc : CV k v μ) {i : Nat} (hi : i < vN v) : fX3_has n k (nI i) μ = some (nI 1, μ) := by
  have h1 := hv.1
  unfold fX3_has
  simp (disch := omega) only [inb_nI, gd_true, nI_clamp, nI_leI, nI_ltI, nI_eq, if_pos, if_neg, reduceIte, bnd, bd_some, nI_add, pk_mul, pk_sub, lit_0, lit_1, lit_2, lit_3, lit_4, lit_5, lit_7, lit_8, lit_9, lit_10, lit_12, lit_14, lit_20, lit_31, lit_60, lit_96, lit_99, lit_255, hc.1]
theorem p3_has_f (hv : Vok v) (hc : CV k v μ) {x : Int32} (hx : ¬ ∃ i, i < vN v ∧ x = nI i) : fX3_has n k x μ = some (nI 0, μ) := by
  have h1 := hv.1
  unfold fX3_has
  rw [hc.1]
  by_cases g1 : x < 0
  · rw [if_pos g1]; rfl
  · rw [if_neg g1]
    by_cases g2 : nI (vN v) ≤ x
    · rw [if_pos g2]; rfl
    · refine absurd ?_ hx
      obtain ⟨j, hj, rfl⟩ := nI_of g1
      exact ⟨j, by rw [nI_leI (by omega) hj] at g2; omega, rfl⟩
def fmE (a b : Int32) : Int32 := if 0 ≤ (a ^^^ b) then jrem a b else if jrem a b = 0 then jrem a b else jrem a b + b
theorem pJ9_fm {a b : Int32} (hb : nz b = true) : fJ9_floorMod_7cf53 n a b μ = some (fmE a b, μ) := by
  unfold fJ9_floorMod_7cf53 fmE
  rw [hb, gd_true]
  simp only [bnd]
  repeat' split
  all_goals rfl
theorem fm_plus : ∀ N, N < 9 → 0 < N → ∀ i, i < 8 → ∀ s, s < 27 → fmE (nI i + nI s) (nI N) = nI (((i : Int) + s) % (N : Int)).toNat := by decide +kernel
theorem fm_minus : ∀ N, N < 9 → 0 < N → ∀ i, i < 8 → ∀ s, s < 27 → fmE (nI i - nI s) (nI N) = nI (((i : Int) - s) % (N : Int)).toNat := by decide +kernel
theorem p3_bit (hv : Vok v) (hc : CV k v μ) (h0 : 0 < vN v) {x : Int32} {z : Int} (hz : x.toInt = z) (hf : fmE x (nI (vN v)) = nI (z % (vN v : Int)).toNat) : fX3_bitOf n k x μ = some (nI (bitz v z), μ) := by
  have h1 := hv.1
  have h2 := hv.2.1
  have hm : (z % (vN v : Int)).toNat < 8 := by
    have := Int.emod_lt_of_pos z (show (0 : Int) < vN v by omega)
    have := Int.emod_nonneg z (show (vN v : Int) ≠ 0 by omega)
    omega
  unfold fX3_bitOf bitz
  by_cases hr : vr v = 1
  · simp (disch := omega) only [inb_nI, gd_true, nI_clamp, nI_leI, nI_ltI, nI_eq, if_pos, if_neg, reduceIte, bnd, bd_some, nI_add, pk_mul, pk_sub, lit_0, lit_1, lit_2, lit_3, lit_4, lit_5, lit_7, lit_8, lit_9, lit_10, lit_12, lit_14, lit_20, lit_31, lit_60, lit_96, lit_99, lit_255, hc.1, hc.2.1, hr, pJ9_fm (nz_nI h0 (by omega)), hf, jshl_n1]
  · by_cases hz2 : 0 ≤ z ∧ z < (vN v : Int)
    · have hx : x = nI z.toNat := by
        apply Int32.toInt_inj.mp
        rw [nI_toInt (by omega), hz]
        omega
      have h3 := p3_has_t (n := n) hv hc (i := z.toNat) (by omega)
      rw [hx]
      simp (disch := omega) only [inb_nI, gd_true, nI_clamp, nI_leI, nI_ltI, nI_eq, if_pos, if_neg, reduceIte, bnd, bd_some, nI_add, pk_mul, pk_sub, lit_0, lit_1, lit_2, lit_3, lit_4, lit_5, lit_7, lit_8, lit_9, lit_10, lit_12, lit_14, lit_20, lit_31, lit_60, lit_96, lit_99, lit_255, hc.1, hc.2.1, h3, jshl_n1, hz2, if_true, and_self]
    · have hx : ¬ ∃ i, i < vN v ∧ x = nI i := by
        rintro ⟨i, hi, rfl⟩
        rw [nI_toInt (by omega)] at hz
        omega
      have h3 := p3_has_f (n := n) hv hc hx
      simp (disch := omega) only [inb_nI, gd_true, nI_clamp, nI_leI, nI_ltI, nI_eq, if_pos, if_neg, reduceIte, bnd, bd_some, nI_add, pk_mul, pk_sub, lit_0, lit_1, lit_2, lit_3, lit_4, lit_5, lit_7, lit_8, lit_9, lit_10, lit_12, lit_14, lit_20, lit_31, lit_60, lit_96, lit_99, lit_255, hc.1, hc.2.1, h3, hz2]
theorem or_nI (a b : Nat) : nI a ||| nI b = nI (a ||| b) := fa_or a b
theorem p3_rides (hn : 20 ≤ n) (hv : Vok v) (hc : CV k v μ) {i : Nat} (hi : i < vN v) : fX3_ridesFrom n k (nI i) μ = some (nI (rb v i), μ) := by
  have q1 := p3_stops hn hv hc hi
  have q2 := stp_le hv hi
  have h1 := hv.1
  have q3 := p3_bit (n := n) hv hc (by omega) (x := nI i + nI (stp v i)) (z := (i : Int) + stp v i) (by rw [nI_add, nI_toInt (by omega)]; omega) (fm_plus _ (by omega) (by omega) _ (by omega) _ (by omega))
  have q4 := p3_bit (n := n) hv hc (by omega) (x := nI i - nI (stp v i)) (z := (i : Int) - stp v i) (by rw [pk_sub_toInt (by omega) (by omega)]) (fm_minus _ (by omega) (by omega) _ (by omega) _ (by omega))
  have e1 := (hc.2.2 i hi).1
  have a1 := (hv.2.2 i hi).1
  rw [nI_add] at q3
  have fin : ∀ m5 : Mem, m5 = μ → ¬ (kd v i = 4 ∧ stp v i % 2 = 1) → (bd (fX3_bitOf n k (nI i + nI (stp v i)) m5) fun r7 m6 => if nI (kd v i) = 1 then some (r7, m6) else if nI (kd v i) = 5 then some (r7, m6) else bd (fX3_bitOf n k (nI i - nI (stp v i)) m6) fun r9 m8 => bnd (r7 ||| r9) fun x10 => some (x10, m8)) = some (nI (rb v i), μ) := by
    intro m5 hm hk
    subst hm
    unfold rb
    rw [if_neg hk]
    rw [nI_add, q3, bd_some]
    by_cases k1 : kd v i = 1
    · simp (disch := omega) only [inb_nI, gd_true, nI_clamp, nI_leI, nI_ltI, nI_eq, if_pos, if_neg, reduceIte, bnd, bd_some, nI_add, pk_mul, pk_sub, lit_0, lit_1, lit_2, lit_3, lit_4, lit_5, lit_7, lit_8, lit_9, lit_10, lit_12, lit_14, lit_20, lit_31, lit_60, lit_96, lit_99, lit_255, k1, true_or]
    by_cases k5 : kd v i = 5
    · simp (disch := omega) only [inb_nI, gd_true, nI_clamp, nI_leI, nI_ltI, nI_eq, if_pos, if_neg, reduceIte, bnd, bd_some, nI_add, pk_mul, pk_sub, lit_0, lit_1, lit_2, lit_3, lit_4, lit_5, lit_7, lit_8, lit_9, lit_10, lit_12, lit_14, lit_20, lit_31, lit_60, lit_96, lit_99, lit_255, k5, or_true]
    rw [q4]
    simp (disch := omega) only [inb_nI, gd_true, nI_clamp, nI_leI, nI_ltI, nI_eq, if_pos, if_neg, reduceIte, bnd, bd_some, nI_add, pk_mul, pk_sub, lit_0, lit_1, lit_2, lit_3, lit_4, lit_5, lit_7, lit_8, lit_9, lit_10, lit_12, lit_14, lit_20, lit_31, lit_60, lit_96, lit_99, lit_255, k1, k5, or_self, or_nI]
  unfold fX3_ridesFrom
  simp (disch := omega) only [inb_nI, gd_true, nI_clamp, e1, q1, bd_some]
  show (if nI (kd v i) = 4 then if jrem (nI (stp v i)) 2 = 0 then _ else _ else _) = _
  by_cases k4 : kd v i = 4
  · rw [if_pos (by rw [k4]; rfl)]
    rw [lit_2, jrem_nI (by omega) (by decide) (by decide)]
    by_cases hs : stp v i % 2 = 0
    · rw [if_pos (by rw [hs]; rfl)]
      exact fin _ rfl (by omega)
    · rw [if_neg (by rw [lit_0, nI_eq (by omega) (by decide)]; exact hs)]
      unfold rb
      rw [if_pos ⟨k4, by omega⟩]
      rfl
  · rw [if_neg (by rw [lit_4, nI_eq (by omega) (by decide)]; exact k4)]
    exact fin _ rfl (by omega)
end PC1
