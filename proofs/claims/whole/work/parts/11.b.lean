/-! ===== the model: all to which one can come ===== -/
section PW
variable {n : Nat} {v : Vw} {μ : Mem}
theorem bitE (S i : Nat) : (nI (S / 2 ^ i % 2) = nI 1) ↔ S.testBit i = true := by
  rw [nI_eq (by omega) (by decide), tb_div, decide_eq_true_eq]
theorem bitE0 (S i : Nat) : (nI (S / 2 ^ i % 2) = nI 0) ↔ ¬ S.testBit i = true := by
  rw [nI_eq (by omega) (by decide), tb_div, decide_eq_true_eq]
  omega
theorem p5_goesOn (hn : 20 ≤ n) (hv : Vok v) (hc : MV v μ) {S : Nat} (hS : S < 256) : fX5_goesOn n (nI S) μ = some (nI (gor (rb v) S (vN v)), μ) := by
  have h8 := hv.1
  refine loop_inv (fun F i s => fX5_goesOn_L4 n (nI S) F (nI s) (nI i) μ) (fun i s => s = gor (rb v) S i) (fun o => o = some (nI (gor (rb v) S (vN v)), μ)) (vN v) ?_ ?_ n 0 0 rfl (by omega) (by omega)
  · intro F s hs
    rw [fX5_goesOn_L4]
    simp (disch := omega) only [inb_nI, gd_true, nI_clamp, nI_leI, nI_ltI, nI_eq, if_pos, if_neg, reduceIte, bnd, bd_some, nI_add, pk_mul, pk_sub, lit_0, lit_1, lit_2, lit_3, lit_4, lit_5, lit_7, lit_8, lit_9, lit_10, lit_12, lit_14, lit_20, lit_31, lit_60, lit_96, lit_99, lit_255, hc.1, hs]
  · intro F i s hi hs ih
    have q := p5_rides hn hv hc hi
    have ih2 := ih _ (show gor (rb v) S (i + 1) = _ from rfl)
    rw [fX5_goesOn_L4]
    simp (disch := omega) only [inb_nI, gd_true, bnd, bd_some, hc.1, nI_leI, if_neg, q, lit_1, jshr_n1, bitE, lit_0]
    rw [gor, ← hs] at ih2
    by_cases hb : S.testBit i = true
    · rw [if_pos hb] at ih2 ⊢
      rw [or_nI, nI_add]
      exact ih2
    · rw [if_neg hb] at ih2 ⊢
      rw [or_nI, nI_add]
      exact ih2
theorem p5_whither (hn : 20 ≤ n) (hv : Vok v) (hc : MV v μ) {s : Nat} (hs : s < vN v) : fX5_whitherOf n (nI s) μ = some (nI (cl (vN v) (rb v) s), μ) := by
  have h8 := hv.1
  unfold fX5_whitherOf
  rw [bnd, jshl1 s (by omega)]
  refine loop_inv (fun F i S => fX5_whitherOf_L6 n F (nI S) (nI i) μ) (fun i S => S = itr (vN v) (rb v) s i) (fun o => o = some (nI (cl (vN v) (rb v) s), μ)) (vN v) ?_ ?_ n 0 _ rfl (by omega) (by omega)
  · intro F S hS
    rw [fX5_whitherOf_L6]
    simp (disch := omega) only [inb_nI, gd_true, nI_clamp, nI_leI, nI_ltI, nI_eq, if_pos, if_neg, reduceIte, bnd, bd_some, nI_add, pk_mul, pk_sub, lit_0, lit_1, lit_2, lit_3, lit_4, lit_5, lit_7, lit_8, lit_9, lit_10, lit_12, lit_14, lit_20, lit_31, lit_60, lit_96, lit_99, lit_255, hc.1, hS]
  · intro F i S hi hS ih
    have h3 : S < 256 := by rw [hS]; exact pow8 h8 (itr_lt (rb_lt hv) hs i)
    have q := p5_goesOn hn hv hc h3
    rw [fX5_whitherOf_L6]
    simp (disch := omega) only [inb_nI, gd_true, nI_clamp, nI_leI, nI_ltI, nI_eq, if_pos, if_neg, reduceIte, bnd, bd_some, nI_add, pk_mul, pk_sub, lit_0, lit_1, lit_2, lit_3, lit_4, lit_5, lit_7, lit_8, lit_9, lit_10, lit_12, lit_14, lit_20, lit_31, lit_60, lit_96, lit_99, lit_255, hc.1, q, or_nI]
    exact ih _ (by rw [hS]; rfl)
/-- all from which one can come: the bits of those that come -/
def wnc (f : Nat → Nat) (s : Nat) : Nat → Nat
  | 0 => 0
  | i + 1 => wnc f s i ||| (if (f i).testBit s then 2 ^ i else 0)
theorem wnc_lt (f : Nat → Nat) (s : Nat) : ∀ i, wnc f s i < 2 ^ i
  | 0 => Nat.pow_pos (by decide)
  | i + 1 => by
    rw [wnc]
    refine Nat.or_lt_two_pow (Nat.lt_trans (wnc_lt f s i) (Nat.pow_lt_pow_right (by decide) (by omega))) ?_
    split
    · exact Nat.pow_lt_pow_right (by decide) (by omega)
    · exact Nat.pow_pos (by decide)
theorem jshl01 : ∀ i, i < 31 → jshl (nI 0) (nI i) = nI 0 := by decide +kernel
theorem jshl_bit {i b : Nat} (hi : i < 31) (hb : b < 2) : jshl (nI b) (nI i) = nI (if b = 1 then 2 ^ i else 0) := by
  rcases (show b = 0 ∨ b = 1 by omega) with rfl | rfl
  · exact jshl01 i hi
  · exact jshl_n1 hi
theorem p5_whence (hn : 20 ≤ n) (hv : Vok v) (hc : MV v μ) {s : Nat} (hs : s < vN v) : fX5_whenceOf n (nI s) μ = some (nI (wnc (cl (vN v) (rb v)) s (vN v)), μ) := by
  have h8 := hv.1
  refine loop_inv (fun F i S => fX5_whenceOf_L4 n (nI s) F (nI S) (nI i) μ) (fun i S => S = wnc (cl (vN v) (rb v)) s i) (fun o => o = some (nI (wnc (cl (vN v) (rb v)) s (vN v)), μ)) (vN v) ?_ ?_ n 0 0 rfl (by omega) (by omega)
  · intro F S hS
    rw [fX5_whenceOf_L4]
    simp (disch := omega) only [inb_nI, gd_true, nI_clamp, nI_leI, nI_ltI, nI_eq, if_pos, if_neg, reduceIte, bnd, bd_some, nI_add, pk_mul, pk_sub, lit_0, lit_1, lit_2, lit_3, lit_4, lit_5, lit_7, lit_8, lit_9, lit_10, lit_12, lit_14, lit_20, lit_31, lit_60, lit_96, lit_99, lit_255, hc.1, hS]
  · intro F i S hi hS ih
    have h3 : cl (vN v) (rb v) i < 256 := pow8 h8 (itr_lt (rb_lt hv) hi _)
    have q := p5_whither hn hv hc hi
    have h4 : cl (vN v) (rb v) i / 2 ^ s % 2 < 2 := Nat.mod_lt _ (by decide)
    have ih2 := ih _ (show wnc (cl (vN v) (rb v)) s (i + 1) = _ from rfl)
    rw [fX5_whenceOf_L4]
    simp (disch := omega) only [inb_nI, gd_true, nI_clamp, nI_leI, nI_ltI, nI_eq, if_pos, if_neg, reduceIte, bnd, bd_some, nI_add, pk_mul, pk_sub, lit_0, lit_1, lit_2, lit_3, lit_4, lit_5, lit_7, lit_8, lit_9, lit_10, lit_12, lit_14, lit_20, lit_31, lit_60, lit_96, lit_99, lit_255, hc.1, q, jshr_n1, jshl_bit, or_nI]
    rw [wnc, ← hS, tb_div] at ih2
    simp only [decide_eq_true_eq] at ih2
    exact ih2
end PW
section PC2
variable {n : Nat} {v : Vw} {μ : Mem}
theorem p0_comers (hn : 20 ≤ n) (hv : Vok v) (hc : NK v μ) {s : Nat} (hs : s < vN v) : fX0_comers n (nI s) μ = some (nI (wnc (cl (vN v) (rb v)) s (vN v)), μ) := by
  have h8 := hv.1
  refine loop_inv (fun F i S => fX0_comers_L4 n (nI s) F (nI S) (nI i) μ) (fun i S => S = wnc (cl (vN v) (rb v)) s i) (fun o => o = some (nI (wnc (cl (vN v) (rb v)) s (vN v)), μ)) (vN v) ?_ ?_ n 0 0 rfl (by omega) (by omega)
  · intro F S hS
    rw [fX0_comers_L4]
    simp (disch := omega) only [inb_nI, gd_true, nI_clamp, nI_leI, nI_ltI, nI_eq, if_pos, if_neg, reduceIte, bnd, bd_some, nI_add, pk_mul, pk_sub, lit_0, lit_1, lit_2, lit_3, lit_4, lit_5, lit_7, lit_8, lit_9, lit_10, lit_12, lit_14, lit_20, lit_31, lit_60, lit_96, lit_99, lit_255, hc.1, hS]
  · intro F i S hi hS ih
    have q := p0_comes (n := n) h8 hc.1 hi hs (itr_lt (rb_lt hv) hi _) (hc.2 i hi).2
    have ih2 := ih _ (show wnc (cl (vN v) (rb v)) s (i + 1) = _ from rfl)
    rw [wnc, ← hS] at ih2
    rw [fX0_comers_L4]
    simp (disch := omega) only [hc.1, nI_leI, if_neg, q, bd_some]
    by_cases hb : (cl (vN v) (rb v) i).testBit s = true
    · rw [if_pos hb] at ih2 ⊢
      simp (disch := omega) only [inb_nI, gd_true, nI_clamp, nI_leI, nI_ltI, nI_eq, if_pos, if_neg, reduceIte, bnd, bd_some, nI_add, pk_mul, pk_sub, lit_0, lit_1, lit_2, lit_3, lit_4, lit_5, lit_7, lit_8, lit_9, lit_10, lit_12, lit_14, lit_20, lit_31, lit_60, lit_96, lit_99, lit_255, jshl_n1, or_nI]
      exact ih2
    · rw [if_neg hb] at ih2 ⊢
      rw [Nat.or_zero] at ih2
      simp (disch := omega) only [inb_nI, gd_true, nI_clamp, nI_leI, nI_ltI, nI_eq, if_pos, if_neg, reduceIte, bnd, bd_some, nI_add, pk_mul, pk_sub, lit_0, lit_1, lit_2, lit_3, lit_4, lit_5, lit_7, lit_8, lit_9, lit_10, lit_12, lit_14, lit_20, lit_31, lit_60, lit_96, lit_99, lit_255]
      exact ih2
theorem p0_one (hn : 20 ≤ n) (hv : Vok v) (hc : NK v μ) {S : Nat} (hS : S < 256) : fX0_oneRideFrom n (nI S) μ = some (nI (gor (rb v) S (vN v)), μ) := by
  have h8 := hv.1
  refine loop_inv (fun F i s => fX0_oneRideFrom_L4 n (nI S) F (nI s) (nI i) μ) (fun i s => s = gor (rb v) S i) (fun o => o = some (nI (gor (rb v) S (vN v)), μ)) (vN v) ?_ ?_ n 0 0 rfl (by omega) (by omega)
  · intro F s hs
    rw [fX0_oneRideFrom_L4]
    simp (disch := omega) only [inb_nI, gd_true, nI_clamp, nI_leI, nI_ltI, nI_eq, if_pos, if_neg, reduceIte, bnd, bd_some, nI_add, pk_mul, pk_sub, lit_0, lit_1, lit_2, lit_3, lit_4, lit_5, lit_7, lit_8, lit_9, lit_10, lit_12, lit_14, lit_20, lit_31, lit_60, lit_96, lit_99, lit_255, hc.1, hs]
  · intro F i s hi hs ih
    have ih2 := ih _ (show gor (rb v) S (i + 1) = _ from rfl)
    rw [fX0_oneRideFrom_L4]
    simp (disch := omega) only [inb_nI, gd_true, bnd, bd_some, nI_clamp, hc.1, (hc.2 i hi).1, nI_leI, if_neg, lit_1, jshr_n1, lit_0, bitE0, or_nI, nI_add]
    rw [gor, ← hs] at ih2
    by_cases hb : S.testBit i = true
    · rw [if_pos hb] at ih2
      rw [if_neg (by simpa using hb)]
      exact ih2
    · rw [if_neg hb, Nat.or_zero] at ih2
      rw [if_pos hb]
      exact ih2
end PC2
