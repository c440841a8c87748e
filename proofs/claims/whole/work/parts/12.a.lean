/-! ===== few, blind, dead, parts, never: on both sides ===== -/
/-- the first place at which p holds; -9 -/
def fwn (p : Nat → Bool) : Nat → Nat → Int32
  | 0, _ => -9
  | d + 1, i => if p i then nI i else fwn p d (i + 1)
theorem fwn_none {p : Nat → Bool} : ∀ (d i : Nat), (∀ j, i ≤ j → j < i + d → p j = false) → fwn p d i = -9
  | 0, i, _ => rfl
  | d + 1, i, h => by
    rw [fwn, h i (by omega) (by omega)]
    exact fwn_none d (i + 1) (fun j h1 h2 => h j (by omega) (by omega))
theorem fwn_more {p : Nat → Bool} {e : Nat} : ∀ (a i : Nat), (a = 0 → p i = false) → (∀ j, i + a ≤ j + 1 → p j = p (i + a - 1)) → a ≠ 0 → fwn p (a + e) i = fwn p a i
  | 0, i, _, _, h => absurd rfl h
  | a + 1, i, _, h, _ => by
    rw [show a + 1 + e = (a + e) + 1 by omega, fwn, fwn]
    by_cases hp : p i = true
    · rw [if_pos hp, if_pos hp]
    · rw [if_neg hp, if_neg hp]
      by_cases ha : a = 0
      · subst ha
        rw [fwn_none _ _ (fun j h1 h2 => by rw [h j (by omega)]; simpa using hp)]
        rfl
      · exact fwn_more a (i + 1) (fun q => absurd q ha) (fun j hj => by rw [show i + 1 + a - 1 = i + (a + 1) - 1 by omega]; exact h j (by omega)) ha
theorem few_eq {N : Nat} {R : Nat → Nat} (hR : ∀ i, i < N → R i < 2 ^ N) (h8 : N ≤ 8) {a b : Nat} (ha : a < N) : fwn (fun k => (itr N R a k).testBit b) 8 0 = fwn (fun k => (itr N R a k).testBit b) N 0 := by
  rw [show 8 = N + (8 - N) by omega]
  refine fwn_more N 0 (fun h => by omega) (fun j hj => ?_) (by omega)
  have h1 := itr_fix hR ha (k := N - 1) (by omega) (j - (N - 1))
  rw [show N - 1 + (j - (N - 1)) = j by omega] at h1
  show (itr N R a j).testBit b = (itr N R a (0 + N - 1)).testBit b
  rw [h1, Nat.zero_add]
def blS (R : Nat → Nat) : Nat → Int32
  | 0 => 0
  | i + 1 => blS R i ||| (nI (R i) &&& (jshl 1 (nI i) ^^^ -1))
def deS (R : Nat → Nat) : Nat → Int32
  | 0 => 0
  | i + 1 => deS R i ||| (if (nI (R i) &&& (jshl 1 (nI i) ^^^ -1)) = 0 then jshl 1 (nI i) else 0)
def paS (C : Nat → Nat) (N : Nat) : Nat → Int32
  | 0 => 0
  | i + 1 => paS C N i + (if ((nI (C i) &&& nI (wnc C i N)) &&& (jshl 1 (nI i) - 1)) = 0 then 1 else 0)
def pop (b : Nat) : Nat := fb_ct b.testBit 8
def nvS (C : Nat → Nat) (N : Nat) : Nat → Int32
  | 0 => 0
  | i + 1 => nvS C N i + (nI N - nI (pop (C i)))
def rsS (R : Nat → Nat) : Nat → Int32
  | 0 => 0
  | i + 1 => rsS R i + nI (pop (R i))
theorem i_or0 (x : Int32) : x ||| 0 = x := by apply Int32.toBitVec_inj.mp; simp
theorem i_add0 (x : Int32) : x + 0 = x := by apply Int32.toBitVec_inj.mp; simp
def bcE (a0 : Int32) : Int32 :=
  let x1 := a0 - (jushr a0 1 &&& 1431655765)
  let x2 := (x1 &&& 858993459) + (jushr x1 2 &&& 858993459)
  let x3 := (x2 + jushr x2 4) &&& 252645135
  let x4 := x3 + jushr x3 8
  let x5 := x4 + jushr x4 16
  x5 &&& 63
theorem bc_tab : ∀ b, b < 256 → bcE (nI b) = nI (pop b) := by decide +kernel
theorem pJ6_bc {n : Nat} {μ : Mem} {b : Nat} (hb : b < 256) : fJ6_bitCount_0f7a4 n (nI b) μ = some (nI (pop b), μ) := by
  rw [← bc_tab b hb]
  rfl
def biE (x : Int32) : Nat → Int32
  | 0 => 0
  | i + 1 => biE x i + (jshr x (nI i) &&& 1)
theorem bi_tab : ∀ b, b < 256 → biE (nI b) 31 = nI (pop b) := by decide +kernel
theorem p5_bits {n : Nat} {μ : Mem} (hn : 40 ≤ n) {b : Nat} (hb : b < 256) : fX5_bits n (nI b) μ = some (nI (pop b), μ) := by
  refine loop_inv (fun F i s => fX5_bits_L4 n (nI b) F s (nI i) μ) (fun i s => s = biE (nI b) i) (fun o => o = some (nI (pop b), μ)) 31 ?_ ?_ n 0 _ rfl (by omega) (by omega)
  · intro F s hs
    rw [fX5_bits_L4]
    simp (disch := omega) only [inb_nI, gd_true, nI_clamp, nI_leI, nI_ltI, nI_eq, if_pos, if_neg, reduceIte, bnd, bd_some, nI_add, pk_mul, pk_sub, lit_0, lit_1, lit_2, lit_3, lit_4, lit_5, lit_7, lit_8, lit_9, lit_10, lit_12, lit_14, lit_20, lit_31, lit_60, lit_96, lit_99, lit_255, hs]
    rw [bi_tab b hb]
  · intro F i s hi hs ih
    rw [fX5_bits_L4]
    simp (disch := omega) only [inb_nI, gd_true, nI_clamp, nI_leI, nI_ltI, nI_eq, if_pos, if_neg, reduceIte, bnd, bd_some, nI_add, pk_mul, pk_sub, lit_0, lit_1, lit_2, lit_3, lit_4, lit_5, lit_7, lit_8, lit_9, lit_10, lit_12, lit_14, lit_20, lit_31, lit_60, lit_96, lit_99, lit_255]
    exact ih _ (by rw [hs]; rfl)
section P12
variable {n : Nat} {v : Vw} {μ : Mem}
theorem p0_few (hn : 40 ≤ n) (hv : Vok v) (hc : NK v μ) {a b : Nat} (ha : a < vN v) (hb : b < vN v) : fX0_fewest n (nI a) (nI b) μ = some (fwn (fun k => (itr (vN v) (rb v) a k).testBit b) 8 0, μ) := by
  have h8 := hv.1
  unfold fX0_fewest
  rw [bnd, jshl1 a (by omega)]
  refine loop_inv (fun F i s => fX0_fewest_L7 n (nI b) F (nI s) (nI i) μ) (fun i s => s = itr (vN v) (rb v) a i ∧ fwn (fun k => (itr (vN v) (rb v) a k).testBit b) (8 - i) i = fwn (fun k => (itr (vN v) (rb v) a k).testBit b) 8 0) (fun o => o = some (fwn (fun k => (itr (vN v) (rb v) a k).testBit b) 8 0, μ)) 8 ?_ ?_ n 0 _ ⟨rfl, rfl⟩ (by omega) (by omega)
  · intro F s ⟨h1, h2⟩
    rw [fX0_fewest_L7]
    simp (disch := omega) only [inb_nI, gd_true, nI_clamp, nI_leI, nI_ltI, nI_eq, if_pos, if_neg, reduceIte, bnd, bd_some, nI_add, pk_mul, pk_sub, lit_0, lit_1, lit_2, lit_3, lit_4, lit_5, lit_7, lit_8, lit_9, lit_10, lit_12, lit_14, lit_20, lit_31, lit_60, lit_96, lit_99, lit_255]
    rw [← h2]
    rfl
  · intro F i s hi ⟨h1, h2⟩ ih
    have h3 : s < 256 := by rw [h1]; exact pow8 h8 (itr_lt (rb_lt hv) ha i)
    have q := p0_one (by omega) hv hc h3 (n := n)
    rw [show 8 - i = (8 - (i + 1)) + 1 by omega, fwn, ← h1] at h2
    rw [fX0_fewest_L7]
    simp (disch := omega) only [lit_8, nI_leI, if_neg, lit_1, jshr_n1, lit_0, bitE0, q, bd_some, bnd, or_nI, nI_add]
    by_cases hp : s.testBit b = true
    · rw [if_pos hp] at h2
      rw [if_neg (by simpa using hp), h2]
    · rw [if_neg hp] at h2
      rw [if_pos hp]
      exact ih _ ⟨by rw [h1]; rfl, h2⟩
theorem p5_few (hn : 40 ≤ n) (hv : Vok v) (hc : MV v μ) {a b : Nat} (ha : a < vN v) (hb : b < vN v) : fX5_few_L29 n (nI b) n (nI (2 ^ a)) (nI 0) μ = some (fwn (fun k => (itr (vN v) (rb v) a k).testBit b) (vN v) 0, μ) := by
  have h8 := hv.1
  refine loop_inv (fun F i s => fX5_few_L29 n (nI b) F (nI s) (nI i) μ) (fun i s => s = itr (vN v) (rb v) a i ∧ fwn (fun k => (itr (vN v) (rb v) a k).testBit b) (vN v - i) i = fwn (fun k => (itr (vN v) (rb v) a k).testBit b) (vN v) 0) (fun o => o = some (fwn (fun k => (itr (vN v) (rb v) a k).testBit b) (vN v) 0, μ)) (vN v) ?_ ?_ n 0 _ ⟨rfl, rfl⟩ (by omega) (by omega)
  · intro F s ⟨h1, h2⟩
    rw [fX5_few_L29]
    simp (disch := omega) only [inb_nI, gd_true, nI_clamp, nI_leI, nI_ltI, nI_eq, if_pos, if_neg, reduceIte, bnd, bd_some, nI_add, pk_mul, pk_sub, lit_0, lit_1, lit_2, lit_3, lit_4, lit_5, lit_7, lit_8, lit_9, lit_10, lit_12, lit_14, lit_20, lit_31, lit_60, lit_96, lit_99, lit_255, hc.1]
    rw [← h2, Nat.sub_self]
    rfl
  · intro F i s hi ⟨h1, h2⟩ ih
    have h3 : s < 256 := by rw [h1]; exact pow8 h8 (itr_lt (rb_lt hv) ha i)
    have q := p5_goesOn (by omega) hv hc h3 (n := n)
    rw [show vN v - i = (vN v - (i + 1)) + 1 by omega, fwn, ← h1] at h2
    rw [fX5_few_L29]
    simp (disch := omega) only [hc.1, nI_leI, if_neg, lit_1, jshr_n1, bitE, q, bd_some, bnd, or_nI, nI_add]
    by_cases hp : s.testBit b = true
    · rw [if_pos hp] at h2
      rw [if_pos hp, h2]
    · rw [if_neg hp] at h2
      rw [if_neg hp]
      exact ih _ ⟨by rw [h1]; rfl, h2⟩
theorem p0_blind (hn : 40 ≤ n) (hv : Vok v) (hc : NK v μ) : fX0_unvisited n μ = some ((jshl 1 (nI (vN v)) - 1) &&& (blS (rb v) (vN v) ^^^ -1), μ) := by
  have h8 := hv.1
  refine loop_inv (fun F i s => fX0_unvisited_L4 n F s (nI i) μ) (fun i s => s = blS (rb v) i) (fun o => o = some ((jshl 1 (nI (vN v)) - 1) &&& (blS (rb v) (vN v) ^^^ -1), μ)) (vN v) ?_ ?_ n 0 _ rfl (by omega) (by omega)
  · intro F s hs
    rw [fX0_unvisited_L4]
    simp (disch := omega) only [hc.1, nI_leI, if_pos, hs]
  · intro F i s hi hs ih
    rw [fX0_unvisited_L4]
    simp (disch := omega) only [hc.1, nI_leI, if_neg, inb_nI, gd_true, nI_clamp, (hc.2 i hi).1, bnd, nI_1]
    exact ih _ (by rw [hs]; rfl)
theorem p5_blind (hn : 40 ≤ n) (hv : Vok v) (hc : MV v μ) : fX5_blind n μ = some ((jshl 1 (nI (vN v)) - 1) &&& (blS (rb v) (vN v) ^^^ -1), μ) := by
  have h8 := hv.1
  refine loop_inv (fun F i s => fX5_blind_L4 n F s (nI i) μ) (fun i s => s = blS (rb v) i) (fun o => o = some ((jshl 1 (nI (vN v)) - 1) &&& (blS (rb v) (vN v) ^^^ -1), μ)) (vN v) ?_ ?_ n 0 _ rfl (by omega) (by omega)
  · intro F s hs
    rw [fX5_blind_L4]
    simp (disch := omega) only [hc.1, nI_leI, if_pos, hs]
  · intro F i s hi hs ih
    have q := p5_rides (by omega) hv hc hi (n := n)
    rw [fX5_blind_L4]
    simp (disch := omega) only [hc.1, nI_leI, if_neg, q, bd_some, bnd, nI_1]
    exact ih _ (by rw [hs]; rfl)
theorem p0_dead (hn : 40 ≤ n) (hv : Vok v) (hc : NK v μ) : fX0_unleft n μ = some (deS (rb v) (vN v), μ) := by
  have h8 := hv.1
  refine loop_inv (fun F i s => fX0_unleft_L4 n F s (nI i) μ) (fun i s => s = deS (rb v) i) (fun o => o = some (deS (rb v) (vN v), μ)) (vN v) ?_ ?_ n 0 _ rfl (by omega) (by omega)
  · intro F s hs
    rw [fX0_unleft_L4]
    simp (disch := omega) only [hc.1, nI_leI, if_pos, hs]
  · intro F i s hi hs ih
    have ih2 := ih _ (show deS (rb v) (i + 1) = _ from rfl)
    rw [deS, ← hs] at ih2
    rw [fX0_unleft_L4]
    simp (disch := omega) only [hc.1, nI_leI, if_neg, inb_nI, gd_true, nI_clamp, (hc.2 i hi).1, bnd, nI_1]
    by_cases hq : (nI (rb v i) &&& (jshl 1 (nI i) ^^^ -1)) = 0
    · rw [if_pos hq] at ih2 ⊢
      exact ih2
    · rw [if_neg hq, i_or0] at ih2
      rw [if_neg hq]
      exact ih2
theorem p5_dead (hn : 40 ≤ n) (hv : Vok v) (hc : MV v μ) : fX5_dead n μ = some (deS (rb v) (vN v), μ) := by
  have h8 := hv.1
  refine loop_inv (fun F i s => fX5_dead_L4 n F s (nI i) μ) (fun i s => s = deS (rb v) i) (fun o => o = some (deS (rb v) (vN v), μ)) (vN v) ?_ ?_ n 0 _ rfl (by omega) (by omega)
  · intro F s hs
    rw [fX5_dead_L4]
    simp (disch := omega) only [hc.1, nI_leI, if_pos, hs]
  · intro F i s hi hs ih
    have q := p5_rides (by omega) hv hc hi (n := n)
    have ih2 := ih _ (show deS (rb v) (i + 1) = _ from rfl)
    rw [deS, ← hs] at ih2
    rw [fX5_dead_L4]
    simp (disch := omega) only [hc.1, nI_leI, if_neg, q, bd_some, bnd, nI_1]
    by_cases hq : (nI (rb v i) &&& (jshl 1 (nI i) ^^^ -1)) = 0
    · rw [if_pos hq] at ih2 ⊢
      exact ih2
    · rw [if_neg hq] at ih2 ⊢
      exact ih2
theorem p0_part (hn : 40 ≤ n) (hv : Vok v) (hc : NK v μ) {i : Nat} (hi : i < vN v) : fX0_partOf n (nI i) μ = some (nI (cl (vN v) (rb v) i) &&& nI (wnc (cl (vN v) (rb v)) i (vN v)), μ) := by
  have h8 := hv.1
  unfold fX0_partOf
  simp (disch := omega) only [inb_nI, gd_true, nI_clamp, nI_leI, nI_ltI, nI_eq, if_pos, if_neg, reduceIte, bnd, bd_some, nI_add, pk_mul, pk_sub, lit_0, lit_1, lit_2, lit_3, lit_4, lit_5, lit_7, lit_8, lit_9, lit_10, lit_12, lit_14, lit_20, lit_31, lit_60, lit_96, lit_99, lit_255, p0_comers (show 20 ≤ n by omega) hv hc hi, (hc.2 i hi).2]
theorem p0_parts (hn : 40 ≤ n) (hv : Vok v) (hc : NK v μ) : fX0_partsInAll n μ = some (paS (cl (vN v) (rb v)) (vN v) (vN v), μ) := by
  have h8 := hv.1
  refine loop_inv (fun F i s => fX0_partsInAll_L4 n F s (nI i) μ) (fun i s => s = paS (cl (vN v) (rb v)) (vN v) i) (fun o => o = some (paS (cl (vN v) (rb v)) (vN v) (vN v), μ)) (vN v) ?_ ?_ n 0 _ rfl (by omega) (by omega)
  · intro F s hs
    rw [fX0_partsInAll_L4]
    simp (disch := omega) only [hc.1, nI_leI, if_pos, hs]
  · intro F i s hi hs ih
    have ih2 := ih _ (show paS (cl (vN v) (rb v)) (vN v) (i + 1) = _ from rfl)
    rw [paS, ← hs] at ih2
    rw [fX0_partsInAll_L4]
    simp (disch := omega) only [hc.1, nI_leI, if_neg, p0_part hn hv hc hi, bd_some, bnd, nI_1]
    by_cases hq : (nI (cl (vN v) (rb v) i) &&& nI (wnc (cl (vN v) (rb v)) i (vN v)) &&& (jshl 1 (nI i) - 1)) = 0
    · rw [if_pos hq] at ih2 ⊢
      exact ih2
    · rw [if_neg hq, i_add0] at ih2
      rw [if_neg hq]
      exact ih2
theorem p5_parts (hn : 40 ≤ n) (hv : Vok v) (hc : MV v μ) : fX5_parts_L39 n n 0 0 μ = some (paS (cl (vN v) (rb v)) (vN v) (vN v), μ) := by
  have h8 := hv.1
  refine loop_inv (fun F i s => fX5_parts_L39 n F s (nI i) μ) (fun i s => s = paS (cl (vN v) (rb v)) (vN v) i) (fun o => o = some (paS (cl (vN v) (rb v)) (vN v) (vN v), μ)) (vN v) ?_ ?_ n 0 _ rfl (by omega) (by omega)
  · intro F s hs
    rw [fX5_parts_L39]
    simp (disch := omega) only [hc.1, nI_leI, if_pos, hs]
  · intro F i s hi hs ih
    have ih2 := ih _ (show paS (cl (vN v) (rb v)) (vN v) (i + 1) = _ from rfl)
    rw [paS, ← hs] at ih2
    rw [fX5_parts_L39]
    simp (disch := omega) only [hc.1, nI_leI, if_neg, p5_whither (show 20 ≤ n by omega) hv hc hi, p5_whence (show 20 ≤ n by omega) hv hc hi, bd_some, bnd, nI_1]
    by_cases hq : (nI (cl (vN v) (rb v) i) &&& nI (wnc (cl (vN v) (rb v)) i (vN v)) &&& (jshl 1 (nI i) - 1)) = 0
    · rw [if_pos hq] at ih2 ⊢
      exact ih2
    · rw [if_neg hq] at ih2 ⊢
      exact ih2
/-- pairs that never come from the first to the other -/
abbrev nv (v : Vw) : Int32 := nvS (cl (vN v) (rb v)) (vN v) (vN v)
theorem p0_never (hn : 40 ≤ n) (hv : Vok v) (hc : NK v μ) : fX0_pairsApart n μ = some (nv v, μ) := by
  have h8 := hv.1
  refine loop_inv (fun F i s => fX0_pairsApart_L4 n F s (nI i) μ) (fun i s => s = nvS (cl (vN v) (rb v)) (vN v) i) (fun o => o = some (nv v, μ)) (vN v) ?_ ?_ n 0 _ rfl (by omega) (by omega)
  · intro F s hs
    rw [fX0_pairsApart_L4]
    simp (disch := omega) only [hc.1, nI_leI, if_pos, hs]
  · intro F i s hi hs ih
    have h3 : cl (vN v) (rb v) i < 256 := pow8 h8 (itr_lt (rb_lt hv) hi _)
    rw [fX0_pairsApart_L4]
    simp (disch := omega) only [hc.1, nI_leI, if_neg, inb_nI, gd_true, nI_clamp, (hc.2 i hi).2, pJ6_bc h3, bd_some, bnd, nI_1]
    exact ih _ (by rw [hs]; rfl)
theorem p5_never (hn : 40 ≤ n) (hv : Vok v) (hc : MV v μ) : fX5_neverNow n μ = some (nv v, μ) := by
  have h8 := hv.1
  refine loop_inv (fun F i s => fX5_neverNow_L4 n F s (nI i) μ) (fun i s => s = nvS (cl (vN v) (rb v)) (vN v) i) (fun o => o = some (nv v, μ)) (vN v) ?_ ?_ n 0 _ rfl (by omega) (by omega)
  · intro F s hs
    rw [fX5_neverNow_L4]
    simp (disch := omega) only [hc.1, nI_leI, if_pos, hs]
  · intro F i s hi hs ih
    have h3 : cl (vN v) (rb v) i < 256 := pow8 h8 (itr_lt (rb_lt hv) hi _)
    rw [fX5_neverNow_L4]
    simp (disch := omega) only [hc.1, nI_leI, if_neg, p5_whither (show 20 ≤ n by omega) hv hc hi, p5_bits hn h3, bd_some, bnd, nI_1]
    exact ih _ (by rw [hs]; rfl)
theorem p0_sumR (hn : 40 ≤ n) (hv : Vok v) (hc : NK v μ) : fX0_sumOfRides n μ = some (rsS (rb v) (vN v), μ) := by
  have h8 := hv.1
  refine loop_inv (fun F i s => fX0_sumOfRides_L4 n F s (nI i) μ) (fun i s => s = rsS (rb v) i) (fun o => o = some (rsS (rb v) (vN v), μ)) (vN v) ?_ ?_ n 0 _ rfl (by omega) (by omega)
  · intro F s hs
    rw [fX0_sumOfRides_L4]
    simp (disch := omega) only [hc.1, nI_leI, if_pos, hs]
  · intro F i s hi hs ih
    have h3 : rb v i < 256 := pow8 h8 (rb_lt hv i hi)
    rw [fX0_sumOfRides_L4]
    simp (disch := omega) only [hc.1, nI_leI, if_neg, inb_nI, gd_true, nI_clamp, (hc.2 i hi).1, pJ6_bc h3, bd_some, bnd, nI_1]
    exact ih _ (by rw [hs]; rfl)
theorem p5_sumR (hn : 40 ≤ n) (hv : Vok v) (hc : MV v μ) : fX5_count_L103 n n 0 0 μ = some (rsS (rb v) (vN v), μ) := by
  have h8 := hv.1
  refine loop_inv (fun F i s => fX5_count_L103 n F s (nI i) μ) (fun i s => s = rsS (rb v) i) (fun o => o = some (rsS (rb v) (vN v), μ)) (vN v) ?_ ?_ n 0 _ rfl (by omega) (by omega)
  · intro F s hs
    rw [fX5_count_L103]
    simp (disch := omega) only [hc.1, nI_leI, if_pos, hs]
  · intro F i s hi hs ih
    have h3 : rb v i < 256 := pow8 h8 (rb_lt hv i hi)
    rw [fX5_count_L103]
    simp (disch := omega) only [hc.1, nI_leI, if_neg, p5_rides (show 20 ≤ n by omega) hv hc hi, p5_bits hn h3, bd_some, bnd, nI_1]
    exact ih _ (by rw [hs]; rfl)
end P12
