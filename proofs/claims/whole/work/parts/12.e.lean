/-! ===== judge, seeds, all letters ===== -/
def bad (N : Nat) (R sg : Nat → Nat) (p : Nat) : Bool := decide (¬ sg p < N ∨ (0 < p ∧ ¬ (R (sg (p - 1))).testBit (sg p) = true))
section PJ
variable {n : Nat} {v : Vw} {μ : Mem} {Rn : Nat} {sg : Nat → Nat}
theorem p0_judge (hn : 40 ≤ n) (hv : Vok v) (hc : NK v μ) (hk : Sok Rn sg) (hs : SC Rn sg μ) : fX0_firstNoRide n μ = some (fwn (bad (vN v) (rb v) sg) Rn 0, μ) := by
  have h8 := hv.1
  have h12 := hk.1
  refine loop_inv (fun F i (_ : Unit) => fX0_firstNoRide_L2 n F (nI i) μ) (fun i _ => (∀ q, q < i → sg q < vN v) ∧ fwn (bad (vN v) (rb v) sg) (Rn - i) i = fwn (bad (vN v) (rb v) sg) Rn 0) (fun o => o = some (fwn (bad (vN v) (rb v) sg) Rn 0, μ)) Rn ?_ ?_ n 0 () ⟨fun q h => by omega, rfl⟩ (by omega) (by omega)
  · intro F _ ⟨h1, h2⟩
    rw [fX0_firstNoRide_L2, hs.1, if_pos (nI_le (Nat.le_refl _) (by omega)), ← h2, Nat.sub_self]
    rfl
  · intro F i _ hi ⟨h1, h2⟩ ih
    have h9 := hk.2 i hi
    rw [show Rn - i = (Rn - (i + 1)) + 1 by omega, fwn] at h2
    rw [fX0_firstNoRide_L2, hs.1, if_neg (by rw [nI_leI (by omega) (by omega)]; omega), p1_at hk hs hi, bd_some, hc.1]
    by_cases hlt : sg i < vN v
    · rw [if_pos (nI_lt hlt (by omega))]
      by_cases h0 : i = 0
      · subst h0
        rw [if_pos (by decide), bnd, nI_1]
        rw [if_neg (by unfold bad; simp [hlt])] at h2
        exact ih () ⟨fun q hq => by rw [show q = 0 by omega]; exact hlt, h2⟩
      · have hp := h1 (i - 1) (by omega)
        rw [if_neg (by rw [lit_0, nI_leI (by omega) (by decide)]; omega), lit_1, pk_sub (by omega), p1_at hk hs (show i - 1 < Rn by omega), bd_some, p0_leads h8 hc.1 hp hlt (rb_lt hv _ hp) (hc.2 _ hp).1, bd_some]
        by_cases hb : (rb v (sg (i - 1))).testBit (sg i) = true
        · rw [if_pos hb, if_neg (by decide), bnd, nI_add]
          rw [if_neg (by unfold bad; simp [hlt, hb])] at h2
          exact ih () ⟨fun q hq => by
            by_cases e : q = i
            · rw [e]; exact hlt
            · exact h1 q (by omega), h2⟩
        · rw [if_neg hb, if_pos (show nI 0 = 0 from rfl)]
          rw [if_pos (by unfold bad; simp [hb]; omega)] at h2
          rw [h2]
    · rw [if_neg (nI_nlt (by omega) (by omega))]
      rw [if_pos (by unfold bad; simp; omega)] at h2
      rw [h2]
theorem p5_judge (hn : 40 ≤ n) (hv : Vok v) (hc : MV v μ) (hk : Sok Rn sg) (hs : ∀ i, i < Rn → μ.1 61 i = nI (sg i)) : fX5_judge_L12 n (nI Rn) n (nI 0) μ = some (fwn (bad (vN v) (rb v) sg) Rn 0, μ) := by
  have h8 := hv.1
  have h12 := hk.1
  refine loop_inv (fun F i (_ : Unit) => fX5_judge_L12 n (nI Rn) F (nI i) μ) (fun i _ => (∀ q, q < i → sg q < vN v) ∧ fwn (bad (vN v) (rb v) sg) (Rn - i) i = fwn (bad (vN v) (rb v) sg) Rn 0) (fun o => o = some (fwn (bad (vN v) (rb v) sg) Rn 0, μ)) Rn ?_ ?_ n 0 () ⟨fun q h => by omega, rfl⟩ (by omega) (by omega)
  · intro F _ ⟨h1, h2⟩
    rw [fX5_judge_L12, if_pos (nI_le (Nat.le_refl _) (by omega)), ← h2, Nat.sub_self]
    rfl
  · intro F i _ hi ⟨h1, h2⟩ ih
    have h9 := hk.2 i hi
    rw [show Rn - i = (Rn - (i + 1)) + 1 by omega, fwn] at h2
    rw [fX5_judge_L12, if_neg (by rw [nI_leI (by omega) (by omega)]; omega), inb_nI (by omega) (by decide), gd_true, nI_clamp (by omega), hs i hi]
    by_cases hlt : sg i < vN v
    · rw [p5_is_t hv hc hlt, bd_some, if_neg (by decide)]
      by_cases h0 : i = 0
      · subst h0
        rw [if_pos (by decide), bnd, nI_1]
        rw [if_neg (by unfold bad; simp [hlt])] at h2
        exact ih () ⟨fun q hq => by rw [show q = 0 by omega]; exact hlt, h2⟩
      · have hp := h1 (i - 1) (by omega)
        have hr : rb v (sg (i - 1)) < 256 := pow8 h8 (rb_lt hv _ hp)
        rw [if_neg (by rw [lit_0, nI_leI (by omega) (by decide)]; omega), lit_1, pk_sub (by omega), inb_nI (by omega) (by decide), gd_true, nI_clamp (by omega), hs (i - 1) (by omega), p5_rides (by omega) hv hc hp, bd_some, gd_true, hs i hi, jshr_n1 hr (by omega)]
        by_cases hb : (rb v (sg (i - 1))).testBit (sg i) = true
        · rw [if_neg (by rw [lit_0, bitE0]; simpa using hb), bnd, nI_add]
          rw [if_neg (by unfold bad; simp [hlt, hb])] at h2
          exact ih () ⟨fun q hq => by
            by_cases e : q = i
            · rw [e]; exact hlt
            · exact h1 q (by omega), h2⟩
        · rw [if_pos (by rw [lit_0, bitE0]; exact hb)]
          rw [if_pos (by unfold bad; simp [hb]; omega)] at h2
          rw [h2]
    · rw [p5_is_f hv hc (by
        rintro ⟨j, hj, e⟩
        rw [nI_eq (by omega) (by omega)] at e
        omega), bd_some, if_pos (show nI 0 = 0 from rfl)]
      rw [if_pos (by unfold bad; simp; omega)] at h2
      rw [h2]
def kthN (S m : Nat) : Nat → Nat → Nat
  | 0, i => i
  | d + 1, i => if S.testBit i = true ∧ fb_ct S.testBit i = m then i else kthN S m d (i + 1)
def kth (S m : Nat) : Nat := kthN S m 8 0
theorem kthN_at {S m i0 : Nat} (h1 : S.testBit i0 = true) (h2 : fb_ct S.testBit i0 = m) : ∀ d i, i ≤ i0 → i0 < i + d → kthN S m d i = i0
  | 0, i, _, _ => by omega
  | d + 1, i, h3, h4 => by
    rw [kthN]
    by_cases h : S.testBit i = true ∧ fb_ct S.testBit i = m
    · rw [if_pos h]
      exact fb_ct_kth_one h.1 h1 (h.2.trans h2.symm)
    · rw [if_neg h]
      refine kthN_at h1 h2 d (i + 1) ?_ (by omega)
      rcases Nat.lt_or_ge i i0 with q | q
      · exact q
      · exact absurd (show i = i0 by omega) (fun e => h (by rw [e]; exact ⟨h1, h2⟩))
theorem kth_ex {N S m : Nat} (h8 : N ≤ 8) (hS : S < 2 ^ N) (hm : m < pop S) : kth S m < N ∧ S.testBit (kth S m) = true ∧ fb_ct S.testBit (kth S m) = m := by
  obtain ⟨i, h1, h2, h3⟩ := fb_ct_kth hm
  have h4 := tb_lt hS h2
  have h5 : kth S m = i := kthN_at h2 h3 8 0 (by omega) (by omega)
  rw [h5]
  exact ⟨h4, h2, h3⟩
theorem p0_rideOf (hn : 40 ≤ n) (hv : Vok v) (hc : NK v μ) {a m : Nat} (ha : a < vN v) (hm : m < pop (rb v a)) : fX0_rideOf n (nI a) (nI m) μ = some (nI (kth (rb v a) m), μ) := by
  have h8 := hv.1
  obtain ⟨k1, k2, k3⟩ := kth_ex h8 (rb_lt hv a ha) hm
  have hp8 : pop (rb v a) ≤ 8 := fb_ct_le _ _
  generalize hk : kth (rb v a) m = k at *
  refine loop_inv (fun F i s => fX0_rideOf_L5 n (nI a) (nI m) F (nI s) (nI i) μ) (fun i s => s = fb_ct (rb v a).testBit i ∧ i ≤ k) (fun o => o = some (nI k, μ)) (vN v) ?_ ?_ n 0 0 ⟨rfl, by omega⟩ (by omega) (by omega)
  · intro F s ⟨h1, h2⟩; omega
  · intro F i s hi ⟨h1, h2⟩ ih
    have hct : fb_ct (rb v a).testBit i ≤ i := fb_ct_le _ _
    rw [fX0_rideOf_L5, hc.1, if_neg (by rw [nI_leI (by omega) (by omega)]; omega), p0_leads h8 hc.1 ha hi (rb_lt hv a ha) (hc.2 a ha).1, bd_some]
    have hmono := fb_ct_mono (rb v a).testBit (show i + 1 ≤ k + 1 by omega)
    by_cases hb : (rb v a).testBit i = true
    · rw [if_pos hb, if_neg (by decide)]
      by_cases e : i = k
      · rw [if_pos (by rw [h1, e, k3]), e]
      · have h5 : s ≠ m := by
          intro q
          exact e (fb_ct_kth_one hb k2 (by rw [← h1, q, k3]))
        rw [if_neg (by rw [nI_eq (by omega) (by omega)]; exact h5), bnd, bnd, nI_1, nI_1]
        exact ih _ ⟨by rw [fb_ct_succ, if_pos hb, h1], by omega⟩
    · rw [if_neg hb, if_pos (show nI 0 = 0 from rfl), bnd, nI_1]
      refine ih _ ⟨by rw [fb_ct_succ, if_neg hb, h1]; rfl, ?_⟩
      rcases Nat.lt_or_ge i k with q | q
      · exact q
      · exact absurd k2 (by rw [show k = i by omega]; exact hb)
theorem dm_1 (d : Nat) : dm d + 1 = nI d := by
  cases d with
  | zero => rfl
  | succ d => exact nI_1 d
theorem p5_rideOf (hn : 40 ≤ n) {N S m : Nat} (h8 : N ≤ 8) (hS : S < 2 ^ N) (hm : m < pop S) {x2 x5 x7 : Int32} {K : Int32 → Mem → Option (Int32 × Mem)} : fX5_seeds_L94 n x2 x5 x7 (nI S) K n (-1) (nI m) μ = K (nI (kth S m)) μ := by
  obtain ⟨k1, k2, k3⟩ := kth_ex h8 hS hm
  have hp8 : pop S ≤ 8 := fb_ct_le _ _
  have hS8 := pow8 h8 hS
  generalize hk : kth S m = k at *
  have key : ∀ d i F, i + d = k → d + 1 < F → fX5_seeds_L94 n x2 x5 x7 (nI S) K F (dm i) (nI (m - fb_ct S.testBit i)) μ = K (nI k) μ := by
    intro d
    induction d with
    | zero =>
      intro i F hi hF
      obtain ⟨F, rfl⟩ : ∃ G, F = G + 2 := ⟨F - 2, by omega⟩
      obtain rfl : i = k := by omega
      rw [fX5_seeds_L94, if_neg (nI_pos (by omega)), bnd, bnd, dm_1, lit_1, jshr_n1 hS8 (by omega), bit01, if_pos k2, k3, Nat.sub_self, fX5_seeds_L94, if_pos (by decide)]
    | succ d ih =>
      intro i F hi hF
      obtain ⟨F, rfl⟩ : ∃ G, F = G + 1 := ⟨F - 1, by omega⟩
      have hmono := fb_ct_mono S.testBit (show i + 1 ≤ k by omega)
      rw [fX5_seeds_L94, if_neg (nI_pos (by omega)), bnd, bnd, dm_1, lit_1, jshr_n1 hS8 (by omega), bit01]
      rw [fb_ct_succ] at hmono
      have ih2 := ih (i + 1) F (by omega) (by omega)
      rw [fb_ct_succ] at ih2
      by_cases hb : S.testBit i = true
      · rw [if_pos hb] at hmono ih2 ⊢
        rw [pk_sub (by omega), show m - fb_ct S.testBit i - 1 = m - (fb_ct S.testBit i + 1) by omega]
        exact ih2
      · rw [if_neg hb] at hmono ih2 ⊢
        rw [pk_sub (by omega), Nat.sub_zero]
        exact ih2
  exact key k 0 n (by omega) (by omega)
def sdz (z : Int32) : Int32 := z * 1664525 + 1013904223
def sdm (z : Int32) (p : Nat) : Nat := (jrem ((z &&& 2147483647) / 256) (nI p)).toNatClampNeg
theorem sdm_eq (z : Int32) {p : Nat} (h0 : 0 < p) (h8 : p ≤ 8) : jrem ((z &&& 2147483647) / 256) (nI p) = nI (sdm z p) ∧ sdm z p < p := by
  have h1 : z &&& 2147483647 = nI (z.toBitVec.toNat % 2 ^ 31) := pk_and z 31 (by decide)
  have h2 : z.toBitVec.toNat % 2 ^ 31 < 2 ^ 31 := Nat.mod_lt _ (by decide)
  generalize z.toBitVec.toNat % 2 ^ 31 = w at *
  have h3 : (z &&& 2147483647) / 256 = nI (w / 256) := by rw [h1]; exact pk_div h2 (by decide) (by decide)
  have h4 : w / 256 < 2 ^ 31 := by omega
  have h5 : (w / 256) % p < p := Nat.mod_lt _ h0
  have h6 : sdm z p = (w / 256) % p := by
    unfold sdm
    rw [h3, jrem_nI h4 h0 (by omega), nI_clamp (by omega)]
  rw [h6, h3, jrem_nI h4 h0 (by omega)]
  exact ⟨rfl, h5⟩
def sdS (R : Nat → Nat) : Nat → Nat → Int32 → Nat
  | 0, a, _ => a
  | k + 1, a, z => if pop (R a) = 0 then a else sdS R k (kth (R a) (sdm (sdz z) (pop (R a)))) (sdz z)
theorem p0_drawn (hn : 100 ≤ n) (hv : Vok v) (hc : NK v μ) {a t : Nat} (ha : a < vN v) (ht : t ≤ 60) (z : Int32) : fX0_drawn n (nI a) (nI t) z μ = some (nI (sdS (rb v) t a z), μ) := by
  have h8 := hv.1
  refine loop_inv (fun F i (s : Nat × Int32) => fX0_drawn_L9 n (nI t) F (nI s.1) s.2 (nI i) μ) (fun i s => s.1 < vN v ∧ sdS (rb v) (t - i) s.1 s.2 = sdS (rb v) t a z) (fun o => o = some (nI (sdS (rb v) t a z), μ)) t ?_ ?_ n 0 (a, z) ⟨ha, rfl⟩ (by omega) (by omega)
  · intro F s ⟨h1, h2⟩
    rw [fX0_drawn_L9, if_pos (nI_le (Nat.le_refl _) (by omega)), ← h2, Nat.sub_self]
    rfl
  · intro F i s hi ⟨h1, h2⟩ ih
    have hr : rb v s.1 < 256 := pow8 h8 (rb_lt hv _ h1)
    have hp8 : pop (rb v s.1) ≤ 8 := fb_ct_le _ _
    rw [show t - i = (t - (i + 1)) + 1 by omega, sdS] at h2
    rw [fX0_drawn_L9, if_neg (by rw [nI_leI (by omega) (by omega)]; omega), inb_nI (by omega) (by decide), gd_true, nI_clamp (by omega), (hc.2 _ h1).1, pJ6_bc hr, bd_some]
    by_cases h0 : pop (rb v s.1) = 0
    · rw [if_pos h0] at h2
      rw [h0, if_neg (by decide), h2]
    · rw [if_neg h0] at h2
      obtain ⟨g1, g2⟩ := sdm_eq (sdz s.2) (show 0 < pop (rb v s.1) by omega) hp8
      obtain ⟨k1, -, -⟩ := kth_ex h8 (rb_lt hv _ h1) g2
      rw [if_pos (by rw [lit_1, nI_leI (by decide) (by omega)]; omega), bnd, nz_nI (by omega) (by omega), gd_true]
      show bd (fX0_rideOf n (nI s.1) (jrem ((sdz s.2 &&& 2147483647) / 256) (nI (pop (rb v s.1)))) μ) _ = _
      rw [g1, p0_rideOf (by omega) hv hc h1 g2, bd_some, bnd, nI_1]
      exact ih (_, _) ⟨k1, h2⟩
theorem p5_seeds (hn : 100 ≤ n) (hv : Vok v) (hc : MV v μ) {a t : Nat} (ha : a < vN v) (ht : t ≤ 60) (z : Int32) : fX5_seeds_L42 n (nI t) n z (nI a) (nI 0) μ = some (nI (sdS (rb v) t a z), μ) := by
  have h8 := hv.1
  refine loop_inv (fun F i (s : Nat × Int32) => fX5_seeds_L42 n (nI t) F s.2 (nI s.1) (nI i) μ) (fun i s => s.1 < vN v ∧ sdS (rb v) (t - i) s.1 s.2 = sdS (rb v) t a z) (fun o => o = some (nI (sdS (rb v) t a z), μ)) t ?_ ?_ n 0 (a, z) ⟨ha, rfl⟩ (by omega) (by omega)
  · intro F s ⟨h1, h2⟩
    rw [fX5_seeds_L42, if_pos (nI_le (Nat.le_refl _) (by omega)), ← h2, Nat.sub_self]
    rfl
  · intro F i s hi ⟨h1, h2⟩ ih
    have hr : rb v s.1 < 256 := pow8 h8 (rb_lt hv _ h1)
    have hp8 : pop (rb v s.1) ≤ 8 := fb_ct_le _ _
    have hp0 := pop0_tab (rb v s.1) hr
    rw [show t - i = (t - (i + 1)) + 1 by omega, sdS] at h2
    rw [fX5_seeds_L42, if_neg (by rw [nI_leI (by omega) (by omega)]; omega), p5_rides (by omega) hv hc h1, bd_some]
    by_cases h0 : pop (rb v s.1) = 0
    · rw [if_pos h0] at h2
      rw [if_pos (by rw [hp0.mp h0]; rfl), h2]
    · rw [if_neg h0] at h2
      obtain ⟨g1, g2⟩ := sdm_eq (sdz s.2) (show 0 < pop (rb v s.1) by omega) hp8
      obtain ⟨k1, -, -⟩ := kth_ex h8 (rb_lt hv _ h1) g2
      rw [if_neg (by rw [lit_0, nI_eq (by omega) (by decide)]; exact fun q => h0 (hp0.mpr q)), bnd, p5_bits (by omega) hr, bd_some, nz_nI (by omega) (by omega), gd_true, bnd]
      show fX5_seeds_L94 n (nI t) (sdz s.2) (nI i) (nI (rb v s.1)) _ n (-1) (jrem ((sdz s.2 &&& 2147483647) / 256) (nI (pop (rb v s.1)))) μ = _
      rw [g1, p5_rideOf (by omega) h8 (rb_lt hv _ h1) g2, bnd, nI_1]
      exact ih (_, _) ⟨k1, h2⟩
theorem p3_sum (hn : 40 ≤ n) {k : Nat} (hv : Vok v) (hc : CV k v μ) : fX3_sumOfSizes n k μ = some (nI (fb_sm (sz v) (vN v)), μ) := by
  have h8 := hv.1
  refine loop_inv (fun F i s => fX3_sumOfSizes_L4 n k F (nI s) (nI i) μ) (fun i s => s = fb_sm (sz v) i) (fun o => o = some (nI (fb_sm (sz v) (vN v)), μ)) (vN v) ?_ ?_ n 0 0 rfl (by omega) (by omega)
  · intro F s hs
    rw [fX3_sumOfSizes_L4]
    simp (disch := omega) only [hc.1, nI_leI, if_pos, hs]
  · intro F i s hi hs ih
    rw [fX3_sumOfSizes_L4]
    simp (disch := omega) only [inb_nI, gd_true, nI_clamp, nI_leI, nI_ltI, nI_eq, if_pos, if_neg, reduceIte, bnd, bd_some, nI_add, pk_mul, pk_sub, lit_0, lit_1, lit_2, lit_3, lit_4, lit_5, lit_7, lit_8, lit_9, lit_10, lit_12, lit_14, lit_20, lit_31, lit_60, lit_96, lit_99, lit_255, hc.1, (hc.2.2 i hi).2.1]
    exact ih _ (by rw [hs]; rfl)
theorem p5_sum (hn : 40 ≤ n) (hv : Vok v) (hc : MV v μ) : fX5_count_L71 n n 0 0 μ = some (nI (fb_sm (sz v) (vN v)), μ) := by
  have h8 := hv.1
  refine loop_inv (fun F i s => fX5_count_L71 n F (nI s) (nI i) μ) (fun i s => s = fb_sm (sz v) i) (fun o => o = some (nI (fb_sm (sz v) (vN v)), μ)) (vN v) ?_ ?_ n 0 0 rfl (by omega) (by omega)
  · intro F s hs
    rw [fX5_count_L71]
    simp (disch := omega) only [hc.1, nI_leI, if_pos, hs]
  · intro F i s hi hs ih
    rw [fX5_count_L71]
    simp (disch := omega) only [inb_nI, gd_true, nI_clamp, nI_leI, nI_ltI, nI_eq, if_pos, if_neg, reduceIte, bnd, bd_some, nI_add, pk_mul, pk_sub, lit_0, lit_1, lit_2, lit_3, lit_4, lit_5, lit_7, lit_8, lit_9, lit_10, lit_12, lit_14, lit_20, lit_31, lit_60, lit_96, lit_99, lit_255, hc.1, (hc.2.2 i hi).2.1]
    exact ih _ (by rw [hs]; rfl)
end PJ
