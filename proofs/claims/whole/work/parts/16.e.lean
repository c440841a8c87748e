/-! ===== the law: its loop ===== -/
theorem and31 (x : Int32) : ∃ v, v < 32 ∧ x &&& 31 = nI v := by
  refine ⟨x.toBitVec.toNat % 32, Nat.mod_lt _ (by decide), ?_⟩
  apply Int32.toBitVec_inj.mp
  apply BitVec.eq_of_toNat_eq
  have h : (x &&& 31).toBitVec.toNat = x.toBitVec.toNat % 32 := by
    rw [Int32.toBitVec_and, BitVec.toNat_and, show (31 : Int32).toBitVec.toNat = 2 ^ 5 - 1 from rfl, Nat.and_two_pow_sub_one_eq_mod]
  rw [h]
  have hl : x.toBitVec.toNat % 32 < 32 := Nat.mod_lt _ (by decide)
  generalize x.toBitVec.toNat % 32 = v at hl
  have key : ∀ v, v < 32 → v = (nI v).toBitVec.toNat := by decide +kernel
  exact key v hl
section LLP
variable {p : Program} {l : Launch} {e : Env} {s : State} {m : MethodId} {below : List Frame} {meth : Method} {c : Code} {b L : Nat} {xs : Nat → Int32} {D : va_G} {tc : Nat → ClassId} {ad : Nat → Nat} {nC nS : Nat}
theorem l_cond {i L : Nat} (hL : L ≤ 2560) (hi : i < 2 ^ 30) (h : ¬ (Int32.ofNat L - 5 : Int32) < nI i) : i + 5 ≤ L := by
  have h1 : nI i ≤ nI L - nI 5 := Int32.not_lt.mp h
  rw [Int32.le_iff_toInt_le, nI_toInt (by omega), pk_sub_toInt (by omega) (by decide)] at h1
  omega
set_option maxHeartbeats 4000000 in
set_option maxRecDepth 100000 in
theorem l_loop (hk : LK p s m meth c b L xs D tc ad) (hn : nC ≤ 600000 ∧ nS ≤ 7302250) : ∀ (n i : Nat) (z : Zs) (μ : Mem), L + 10 < n + i → i ≤ L → SOk z → CI z μ → MI z μ → LW p l e s m below meth c b D tc ad nC nS (lw_Z below #[Value.ref b] s) 18 [(3, .int (nI i)), (0, .ref b), (1, .ref (ad 0)), (2, .ref (ad 47))] [] μ
  | 0, i, z, μ, h, hi, hz, hc, hm => by omega
  | n + 1, i, z, μ, h, hi, hz, hc, hm => by
    intro H locs ls hP hD hS hl
    have hx := hk.1
    have hb := hk.2.1
    have hX := hk.2.2.2.2.2.1
    have hbl := hk.2.2.2.2.2.2.1
    have hL := hk.2.2.2.2.2.2.2.2.2.2.2.1
    have hr := hk.2.2.2.2.2.2.2.2.2.1
    have hlocks := hk.2.2.2.2.2.2.2.2.2.2.1
    have hbA : ¬ (fun q : Nat => s.heap.size ≤ q) b := Nat.not_le.mpr hbl
    refine lv_iload_n hx hb dL_18 rfl (lv_at hl 0 rfl) ?_
    refine lv_aload_n hx hb dL_19 rfl (lv_at hl 1 rfl) ?_
    refine va_slen hx hb hX hbl hbA hS dL_20 ?_
    refine lv_iconst (v := 5) hx hb dL_21 (by decide) ?_
    refine lv_isub hx hb dL_22 ?_
    refine lv_icmp_gt (tgt := 890) hx hb dL_23 (by decide) (fun _ => ?_) (fun hq => ?_)
    · refine lv_iconst (v := 1) hx hb dL_890 (by decide) ?_
      refine va_forget hS.2.2 ?_
      refine W.widen (k := 600000) (n := 7302250) hn.1 hn.2 ?_
      exact lw_ret hx hb hr hlocks dL_891
    · have hi5 : i + 5 ≤ L := l_cond hL (by omega) hq
      refine lv_aload_n hx hb dL_26 rfl (lv_at hl 1 rfl) ?_
      refine lv_iload_n hx hb dL_27 rfl (lv_at hl 0 rfl) ?_
      refine va_sld hx hb hX hbl hbA hS (vp_in_nI (show i < L by omega) (by omega)) dL_28 ?_
      refine lv_bipush (v := 31) hx hb dL_29 (by decide) ?_
      refine lv_iand hx hb dL_31 ?_
      have nx : ∀ z' ν, SOk z' → CI z' ν → MI z' ν → LW p l e s m below meth c b D tc ad nC nS (lw_Z below #[Value.ref b] s) 884 [(3, .int (nI i)), (0, .ref b), (1, .ref (ad 0)), (2, .ref (ad 47))] [] ν := by
        intro z' ν g1 g2 g3 H locs ls hP hD hS hl
        refine lv_iinc (v := nI (i + 5)) (lv' := [(3, .int (nI (i + 5))), (0, .ref b), (1, .ref (ad 0)), (2, .ref (ad 47))]) hx hb dL_884 hl (k := 0) rfl (by rw [show Int32.ofInt 5 = nI 5 from rfl, nI_add]) (by decide) rfl (fun ls hl => ?_)
        refine lv_goto (tgt := 18) hx hb dL_887 (by decide) ?_
        exact l_loop hk hn n (i + 5) z' ν (by omega) (by omega) g1 g2 g3 H locs ls hP hD hS hl
      obtain ⟨v, hv, ev⟩ := and31 (xs (nI i).toNatClampNeg)
      rw [ev]
      rcases (show v = 0 ∨ v = 1 ∨ v = 2 ∨ v = 3 ∨ v = 4 ∨ v = 5 ∨ v = 6 ∨ v = 7 ∨ v = 8 ∨ v = 9 ∨ v = 10 ∨ v = 11 ∨ v = 12 ∨ v = 13 ∨ v = 14 ∨ v = 15 ∨ v = 16 ∨ v = 17 ∨ v = 18 ∨ v = 19 ∨ v = 20 ∨ v = 21 ∨ v = 22 ∨ v = 23 ∨ v = 24 ∨ v = 25 ∨ v = 26 ∨ v = 27 ∨ v = 28 ∨ v = 29 ∨ v = 30 ∨ v = 31 by omega) with rfl | rfl | rfl | rfl | rfl | rfl | rfl | rfl | rfl | rfl | rfl | rfl | rfl | rfl | rfl | rfl | rfl | rfl | rfl | rfl | rfl | rfl | rfl | rfl | rfl | rfl | rfl | rfl | rfl | rfl | rfl | rfl
      · exact lv_tableIn (tgt := 164) hx hb dL_32 (by decide) (by decide) (off := 132) rfl (by decide) (lc_0 hk hn i z μ hi5 hz hc hm nx H locs ls hP hD hS hl)
      · exact lv_tableIn (tgt := 187) hx hb dL_32 (by decide) (by decide) (off := 155) rfl (by decide) (lc_1 hk hn i z μ hi5 hz hc hm nx H locs ls hP hD hS hl)
      · exact lv_tableIn (tgt := 200) hx hb dL_32 (by decide) (by decide) (off := 168) rfl (by decide) (lc_2 hk hn i z μ hi5 hz hc hm nx H locs ls hP hD hS hl)
      · exact lv_tableIn (tgt := 233) hx hb dL_32 (by decide) (by decide) (off := 201) rfl (by decide) (lc_3 hk hn i z μ hi5 hz hc hm nx H locs ls hP hD hS hl)
      · exact lv_tableIn (tgt := 266) hx hb dL_32 (by decide) (by decide) (off := 234) rfl (by decide) (lc_4 hk hn i z μ hi5 hz hc hm nx H locs ls hP hD hS hl)
      · exact lv_tableIn (tgt := 299) hx hb dL_32 (by decide) (by decide) (off := 267) rfl (by decide) (lc_5 hk hn i z μ hi5 hz hc hm nx H locs ls hP hD hS hl)
      · exact lv_tableIn (tgt := 322) hx hb dL_32 (by decide) (by decide) (off := 290) rfl (by decide) (lc_6 hk hn i z μ hi5 hz hc hm nx H locs ls hP hD hS hl)
      · exact lv_tableIn (tgt := 355) hx hb dL_32 (by decide) (by decide) (off := 323) rfl (by decide) (lc_7 hk hn i z μ hi5 hz hc hm nx H locs ls hP hD hS hl)
      · exact lv_tableIn (tgt := 399) hx hb dL_32 (by decide) (by decide) (off := 367) rfl (by decide) (lc_8 hk hn i z μ hi5 hz hc hm nx H locs ls hP hD hS hl)
      · exact lv_tableIn (tgt := 422) hx hb dL_32 (by decide) (by decide) (off := 390) rfl (by decide) (lc_9 hk hn i z μ hi5 hz hc hm nx H locs ls hP hD hS hl)
      · exact lv_tableIn (tgt := 445) hx hb dL_32 (by decide) (by decide) (off := 413) rfl (by decide) (lc_10 hk hn i z μ hi5 hz hc hm nx H locs ls hP hD hS hl)
      · exact lv_tableIn (tgt := 458) hx hb dL_32 (by decide) (by decide) (off := 426) rfl (by decide) (lc_11 hk hn i z μ hi5 hz hc hm nx H locs ls hP hD hS hl)
      · exact lv_tableIn (tgt := 471) hx hb dL_32 (by decide) (by decide) (off := 439) rfl (by decide) (lc_12 hk hn i z μ hi5 hz hc hm nx H locs ls hP hD hS hl)
      · exact lv_tableIn (tgt := 494) hx hb dL_32 (by decide) (by decide) (off := 462) rfl (by decide) (lc_13 hk hn i z μ hi5 hz hc hm nx H locs ls hP hD hS hl)
      · exact lv_tableIn (tgt := 507) hx hb dL_32 (by decide) (by decide) (off := 475) rfl (by decide) (lc_14 hk hn i z μ hi5 hz hc hm nx H locs ls hP hD hS hl)
      · exact lv_tableIn (tgt := 540) hx hb dL_32 (by decide) (by decide) (off := 508) rfl (by decide) (lc_15 hk hn i z μ hi5 hz hc hm nx H locs ls hP hD hS hl)
      · exact lv_tableIn (tgt := 563) hx hb dL_32 (by decide) (by decide) (off := 531) rfl (by decide) (lc_16 hk hn i z μ hi5 hz hc hm nx H locs ls hP hD hS hl)
      · exact lv_tableIn (tgt := 576) hx hb dL_32 (by decide) (by decide) (off := 544) rfl (by decide) (lc_17 hk hn i z μ hi5 hz hc hm nx H locs ls hP hD hS hl)
      · exact lv_tableIn (tgt := 630) hx hb dL_32 (by decide) (by decide) (off := 598) rfl (by decide) (lc_18 hk hn i z μ hi5 hz hc hm nx H locs ls hP hD hS hl)
      · exact lv_tableIn (tgt := 663) hx hb dL_32 (by decide) (by decide) (off := 631) rfl (by decide) (lc_19 hk hn i z μ hi5 hz hc hm nx H locs ls hP hD hS hl)
      · exact lv_tableIn (tgt := 686) hx hb dL_32 (by decide) (by decide) (off := 654) rfl (by decide) (lc_20 hk hn i z μ hi5 hz hc hm nx H locs ls hP hD hS hl)
      · exact lv_tableIn (tgt := 719) hx hb dL_32 (by decide) (by decide) (off := 687) rfl (by decide) (lc_21 hk hn i z μ hi5 hz hc hm nx H locs ls hP hD hS hl)
      · exact lv_tableIn (tgt := 742) hx hb dL_32 (by decide) (by decide) (off := 710) rfl (by decide) (lc_22 hk hn i z μ hi5 hz hc hm nx H locs ls hP hD hS hl)
      · exact lv_tableIn (tgt := 766) hx hb dL_32 (by decide) (by decide) (off := 734) rfl (by decide) (lc_23 hk hn i z μ hi5 hz hc hm nx H locs ls hP hD hS hl)
      · exact lv_tableIn (tgt := 779) hx hb dL_32 (by decide) (by decide) (off := 747) rfl (by decide) (lc_24 hk hn i z μ hi5 hz hc hm nx H locs ls hP hD hS hl)
      · exact lv_tableIn (tgt := 792) hx hb dL_32 (by decide) (by decide) (off := 760) rfl (by decide) (lc_25 hk hn i z μ hi5 hz hc hm nx H locs ls hP hD hS hl)
      · exact lv_tableIn (tgt := 835) hx hb dL_32 (by decide) (by decide) (off := 803) rfl (by decide) (lc_26 hk hn i z μ hi5 hz hc hm nx H locs ls hP hD hS hl)
      · exact lv_tableIn (tgt := 848) hx hb dL_32 (by decide) (by decide) (off := 816) rfl (by decide) (lc_27 hk hn i z μ hi5 hz hc hm nx H locs ls hP hD hS hl)
      · exact lv_tableIn (tgt := 861) hx hb dL_32 (by decide) (by decide) (off := 829) rfl (by decide) (lc_28 hk hn i z μ hi5 hz hc hm nx H locs ls hP hD hS hl)
      · exact lv_tableOut (tgt := 884) hx hb dL_32 (Or.inr (by decide)) (by decide) (nx z μ hz hc hm H locs ls hP hD hS hl)
      · exact lv_tableOut (tgt := 884) hx hb dL_32 (Or.inr (by decide)) (by decide) (nx z μ hz hc hm H locs ls hP hD hS hl)
      · exact lv_tableOut (tgt := 884) hx hb dL_32 (Or.inr (by decide)) (by decide) (nx z μ hz hc hm H locs ls hP hD hS hl)
end LLP
