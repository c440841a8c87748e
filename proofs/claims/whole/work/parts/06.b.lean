-- StopsByLetters.luck(IIII)J
abbrev kX4_luck : Cfg := (RX4, cX4_luck, 10, (some .long), 4)
theorem dX4_luck_0 : decode cX4_luck 0 = .ok (.aload_n 0, 1) := by decide +kernel
theorem dX4_luck_1 : decode cX4_luck 1 = .ok (.getfield 10, 3) := by decide +kernel
theorem dX4_luck_4 : decode cX4_luck 4 = .ok (.iload_n 1, 1) := by decide +kernel
theorem dX4_luck_5 : decode cX4_luck 5 = .ok (.invokevirtual 67, 3) := by decide +kernel
theorem dX4_luck_8 : decode cX4_luck 8 = .ok (.ifCond .eq 14, 3) := by decide +kernel
theorem dX4_luck_11 : decode cX4_luck 11 = .ok (.aload_n 0, 1) := by decide +kernel
theorem dX4_luck_12 : decode cX4_luck 12 = .ok (.getfield 10, 3) := by decide +kernel
theorem dX4_luck_15 : decode cX4_luck 15 = .ok (.iload_n 2, 1) := by decide +kernel
theorem dX4_luck_16 : decode cX4_luck 16 = .ok (.invokevirtual 67, 3) := by decide +kernel
theorem dX4_luck_19 : decode cX4_luck 19 = .ok (.ifCond .ne 9, 3) := by decide +kernel
theorem dX4_luck_22 : decode cX4_luck 22 = .ok (.aload_n 0, 1) := by decide +kernel
theorem dX4_luck_23 : decode cX4_luck 23 = .ok (.iconst (-1), 1) := by decide +kernel
theorem dX4_luck_24 : decode cX4_luck 24 = .ok (.invokevirtual 101, 3) := by decide +kernel
theorem dX4_luck_27 : decode cX4_luck 27 = .ok (.lreturn, 1) := by decide +kernel
theorem dX4_luck_28 : decode cX4_luck 28 = .ok (.iload_n 3, 1) := by decide +kernel
theorem dX4_luck_29 : decode cX4_luck 29 = .ok (.ifCond .ge 10, 3) := by decide +kernel
theorem dX4_luck_32 : decode cX4_luck 32 = .ok (.aload_n 0, 1) := by decide +kernel
theorem dX4_luck_33 : decode cX4_luck 33 = .ok (.bipush (-4), 2) := by decide +kernel
theorem dX4_luck_35 : decode cX4_luck 35 = .ok (.invokevirtual 101, 3) := by decide +kernel
theorem dX4_luck_38 : decode cX4_luck 38 = .ok (.lreturn, 1) := by decide +kernel
theorem dX4_luck_39 : decode cX4_luck 39 = .ok (.iload_n 3, 1) := by decide +kernel
theorem dX4_luck_40 : decode cX4_luck 40 = .ok (.bipush 8, 2) := by decide +kernel
theorem dX4_luck_42 : decode cX4_luck 42 = .ok (.if_icmp .le 10, 3) := by decide +kernel
theorem dX4_luck_45 : decode cX4_luck 45 = .ok (.aload_n 0, 1) := by decide +kernel
theorem dX4_luck_46 : decode cX4_luck 46 = .ok (.bipush (-6), 2) := by decide +kernel
theorem dX4_luck_48 : decode cX4_luck 48 = .ok (.invokevirtual 101, 3) := by decide +kernel
theorem dX4_luck_51 : decode cX4_luck 51 = .ok (.lreturn, 1) := by decide +kernel
theorem dX4_luck_52 : decode cX4_luck 52 = .ok (.iload 4, 2) := by decide +kernel
theorem dX4_luck_54 : decode cX4_luck 54 = .ok (.invokestatic 87, 3) := by decide +kernel
theorem dX4_luck_57 : decode cX4_luck 57 = .ok (.ifCond .ne 10, 3) := by decide +kernel
theorem dX4_luck_60 : decode cX4_luck 60 = .ok (.aload_n 0, 1) := by decide +kernel
theorem dX4_luck_61 : decode cX4_luck 61 = .ok (.bipush (-2), 2) := by decide +kernel
theorem dX4_luck_63 : decode cX4_luck 63 = .ok (.invokevirtual 101, 3) := by decide +kernel
theorem dX4_luck_66 : decode cX4_luck 66 = .ok (.lreturn, 1) := by decide +kernel
theorem dX4_luck_67 : decode cX4_luck 67 = .ok (.aload_n 0, 1) := by decide +kernel
theorem dX4_luck_68 : decode cX4_luck 68 = .ok (.getfield 39, 3) := by decide +kernel
theorem dX4_luck_71 : decode cX4_luck 71 = .ok (.aload_n 0, 1) := by decide +kernel
theorem dX4_luck_72 : decode cX4_luck 72 = .ok (.getfield 10, 3) := by decide +kernel
theorem dX4_luck_75 : decode cX4_luck 75 = .ok (.invokevirtual 93, 3) := by decide +kernel
theorem dX4_luck_78 : decode cX4_luck 78 = .ok (.aload_n 0, 1) := by decide +kernel
theorem dX4_luck_79 : decode cX4_luck 79 = .ok (.getfield 39, 3) := by decide +kernel
theorem dX4_luck_82 : decode cX4_luck 82 = .ok (.iload_n 1, 1) := by decide +kernel
theorem dX4_luck_83 : decode cX4_luck 83 = .ok (.iload_n 2, 1) := by decide +kernel
theorem dX4_luck_84 : decode cX4_luck 84 = .ok (.iload_n 3, 1) := by decide +kernel
theorem dX4_luck_85 : decode cX4_luck 85 = .ok (.invokevirtual 151, 3) := by decide +kernel
theorem dX4_luck_88 : decode cX4_luck 88 = .ok (.lstore 5, 2) := by decide +kernel
theorem dX4_luck_90 : decode cX4_luck 90 = .ok (.lconst 1, 1) := by decide +kernel
theorem dX4_luck_91 : decode cX4_luck 91 = .ok (.iload_n 3, 1) := by decide +kernel
theorem dX4_luck_92 : decode cX4_luck 92 = .ok (.lshl, 1) := by decide +kernel
theorem dX4_luck_93 : decode cX4_luck 93 = .ok (.lstore 7, 2) := by decide +kernel
theorem dX4_luck_95 : decode cX4_luck 95 = .ok (.iconst 0, 1) := by decide +kernel
theorem dX4_luck_96 : decode cX4_luck 96 = .ok (.istore 9, 2) := by decide +kernel
theorem dX4_luck_98 : decode cX4_luck 98 = .ok (.iload 9, 2) := by decide +kernel
theorem dX4_luck_100 : decode cX4_luck 100 = .ok (.iload_n 3, 1) := by decide +kernel
theorem dX4_luck_101 : decode cX4_luck 101 = .ok (.if_icmp .ge 36, 3) := by decide +kernel
theorem dX4_luck_104 : decode cX4_luck 104 = .ok (.lload 5, 2) := by decide +kernel
theorem dX4_luck_106 : decode cX4_luck 106 = .ok (.ldc2_w 154, 3) := by decide +kernel
theorem dX4_luck_109 : decode cX4_luck 109 = .ok (.lrem, 1) := by decide +kernel
theorem dX4_luck_110 : decode cX4_luck 110 = .ok (.lconst 0, 1) := by decide +kernel
theorem dX4_luck_111 : decode cX4_luck 111 = .ok (.lcmp, 1) := by decide +kernel
theorem dX4_luck_112 : decode cX4_luck 112 = .ok (.ifCond .ne 25, 3) := by decide +kernel
theorem dX4_luck_115 : decode cX4_luck 115 = .ok (.lload 5, 2) := by decide +kernel
theorem dX4_luck_117 : decode cX4_luck 117 = .ok (.ldc2_w 154, 3) := by decide +kernel
theorem dX4_luck_120 : decode cX4_luck 120 = .ok (.ldiv, 1) := by decide +kernel
theorem dX4_luck_121 : decode cX4_luck 121 = .ok (.lstore 5, 2) := by decide +kernel
theorem dX4_luck_123 : decode cX4_luck 123 = .ok (.lload 7, 2) := by decide +kernel
theorem dX4_luck_125 : decode cX4_luck 125 = .ok (.ldc2_w 154, 3) := by decide +kernel
theorem dX4_luck_128 : decode cX4_luck 128 = .ok (.ldiv, 1) := by decide +kernel
theorem dX4_luck_129 : decode cX4_luck 129 = .ok (.lstore 7, 2) := by decide +kernel
theorem dX4_luck_131 : decode cX4_luck 131 = .ok (.iinc 9 1, 3) := by decide +kernel
theorem dX4_luck_134 : decode cX4_luck 134 = .ok (.goto (-36), 3) := by decide +kernel
theorem dX4_luck_137 : decode cX4_luck 137 = .ok (.iload 4, 2) := by decide +kernel
theorem dX4_luck_139 : decode cX4_luck 139 = .ok (.ifCond .ne 8, 3) := by decide +kernel
theorem dX4_luck_142 : decode cX4_luck 142 = .ok (.lload 5, 2) := by decide +kernel
theorem dX4_luck_144 : decode cX4_luck 144 = .ok (.goto 5, 3) := by decide +kernel
theorem dX4_luck_147 : decode cX4_luck 147 = .ok (.lload 7, 2) := by decide +kernel
theorem dX4_luck_149 : decode cX4_luck 149 = .ok (.lreturn, 1) := by decide +kernel
theorem cwX4_154 : Cond.constantLong RX4 154 (2 : Int64) ∈ TB := tb_in 572 (by decide +kernel) rfl
def fX4_luck_L98 (n : Nat) (v3 : Int32) (v4 : Int32) : Nat → Int64 → Int64 → Int32 → Mem → Option (Int64 × Mem)
  | 0, _, _, _, _ => none
  | F + 1, v5, v7, v9, μ => if v3 ≤ v9 then if v4 = 0 then some (v5, μ) else some (v7, μ) else if (lg_cmp (jremL v5 2) 0) = 0 then bnd (v5 / 2) (fun x14 => bnd (v7 / 2) (fun x15 => bnd (v9 + 1) (fun x16 => fX4_luck_L98 n v3 v4 F x14 x15 x16 μ))) else if v4 = 0 then some (v5, μ) else some (v7, μ)
theorem lnX4_151 : Ln RX4 151 yX0_lotsOf := Or.inr ⟨RX4, nt_in 563 (by decide +kernel) rfl⟩
theorem moX0_lotsOf : Mv yX0_lotsOf kX0_lotsOf 3 := ⟨⟨tb_in 566 (by decide +kernel) rfl, tb_in 91 (by decide +kernel) rfl, ⟨by decide, by decide⟩, by decide +kernel⟩, tb_in 565 (by decide +kernel) rfl, tb_in 37 (by decide +kernel) rfl⟩
def fX4_luck (n : Nat) (a1 : Int32) (a2 : Int32) (a3 : Int32) (a4 : Int32) (μ : Mem) : Option (Int64 × Mem) :=
  bd (fX3_has n 2 a1 μ) (fun r2 m1 => if r2 = 0 then bd (fX4_refuseLong n (-1) m1) (fun r4 m3 => some (r4, m3)) else bd (fX3_has n 2 a2 m1) (fun r6 m5 => if r6 = 0 then bd (fX4_refuseLong n (-1) m5) (fun r24 m23 => some (r24, m23)) else if 0 ≤ a3 then if a3 ≤ 8 then bd (fX4_isChoice n a4 m5) (fun r8 m7 => if r8 = 0 then bd (fX4_refuseLong n (-2) m7) (fun r18 m17 => some (r18, m17)) else bd (fX0_lay n 2 m7) (fun r10 m9 => bd (fX0_lotsOf n a1 a2 a3 m9) (fun r12 m11 => bnd (jlshl 1 a3) (fun x13 => fX4_luck_L98 n a3 a4 n r12 x13 0 m11)))) else bd (fX4_refuseLong n (-6) m5) (fun r20 m19 => some (r20, m19)) else bd (fX4_refuseLong n (-4) m5) (fun r22 m21 => some (r22, m21))))
set_option maxHeartbeats 4000000 in
set_option maxRecDepth 100000 in
theorem wX4_luck_L98 (ad : Nat → Nat) (n : Nat) (v3 : Int32) (v4 : Int32) : ∀ (F : Nat) (v5 : Int64) (v7 : Int64) (v9 : Int32) (μ : Mem), G kX4_luck ad encJ 98 [(3, .int v3), (4, .int v4), (5, .long v5), (7, .long v7), (9, .int v9)] [] μ (fX4_luck_L98 n v3 v4 F v5 v7 v9 μ) := by
  intro F
  induction F with
  | zero =>
    intro v5 v7 v9 μ
    exact g_none
  | succ F ih =>
    intro v5 v7 v9 μ
    rw [fX4_luck_L98]
    refine g_iload (pc := 98) 4 dX4_luck_98 rfl ?_
    refine g_iload_n (pc := 100) 0 dX4_luck_100 rfl rfl ?_
    refine g_icmp_ge (pc := 101) 137 dX4_luck_101 rfl ?_ ?_
    · refine g_iload (pc := 137) 1 dX4_luck_137 rfl ?_
      refine g_if_ne (pc := 139) 147 dX4_luck_139 rfl ?_ ?_
      · refine g_lload (pc := 147) 3 dX4_luck_147 rfl ?_
        exact g_lreturn (pc := 149) dX4_luck_149 rfl
      · refine g_lload (pc := 142) 2 dX4_luck_142 rfl ?_
        refine g_goto (pc := 144) 149 dX4_luck_144 rfl ?_
        exact g_lreturn (pc := 149) dX4_luck_149 rfl
    · refine g_lload (pc := 104) 2 dX4_luck_104 rfl ?_
      refine g_ldc2 (pc := 106) dX4_luck_106 cwX4_154 ?_
      refine g_lrem' (pc := 109) dX4_luck_109 (by decide) ?_
      refine g_lconst (pc := 110) 0 dX4_luck_110 (by decide) ?_
      refine g_lcmp (pc := 111) dX4_luck_111 ?_
      refine g_if_ne (pc := 112) 137 dX4_luck_112 rfl ?_ ?_
      · refine g_iload (pc := 137) 1 dX4_luck_137 rfl ?_
        refine g_if_ne (pc := 139) 147 dX4_luck_139 rfl ?_ ?_
        · refine g_lload (pc := 147) 3 dX4_luck_147 rfl ?_
          exact g_lreturn (pc := 149) dX4_luck_149 rfl
        · refine g_lload (pc := 142) 2 dX4_luck_142 rfl ?_
          refine g_goto (pc := 144) 149 dX4_luck_144 rfl ?_
          exact g_lreturn (pc := 149) dX4_luck_149 rfl
      · refine g_lload (pc := 115) 2 dX4_luck_115 rfl ?_
        refine g_ldc2 (pc := 117) dX4_luck_117 cwX4_154 ?_
        refine g_ldiv (pc := 120) dX4_luck_120 (by decide) ?_
        refine g_lstoreB (pc := 121) (fun x14 => [(5, .long x14), (3, .int v3), (4, .int v4), (7, .long v7), (9, .int v9)]) dX4_luck_121 (by decide) (fun _ => rfl) (fun x14 => ?_)
        refine g_lload (pc := 123) 3 dX4_luck_123 rfl ?_
        refine g_ldc2 (pc := 125) dX4_luck_125 cwX4_154 ?_
        refine g_ldiv (pc := 128) dX4_luck_128 (by decide) ?_
        refine g_lstoreB (pc := 129) (fun x15 => [(7, .long x15), (5, .long x14), (3, .int v3), (4, .int v4), (9, .int v9)]) dX4_luck_129 (by decide) (fun _ => rfl) (fun x15 => ?_)
        refine g_iincB (pc := 131) 4 1 1 (fun x16 => [(9, .int x16), (7, .long x15), (5, .long x14), (3, .int v3), (4, .int v4)]) dX4_luck_131 rfl (by decide) (by decide) (fun _ => rfl) (fun x16 => ?_)
        refine g_goto (pc := 134) 98 dX4_luck_134 rfl ?_
        exact g_sub [3, 4, 2, 1, 0] rfl (ih x14 x15 x16 μ)
set_option maxHeartbeats 4000000 in
set_option maxRecDepth 100000 in
theorem ctX4_luck (ad : Nat → Nat) (n : Nat) (a1 : Int32) (a2 : Int32) (a3 : Int32) (a4 : Int32) (μ : Mem) : Ct yX4_luck kX4_luck ad encJ [.ref (ad 0), .int a1, .int a2, .int a3, .int a4] μ (fX4_luck n a1 a2 a3 a4 μ) := Ct.of (by decide +kernel) rfl (Nat.le_of_ble_eq_true rfl) (by
  show G kX4_luck ad encJ 0 [(0, .ref (ad 0)), (1, .int a1), (2, .int a2), (3, .int a3), (4, .int a4)] [] μ (fX4_luck n a1 a2 a3 a4 μ)
  unfold fX4_luck
  refine g_aload_n (pc := 0) 0 dX4_luck_0 rfl rfl ?_
  refine g_get (pc := 1) rfl foX4_10 (v := .ref (ad 2)) rfl dX4_luck_1 ?_
  refine g_iload_n (pc := 4) 1 dX4_luck_4 rfl rfl ?_
  refine g_cVI (pc := 5) (st := []) [.int a1] rfl rfl moX3_has lnX4_67 (ctX3_has ad n 2 sT2 a1 μ) rfl ⟨Nat.le_of_ble_eq_true rfl, Nat.le_of_ble_eq_true rfl⟩ rfl (Nat.le_of_ble_eq_true rfl) dX4_luck_5 (fun r2 m1 => ?_)
  refine g_if_eq (pc := 8) 22 dX4_luck_8 rfl ?_ ?_
  · refine g_aload_n (pc := 22) 0 dX4_luck_22 rfl rfl ?_
    refine g_iconst (pc := 23) (-1) dX4_luck_23 (by decide) ?_
    refine g_cVJ (pc := 24) (st := []) [.int (-1)] rfl rfl moX4_refuseLong lnX4_101 (ctX4_refuseLong ad n (-1) m1) rfl ⟨Nat.le_of_ble_eq_true rfl, Nat.le_of_ble_eq_true rfl⟩ rfl (Nat.le_of_ble_eq_true rfl) dX4_luck_24 (fun r4 m3 => ?_)
    exact g_lreturn (pc := 27) dX4_luck_27 rfl
  · refine g_aload_n (pc := 11) 0 dX4_luck_11 rfl rfl ?_
    refine g_get (pc := 12) rfl foX4_10 (v := .ref (ad 2)) rfl dX4_luck_12 ?_
    refine g_iload_n (pc := 15) 2 dX4_luck_15 rfl rfl ?_
    refine g_cVI (pc := 16) (st := []) [.int a2] rfl rfl moX3_has lnX4_67 (ctX3_has ad n 2 sT2 a2 m1) rfl ⟨Nat.le_of_ble_eq_true rfl, Nat.le_of_ble_eq_true rfl⟩ rfl (Nat.le_of_ble_eq_true rfl) dX4_luck_16 (fun r6 m5 => ?_)
    refine g_if_ne (pc := 19) 28 dX4_luck_19 rfl ?_ ?_
    · refine g_iload_n (pc := 28) 3 dX4_luck_28 rfl rfl ?_
      refine g_if_ge (pc := 29) 39 dX4_luck_29 rfl ?_ ?_
      · refine g_iload_n (pc := 39) 3 dX4_luck_39 rfl rfl ?_
        refine g_bipush (pc := 40) 8 dX4_luck_40 (by decide) ?_
        refine g_icmp_le (pc := 42) 52 dX4_luck_42 rfl ?_ ?_
        · refine g_iload (pc := 52) 4 dX4_luck_52 rfl ?_
          refine g_cSI (pc := 54) (st := []) [.int a4] moX4_isChoice lnX4_87 (ctX4_isChoice ad n a4 m5) rfl ⟨Nat.le_of_ble_eq_true rfl, Nat.le_of_ble_eq_true rfl⟩ rfl (Nat.le_of_ble_eq_true rfl) dX4_luck_54 (fun r8 m7 => ?_)
          refine g_if_ne (pc := 57) 67 dX4_luck_57 rfl ?_ ?_
          · refine g_aload_n (pc := 67) 0 dX4_luck_67 rfl rfl ?_
            refine g_get (pc := 68) rfl foX4_39 (v := .ref (ad 42)) rfl dX4_luck_68 ?_
            refine g_aload_n (pc := 71) 0 dX4_luck_71 rfl rfl ?_
            refine g_get (pc := 72) rfl foX4_10 (v := .ref (ad 2)) rfl dX4_luck_72 ?_
            refine g_cVV (pc := 75) (st := []) [.ref (ad 2)] rfl rfl moX0_lay lnX4_93 (ctX0_lay ad n 2 sT2 m7) rfl ⟨Nat.le_of_ble_eq_true rfl, Nat.le_of_ble_eq_true rfl⟩ rfl (Nat.le_of_ble_eq_true rfl) dX4_luck_75 (fun r10 m9 => ?_)
            refine g_aload_n (pc := 78) 0 dX4_luck_78 rfl rfl ?_
            refine g_get (pc := 79) rfl foX4_39 (v := .ref (ad 42)) rfl dX4_luck_79 ?_
            refine g_iload_n (pc := 82) 1 dX4_luck_82 rfl rfl ?_
            refine g_iload_n (pc := 83) 2 dX4_luck_83 rfl rfl ?_
            refine g_iload_n (pc := 84) 3 dX4_luck_84 rfl rfl ?_
            refine g_cVJ (pc := 85) (st := []) [.int a1, .int a2, .int a3] rfl rfl moX0_lotsOf lnX4_151 (ctX0_lotsOf ad n a1 a2 a3 m9) rfl ⟨Nat.le_of_ble_eq_true rfl, Nat.le_of_ble_eq_true rfl⟩ rfl (Nat.le_of_ble_eq_true rfl) dX4_luck_85 (fun r12 m11 => ?_)
            refine g_lstore (pc := 88) [(5, .long r12), (0, .ref (ad 0)), (1, .int a1), (2, .int a2), (3, .int a3), (4, .int a4)] dX4_luck_88 (by decide) rfl ?_
            refine g_lconst (pc := 90) 1 dX4_luck_90 (by decide) ?_
            refine g_iload_n (pc := 91) 4 dX4_luck_91 rfl rfl ?_
            refine g_lshl' (pc := 92) dX4_luck_92 ?_
            refine g_lstoreB (pc := 93) (fun x13 => [(7, .long x13), (5, .long r12), (0, .ref (ad 0)), (1, .int a1), (2, .int a2), (3, .int a3), (4, .int a4)]) dX4_luck_93 (by decide) (fun _ => rfl) (fun x13 => ?_)
            refine g_iconst (pc := 95) 0 dX4_luck_95 (by decide) ?_
            refine g_istore (pc := 96) [(9, .int 0), (7, .long x13), (5, .long r12), (0, .ref (ad 0)), (1, .int a1), (2, .int a2), (3, .int a3), (4, .int a4)] dX4_luck_96 (by decide) rfl ?_
            exact g_sub [6, 7, 2, 1, 0] rfl (wX4_luck_L98 ad n a3 a4 n r12 x13 0 m11)
          · refine g_aload_n (pc := 60) 0 dX4_luck_60 rfl rfl ?_
            refine g_bipush (pc := 61) (-2) dX4_luck_61 (by decide) ?_
            refine g_cVJ (pc := 63) (st := []) [.int (-2)] rfl rfl moX4_refuseLong lnX4_101 (ctX4_refuseLong ad n (-2) m7) rfl ⟨Nat.le_of_ble_eq_true rfl, Nat.le_of_ble_eq_true rfl⟩ rfl (Nat.le_of_ble_eq_true rfl) dX4_luck_63 (fun r18 m17 => ?_)
            exact g_lreturn (pc := 66) dX4_luck_66 rfl
        · refine g_aload_n (pc := 45) 0 dX4_luck_45 rfl rfl ?_
          refine g_bipush (pc := 46) (-6) dX4_luck_46 (by decide) ?_
          refine g_cVJ (pc := 48) (st := []) [.int (-6)] rfl rfl moX4_refuseLong lnX4_101 (ctX4_refuseLong ad n (-6) m5) rfl ⟨Nat.le_of_ble_eq_true rfl, Nat.le_of_ble_eq_true rfl⟩ rfl (Nat.le_of_ble_eq_true rfl) dX4_luck_48 (fun r20 m19 => ?_)
          exact g_lreturn (pc := 51) dX4_luck_51 rfl
      · refine g_aload_n (pc := 32) 0 dX4_luck_32 rfl rfl ?_
        refine g_bipush (pc := 33) (-4) dX4_luck_33 (by decide) ?_
        refine g_cVJ (pc := 35) (st := []) [.int (-4)] rfl rfl moX4_refuseLong lnX4_101 (ctX4_refuseLong ad n (-4) m5) rfl ⟨Nat.le_of_ble_eq_true rfl, Nat.le_of_ble_eq_true rfl⟩ rfl (Nat.le_of_ble_eq_true rfl) dX4_luck_35 (fun r22 m21 => ?_)
        exact g_lreturn (pc := 38) dX4_luck_38 rfl
    · refine g_aload_n (pc := 22) 0 dX4_luck_22 rfl rfl ?_
      refine g_iconst (pc := 23) (-1) dX4_luck_23 (by decide) ?_
      refine g_cVJ (pc := 24) (st := []) [.int (-1)] rfl rfl moX4_refuseLong lnX4_101 (ctX4_refuseLong ad n (-1) m5) rfl ⟨Nat.le_of_ble_eq_true rfl, Nat.le_of_ble_eq_true rfl⟩ rfl (Nat.le_of_ble_eq_true rfl) dX4_luck_24 (fun r24 m23 => ?_)
      exact g_lreturn (pc := 27) dX4_luck_27 rfl)
-- StopsByLetters.putIn(II)I
abbrev kX4_putIn : Cfg := (RX4, cX4_putIn, 3, (some .int), 5)
theorem dX4_putIn_0 : decode cX4_putIn 0 = .ok (.aload_n 0, 1) := by decide +kernel
theorem dX4_putIn_1 : decode cX4_putIn 1 = .ok (.getfield 10, 3) := by decide +kernel
theorem dX4_putIn_4 : decode cX4_putIn 4 = .ok (.iload_n 1, 1) := by decide +kernel
theorem dX4_putIn_5 : decode cX4_putIn 5 = .ok (.invokevirtual 67, 3) := by decide +kernel
theorem dX4_putIn_8 : decode cX4_putIn 8 = .ok (.ifCond .ne 9, 3) := by decide +kernel
theorem dX4_putIn_11 : decode cX4_putIn 11 = .ok (.aload_n 0, 1) := by decide +kernel
theorem dX4_putIn_12 : decode cX4_putIn 12 = .ok (.iconst (-1), 1) := by decide +kernel
theorem dX4_putIn_13 : decode cX4_putIn 13 = .ok (.invokevirtual 51, 3) := by decide +kernel
theorem dX4_putIn_16 : decode cX4_putIn 16 = .ok (.ireturn, 1) := by decide +kernel
theorem dX4_putIn_17 : decode cX4_putIn 17 = .ok (.iload_n 2, 1) := by decide +kernel
theorem dX4_putIn_18 : decode cX4_putIn 18 = .ok (.iconst 1, 1) := by decide +kernel
theorem dX4_putIn_19 : decode cX4_putIn 19 = .ok (.if_icmp .ge 10, 3) := by decide +kernel
theorem dX4_putIn_22 : decode cX4_putIn 22 = .ok (.aload_n 0, 1) := by decide +kernel
theorem dX4_putIn_23 : decode cX4_putIn 23 = .ok (.bipush (-4), 2) := by decide +kernel
theorem dX4_putIn_25 : decode cX4_putIn 25 = .ok (.invokevirtual 51, 3) := by decide +kernel
theorem dX4_putIn_28 : decode cX4_putIn 28 = .ok (.ireturn, 1) := by decide +kernel
theorem dX4_putIn_29 : decode cX4_putIn 29 = .ok (.iload_n 2, 1) := by decide +kernel
theorem dX4_putIn_30 : decode cX4_putIn 30 = .ok (.bipush 9, 2) := by decide +kernel
theorem dX4_putIn_32 : decode cX4_putIn 32 = .ok (.if_icmp .gt 15, 3) := by decide +kernel
theorem dX4_putIn_35 : decode cX4_putIn 35 = .ok (.aload_n 0, 1) := by decide +kernel
theorem dX4_putIn_36 : decode cX4_putIn 36 = .ok (.getfield 10, 3) := by decide +kernel
theorem dX4_putIn_39 : decode cX4_putIn 39 = .ok (.getfield 141, 3) := by decide +kernel
theorem dX4_putIn_42 : decode cX4_putIn 42 = .ok (.bipush 8, 2) := by decide +kernel
theorem dX4_putIn_44 : decode cX4_putIn 44 = .ok (.if_icmp .lt 10, 3) := by decide +kernel
theorem dX4_putIn_47 : decode cX4_putIn 47 = .ok (.aload_n 0, 1) := by decide +kernel
theorem dX4_putIn_48 : decode cX4_putIn 48 = .ok (.bipush (-6), 2) := by decide +kernel
theorem dX4_putIn_50 : decode cX4_putIn 50 = .ok (.invokevirtual 51, 3) := by decide +kernel
theorem dX4_putIn_53 : decode cX4_putIn 53 = .ok (.ireturn, 1) := by decide +kernel
theorem dX4_putIn_54 : decode cX4_putIn 54 = .ok (.aload_n 0, 1) := by decide +kernel
theorem dX4_putIn_55 : decode cX4_putIn 55 = .ok (.getfield 16, 3) := by decide +kernel
theorem dX4_putIn_58 : decode cX4_putIn 58 = .ok (.aload_n 0, 1) := by decide +kernel
theorem dX4_putIn_59 : decode cX4_putIn 59 = .ok (.getfield 10, 3) := by decide +kernel
theorem dX4_putIn_62 : decode cX4_putIn 62 = .ok (.invokevirtual 134, 3) := by decide +kernel
theorem dX4_putIn_65 : decode cX4_putIn 65 = .ok (.aload_n 0, 1) := by decide +kernel
theorem dX4_putIn_66 : decode cX4_putIn 66 = .ok (.getfield 16, 3) := by decide +kernel
theorem dX4_putIn_69 : decode cX4_putIn 69 = .ok (.iload_n 1, 1) := by decide +kernel
theorem dX4_putIn_70 : decode cX4_putIn 70 = .ok (.iload_n 2, 1) := by decide +kernel
theorem dX4_putIn_71 : decode cX4_putIn 71 = .ok (.invokevirtual 156, 3) := by decide +kernel
theorem dX4_putIn_74 : decode cX4_putIn 74 = .ok (.aload_n 0, 1) := by decide +kernel
theorem dX4_putIn_75 : decode cX4_putIn 75 = .ok (.aload_n 0, 1) := by decide +kernel
theorem dX4_putIn_76 : decode cX4_putIn 76 = .ok (.getfield 16, 3) := by decide +kernel
theorem dX4_putIn_79 : decode cX4_putIn 79 = .ok (.invokevirtual 127, 3) := by decide +kernel
theorem dX4_putIn_82 : decode cX4_putIn 82 = .ok (.ireturn, 1) := by decide +kernel
theorem lnX4_156 : Ln RX4 156 yX3_insertBehind := Or.inr ⟨RX4, nt_in 577 (by decide +kernel) rfl⟩
theorem moX3_insertBehind : Mv yX3_insertBehind kX3_insertBehind 2 := ⟨⟨tb_in 580 (by decide +kernel) rfl, tb_in 88 (by decide +kernel) rfl, ⟨by decide, by decide⟩, by decide +kernel⟩, tb_in 579 (by decide +kernel) rfl, tb_in 39 (by decide +kernel) rfl⟩
def fX4_putIn (n : Nat) (a1 : Int32) (a2 : Int32) (μ : Mem) : Option (Int32 × Mem) :=
  bd (fX3_has n 2 a1 μ) (fun r2 m1 => if r2 = 0 then bd (fX4_refuse n (-1) m1) (fun r16 m15 => some (r16, m15)) else if 1 ≤ a2 then if 9 < a2 then bd (fX4_refuse n (-6) m1) (fun r4 m3 => some (r4, m3)) else if (m1.1 2 3) < 8 then bd (fX3_take n 14 2 m1) (fun r6 m5 => bd (fX3_insertBehind n 14 a1 a2 m5) (fun r8 m7 => bd (fX4_neverIn n 14 m7) (fun r10 m9 => some (r10, m9)))) else bd (fX4_refuse n (-6) m1) (fun r12 m11 => some (r12, m11)) else bd (fX4_refuse n (-4) m1) (fun r14 m13 => some (r14, m13)))
set_option maxHeartbeats 4000000 in
set_option maxRecDepth 100000 in
theorem ctX4_putIn (ad : Nat → Nat) (n : Nat) (a1 : Int32) (a2 : Int32) (μ : Mem) : Ct yX4_putIn kX4_putIn ad encI [.ref (ad 0), .int a1, .int a2] μ (fX4_putIn n a1 a2 μ) := Ct.of (by decide +kernel) rfl (Nat.le_of_ble_eq_true rfl) (by
  show G kX4_putIn ad encI 0 [(0, .ref (ad 0)), (1, .int a1), (2, .int a2)] [] μ (fX4_putIn n a1 a2 μ)
  unfold fX4_putIn
  refine g_aload_n (pc := 0) 0 dX4_putIn_0 rfl rfl ?_
  refine g_get (pc := 1) rfl foX4_10 (v := .ref (ad 2)) rfl dX4_putIn_1 ?_
  refine g_iload_n (pc := 4) 1 dX4_putIn_4 rfl rfl ?_
  refine g_cVI (pc := 5) (st := []) [.int a1] rfl rfl moX3_has lnX4_67 (ctX3_has ad n 2 sT2 a1 μ) rfl ⟨Nat.le_of_ble_eq_true rfl, Nat.le_of_ble_eq_true rfl⟩ rfl (Nat.le_of_ble_eq_true rfl) dX4_putIn_5 (fun r2 m1 => ?_)
  refine g_if_ne (pc := 8) 17 dX4_putIn_8 rfl ?_ ?_
  · refine g_iload_n (pc := 17) 2 dX4_putIn_17 rfl rfl ?_
    refine g_iconst (pc := 18) 1 dX4_putIn_18 (by decide) ?_
    refine g_icmp_ge (pc := 19) 29 dX4_putIn_19 rfl ?_ ?_
    · refine g_iload_n (pc := 29) 2 dX4_putIn_29 rfl rfl ?_
      refine g_bipush (pc := 30) 9 dX4_putIn_30 (by decide) ?_
      refine g_icmp_gt (pc := 32) 47 dX4_putIn_32 rfl ?_ ?_
      · refine g_aload_n (pc := 47) 0 dX4_putIn_47 rfl rfl ?_
        refine g_bipush (pc := 48) (-6) dX4_putIn_48 (by decide) ?_
        refine g_cVI (pc := 50) (st := []) [.int (-6)] rfl rfl moX4_refuse lnX4_51 (ctX4_refuse ad n (-6) m1) rfl ⟨Nat.le_of_ble_eq_true rfl, Nat.le_of_ble_eq_true rfl⟩ rfl (Nat.le_of_ble_eq_true rfl) dX4_putIn_50 (fun r4 m3 => ?_)
        exact g_ireturn (pc := 53) dX4_putIn_53 rfl
      · refine g_aload_n (pc := 35) 0 dX4_putIn_35 rfl rfl ?_
        refine g_get (pc := 36) rfl foX4_10 (v := .ref (ad 2)) rfl dX4_putIn_36 ?_
        refine g_get (pc := 39) rfl foX4_141 (v := .int (m1.1 2 3)) rfl dX4_putIn_39 ?_
        refine g_bipush (pc := 42) 8 dX4_putIn_42 (by decide) ?_
        refine g_icmp_lt (pc := 44) 54 dX4_putIn_44 rfl ?_ ?_
        · refine g_aload_n (pc := 54) 0 dX4_putIn_54 rfl rfl ?_
          refine g_get (pc := 55) rfl foX4_16 (v := .ref (ad 14)) rfl dX4_putIn_55 ?_
          refine g_aload_n (pc := 58) 0 dX4_putIn_58 rfl rfl ?_
          refine g_get (pc := 59) rfl foX4_10 (v := .ref (ad 2)) rfl dX4_putIn_59 ?_
          refine g_cVV (pc := 62) (st := []) [.ref (ad 2)] rfl rfl moX3_take lnX4_134 (ctX3_take ad n 14 2 sT14 sT2 m1) rfl ⟨Nat.le_of_ble_eq_true rfl, Nat.le_of_ble_eq_true rfl⟩ rfl (Nat.le_of_ble_eq_true rfl) dX4_putIn_62 (fun r6 m5 => ?_)
          refine g_aload_n (pc := 65) 0 dX4_putIn_65 rfl rfl ?_
          refine g_get (pc := 66) rfl foX4_16 (v := .ref (ad 14)) rfl dX4_putIn_66 ?_
          refine g_iload_n (pc := 69) 1 dX4_putIn_69 rfl rfl ?_
          refine g_iload_n (pc := 70) 2 dX4_putIn_70 rfl rfl ?_
          refine g_cVV (pc := 71) (st := []) [.int a1, .int a2] rfl rfl moX3_insertBehind lnX4_156 (ctX3_insertBehind ad n 14 sT14 a1 a2 m5) rfl ⟨Nat.le_of_ble_eq_true rfl, Nat.le_of_ble_eq_true rfl⟩ rfl (Nat.le_of_ble_eq_true rfl) dX4_putIn_71 (fun r8 m7 => ?_)
          refine g_aload_n (pc := 74) 0 dX4_putIn_74 rfl rfl ?_
          refine g_aload_n (pc := 75) 0 dX4_putIn_75 rfl rfl ?_
          refine g_get (pc := 76) rfl foX4_16 (v := .ref (ad 14)) rfl dX4_putIn_76 ?_
          refine g_cVI (pc := 79) (st := []) [.ref (ad 14)] rfl rfl moX4_neverIn lnX4_127 (ctX4_neverIn ad n 14 sT14 m7) rfl ⟨Nat.le_of_ble_eq_true rfl, Nat.le_of_ble_eq_true rfl⟩ rfl (Nat.le_of_ble_eq_true rfl) dX4_putIn_79 (fun r10 m9 => ?_)
          exact g_ireturn (pc := 82) dX4_putIn_82 rfl
        · refine g_aload_n (pc := 47) 0 dX4_putIn_47 rfl rfl ?_
          refine g_bipush (pc := 48) (-6) dX4_putIn_48 (by decide) ?_
          refine g_cVI (pc := 50) (st := []) [.int (-6)] rfl rfl moX4_refuse lnX4_51 (ctX4_refuse ad n (-6) m1) rfl ⟨Nat.le_of_ble_eq_true rfl, Nat.le_of_ble_eq_true rfl⟩ rfl (Nat.le_of_ble_eq_true rfl) dX4_putIn_50 (fun r12 m11 => ?_)
          exact g_ireturn (pc := 53) dX4_putIn_53 rfl
    · refine g_aload_n (pc := 22) 0 dX4_putIn_22 rfl rfl ?_
      refine g_bipush (pc := 23) (-4) dX4_putIn_23 (by decide) ?_
      refine g_cVI (pc := 25) (st := []) [.int (-4)] rfl rfl moX4_refuse lnX4_51 (ctX4_refuse ad n (-4) m1) rfl ⟨Nat.le_of_ble_eq_true rfl, Nat.le_of_ble_eq_true rfl⟩ rfl (Nat.le_of_ble_eq_true rfl) dX4_putIn_25 (fun r14 m13 => ?_)
      exact g_ireturn (pc := 28) dX4_putIn_28 rfl
  · refine g_aload_n (pc := 11) 0 dX4_putIn_11 rfl rfl ?_
    refine g_iconst (pc := 12) (-1) dX4_putIn_12 (by decide) ?_
    refine g_cVI (pc := 13) (st := []) [.int (-1)] rfl rfl moX4_refuse lnX4_51 (ctX4_refuse ad n (-1) m1) rfl ⟨Nat.le_of_ble_eq_true rfl, Nat.le_of_ble_eq_true rfl⟩ rfl (Nat.le_of_ble_eq_true rfl) dX4_putIn_13 (fun r16 m15 => ?_)
    exact g_ireturn (pc := 16) dX4_putIn_16 rfl)
-- StopsByLetters.shut(I)I
abbrev kX4_shut : Cfg := (RX4, cX4_shut, 2, (some .int), 5)
theorem dX4_shut_0 : decode cX4_shut 0 = .ok (.aload_n 0, 1) := by decide +kernel
theorem dX4_shut_1 : decode cX4_shut 1 = .ok (.getfield 10, 3) := by decide +kernel
theorem dX4_shut_4 : decode cX4_shut 4 = .ok (.iload_n 1, 1) := by decide +kernel
theorem dX4_shut_5 : decode cX4_shut 5 = .ok (.invokevirtual 67, 3) := by decide +kernel
theorem dX4_shut_8 : decode cX4_shut 8 = .ok (.ifCond .ne 9, 3) := by decide +kernel
theorem dX4_shut_11 : decode cX4_shut 11 = .ok (.aload_n 0, 1) := by decide +kernel
theorem dX4_shut_12 : decode cX4_shut 12 = .ok (.iconst (-1), 1) := by decide +kernel
theorem dX4_shut_13 : decode cX4_shut 13 = .ok (.invokevirtual 51, 3) := by decide +kernel
theorem dX4_shut_16 : decode cX4_shut 16 = .ok (.ireturn, 1) := by decide +kernel
theorem dX4_shut_17 : decode cX4_shut 17 = .ok (.aload_n 0, 1) := by decide +kernel
theorem dX4_shut_18 : decode cX4_shut 18 = .ok (.getfield 16, 3) := by decide +kernel
theorem dX4_shut_21 : decode cX4_shut 21 = .ok (.aload_n 0, 1) := by decide +kernel
theorem dX4_shut_22 : decode cX4_shut 22 = .ok (.getfield 10, 3) := by decide +kernel
theorem dX4_shut_25 : decode cX4_shut 25 = .ok (.invokevirtual 134, 3) := by decide +kernel
theorem dX4_shut_28 : decode cX4_shut 28 = .ok (.aload_n 0, 1) := by decide +kernel
theorem dX4_shut_29 : decode cX4_shut 29 = .ok (.getfield 16, 3) := by decide +kernel
theorem dX4_shut_32 : decode cX4_shut 32 = .ok (.iload_n 1, 1) := by decide +kernel
theorem dX4_shut_33 : decode cX4_shut 33 = .ok (.invokevirtual 160, 3) := by decide +kernel
theorem dX4_shut_36 : decode cX4_shut 36 = .ok (.aload_n 0, 1) := by decide +kernel
theorem dX4_shut_37 : decode cX4_shut 37 = .ok (.aload_n 0, 1) := by decide +kernel
theorem dX4_shut_38 : decode cX4_shut 38 = .ok (.getfield 16, 3) := by decide +kernel
theorem dX4_shut_41 : decode cX4_shut 41 = .ok (.invokevirtual 127, 3) := by decide +kernel
theorem dX4_shut_44 : decode cX4_shut 44 = .ok (.ireturn, 1) := by decide +kernel
theorem lnX4_160 : Ln RX4 160 yX3_remove := Or.inr ⟨RX4, nt_in 589 (by decide +kernel) rfl⟩
theorem moX3_remove : Mv yX3_remove kX3_remove 1 := ⟨⟨tb_in 592 (by decide +kernel) rfl, tb_in 88 (by decide +kernel) rfl, ⟨by decide, by decide⟩, by decide +kernel⟩, tb_in 591 (by decide +kernel) rfl, tb_in 41 (by decide +kernel) rfl⟩
def fX4_shut (n : Nat) (a1 : Int32) (μ : Mem) : Option (Int32 × Mem) :=
  bd (fX3_has n 2 a1 μ) (fun r2 m1 => if r2 = 0 then bd (fX4_refuse n (-1) m1) (fun r10 m9 => some (r10, m9)) else bd (fX3_take n 14 2 m1) (fun r4 m3 => bd (fX3_remove n 14 a1 m3) (fun r6 m5 => bd (fX4_neverIn n 14 m5) (fun r8 m7 => some (r8, m7)))))
set_option maxHeartbeats 4000000 in
set_option maxRecDepth 100000 in
theorem ctX4_shut (ad : Nat → Nat) (n : Nat) (a1 : Int32) (μ : Mem) : Ct yX4_shut kX4_shut ad encI [.ref (ad 0), .int a1] μ (fX4_shut n a1 μ) := Ct.of (by decide +kernel) rfl (Nat.le_of_ble_eq_true rfl) (by
  show G kX4_shut ad encI 0 [(0, .ref (ad 0)), (1, .int a1)] [] μ (fX4_shut n a1 μ)
  unfold fX4_shut
  refine g_aload_n (pc := 0) 0 dX4_shut_0 rfl rfl ?_
  refine g_get (pc := 1) rfl foX4_10 (v := .ref (ad 2)) rfl dX4_shut_1 ?_
  refine g_iload_n (pc := 4) 1 dX4_shut_4 rfl rfl ?_
  refine g_cVI (pc := 5) (st := []) [.int a1] rfl rfl moX3_has lnX4_67 (ctX3_has ad n 2 sT2 a1 μ) rfl ⟨Nat.le_of_ble_eq_true rfl, Nat.le_of_ble_eq_true rfl⟩ rfl (Nat.le_of_ble_eq_true rfl) dX4_shut_5 (fun r2 m1 => ?_)
  refine g_if_ne (pc := 8) 17 dX4_shut_8 rfl ?_ ?_
  · refine g_aload_n (pc := 17) 0 dX4_shut_17 rfl rfl ?_
    refine g_get (pc := 18) rfl foX4_16 (v := .ref (ad 14)) rfl dX4_shut_18 ?_
    refine g_aload_n (pc := 21) 0 dX4_shut_21 rfl rfl ?_
    refine g_get (pc := 22) rfl foX4_10 (v := .ref (ad 2)) rfl dX4_shut_22 ?_
    refine g_cVV (pc := 25) (st := []) [.ref (ad 2)] rfl rfl moX3_take lnX4_134 (ctX3_take ad n 14 2 sT14 sT2 m1) rfl ⟨Nat.le_of_ble_eq_true rfl, Nat.le_of_ble_eq_true rfl⟩ rfl (Nat.le_of_ble_eq_true rfl) dX4_shut_25 (fun r4 m3 => ?_)
    refine g_aload_n (pc := 28) 0 dX4_shut_28 rfl rfl ?_
    refine g_get (pc := 29) rfl foX4_16 (v := .ref (ad 14)) rfl dX4_shut_29 ?_
    refine g_iload_n (pc := 32) 1 dX4_shut_32 rfl rfl ?_
    refine g_cVV (pc := 33) (st := []) [.int a1] rfl rfl moX3_remove lnX4_160 (ctX3_remove ad n 14 sT14 a1 m3) rfl ⟨Nat.le_of_ble_eq_true rfl, Nat.le_of_ble_eq_true rfl⟩ rfl (Nat.le_of_ble_eq_true rfl) dX4_shut_33 (fun r6 m5 => ?_)
    refine g_aload_n (pc := 36) 0 dX4_shut_36 rfl rfl ?_
    refine g_aload_n (pc := 37) 0 dX4_shut_37 rfl rfl ?_
    refine g_get (pc := 38) rfl foX4_16 (v := .ref (ad 14)) rfl dX4_shut_38 ?_
    refine g_cVI (pc := 41) (st := []) [.ref (ad 14)] rfl rfl moX4_neverIn lnX4_127 (ctX4_neverIn ad n 14 sT14 m5) rfl ⟨Nat.le_of_ble_eq_true rfl, Nat.le_of_ble_eq_true rfl⟩ rfl (Nat.le_of_ble_eq_true rfl) dX4_shut_41 (fun r8 m7 => ?_)
    exact g_ireturn (pc := 44) dX4_shut_44 rfl
  · refine g_aload_n (pc := 11) 0 dX4_shut_11 rfl rfl ?_
    refine g_iconst (pc := 12) (-1) dX4_shut_12 (by decide) ?_
    refine g_cVI (pc := 13) (st := []) [.int (-1)] rfl rfl moX4_refuse lnX4_51 (ctX4_refuse ad n (-1) m1) rfl ⟨Nat.le_of_ble_eq_true rfl, Nat.le_of_ble_eq_true rfl⟩ rfl (Nat.le_of_ble_eq_true rfl) dX4_shut_13 (fun r10 m9 => ?_)
    exact g_ireturn (pc := 16) dX4_shut_16 rfl)
-- StopsByLetters.alike(II)I
abbrev kX4_alike : Cfg := (RX4, cX4_alike, 4, (some .int), 1)
theorem dX4_alike_0 : decode cX4_alike 0 = .ok (.iload_n 1, 1) := by decide +kernel
theorem dX4_alike_1 : decode cX4_alike 1 = .ok (.iconst 1, 1) := by decide +kernel
theorem dX4_alike_2 : decode cX4_alike 2 = .ok (.if_icmp .lt 8, 3) := by decide +kernel
theorem dX4_alike_5 : decode cX4_alike 5 = .ok (.iload_n 2, 1) := by decide +kernel
theorem dX4_alike_6 : decode cX4_alike 6 = .ok (.iconst 1, 1) := by decide +kernel
theorem dX4_alike_7 : decode cX4_alike 7 = .ok (.if_icmp .ge 10, 3) := by decide +kernel
theorem dX4_alike_10 : decode cX4_alike 10 = .ok (.aload_n 0, 1) := by decide +kernel
theorem dX4_alike_11 : decode cX4_alike 11 = .ok (.bipush (-4), 2) := by decide +kernel
theorem dX4_alike_13 : decode cX4_alike 13 = .ok (.invokevirtual 51, 3) := by decide +kernel
theorem dX4_alike_16 : decode cX4_alike 16 = .ok (.ireturn, 1) := by decide +kernel
theorem dX4_alike_17 : decode cX4_alike 17 = .ok (.iload_n 1, 1) := by decide +kernel
theorem dX4_alike_18 : decode cX4_alike 18 = .ok (.bipush 60, 2) := by decide +kernel
theorem dX4_alike_20 : decode cX4_alike 20 = .ok (.if_icmp .gt 9, 3) := by decide +kernel
theorem dX4_alike_23 : decode cX4_alike 23 = .ok (.iload_n 2, 1) := by decide +kernel
theorem dX4_alike_24 : decode cX4_alike 24 = .ok (.bipush 99, 2) := by decide +kernel
theorem dX4_alike_26 : decode cX4_alike 26 = .ok (.if_icmp .le 10, 3) := by decide +kernel
theorem dX4_alike_29 : decode cX4_alike 29 = .ok (.aload_n 0, 1) := by decide +kernel
theorem dX4_alike_30 : decode cX4_alike 30 = .ok (.bipush (-6), 2) := by decide +kernel
theorem dX4_alike_32 : decode cX4_alike 32 = .ok (.invokevirtual 51, 3) := by decide +kernel
theorem dX4_alike_35 : decode cX4_alike 35 = .ok (.ireturn, 1) := by decide +kernel
theorem dX4_alike_36 : decode cX4_alike 36 = .ok (.iload_n 1, 1) := by decide +kernel
theorem dX4_alike_37 : decode cX4_alike 37 = .ok (.istore_n 3, 1) := by decide +kernel
theorem dX4_alike_38 : decode cX4_alike 38 = .ok (.iload_n 3, 1) := by decide +kernel
theorem dX4_alike_39 : decode cX4_alike 39 = .ok (.iconst 1, 1) := by decide +kernel
theorem dX4_alike_40 : decode cX4_alike 40 = .ok (.if_icmp .le 23, 3) := by decide +kernel
theorem dX4_alike_43 : decode cX4_alike 43 = .ok (.iload_n 1, 1) := by decide +kernel
theorem dX4_alike_44 : decode cX4_alike 44 = .ok (.iload_n 3, 1) := by decide +kernel
theorem dX4_alike_45 : decode cX4_alike 45 = .ok (.irem, 1) := by decide +kernel
theorem dX4_alike_46 : decode cX4_alike 46 = .ok (.ifCond .ne 11, 3) := by decide +kernel
theorem dX4_alike_49 : decode cX4_alike 49 = .ok (.iload_n 2, 1) := by decide +kernel
theorem dX4_alike_50 : decode cX4_alike 50 = .ok (.iload_n 3, 1) := by decide +kernel
theorem dX4_alike_51 : decode cX4_alike 51 = .ok (.irem, 1) := by decide +kernel
theorem dX4_alike_52 : decode cX4_alike 52 = .ok (.ifCond .ne 5, 3) := by decide +kernel
theorem dX4_alike_55 : decode cX4_alike 55 = .ok (.iload_n 3, 1) := by decide +kernel
theorem dX4_alike_56 : decode cX4_alike 56 = .ok (.ireturn, 1) := by decide +kernel
theorem dX4_alike_57 : decode cX4_alike 57 = .ok (.iinc 3 (-1), 3) := by decide +kernel
theorem dX4_alike_60 : decode cX4_alike 60 = .ok (.goto (-22), 3) := by decide +kernel
theorem dX4_alike_63 : decode cX4_alike 63 = .ok (.iconst 1, 1) := by decide +kernel
theorem dX4_alike_64 : decode cX4_alike 64 = .ok (.ireturn, 1) := by decide +kernel
def fX4_alike_L38 (n : Nat) (v1 : Int32) (v2 : Int32) : Nat → Int32 → Mem → Option (Int32 × Mem)
  | 0, _, _ => none
  | F + 1, v3, μ => if v3 ≤ 1 then some (1, μ) else gd (nz v3) (if (jrem v1 v3) = 0 then gd (nz v3) (if (jrem v2 v3) = 0 then some (v3, μ) else bnd (v3 + (-1)) (fun x6 => fX4_alike_L38 n v1 v2 F x6 μ)) else bnd (v3 + (-1)) (fun x5 => fX4_alike_L38 n v1 v2 F x5 μ))
def fX4_alike (n : Nat) (a1 : Int32) (a2 : Int32) (μ : Mem) : Option (Int32 × Mem) :=
  if a1 < 1 then bd (fX4_refuse n (-4) μ) (fun r2 m1 => some (r2, m1)) else if 1 ≤ a2 then if 60 < a1 then bd (fX4_refuse n (-6) μ) (fun r4 m3 => some (r4, m3)) else if a2 ≤ 99 then fX4_alike_L38 n a1 a2 n a1 μ else bd (fX4_refuse n (-6) μ) (fun r8 m7 => some (r8, m7)) else bd (fX4_refuse n (-4) μ) (fun r10 m9 => some (r10, m9))
set_option maxHeartbeats 4000000 in
set_option maxRecDepth 100000 in
theorem wX4_alike_L38 (ad : Nat → Nat) (n : Nat) (v1 : Int32) (v2 : Int32) : ∀ (F : Nat) (v3 : Int32) (μ : Mem), G kX4_alike ad encI 38 [(1, .int v1), (2, .int v2), (3, .int v3)] [] μ (fX4_alike_L38 n v1 v2 F v3 μ) := by
  intro F
  induction F with
  | zero =>
    intro v3 μ
    exact g_none
  | succ F ih =>
    intro v3 μ
    rw [fX4_alike_L38]
    refine g_iload_n (pc := 38) 2 dX4_alike_38 rfl rfl ?_
    refine g_iconst (pc := 39) 1 dX4_alike_39 (by decide) ?_
    refine g_icmp_le (pc := 40) 63 dX4_alike_40 rfl ?_ ?_
    · refine g_iconst (pc := 63) 1 dX4_alike_63 (by decide) ?_
      exact g_ireturn (pc := 64) dX4_alike_64 rfl
    · refine g_iload_n (pc := 43) 0 dX4_alike_43 rfl rfl ?_
      refine g_iload_n (pc := 44) 2 dX4_alike_44 rfl rfl ?_
      refine g_iremG (pc := 45) dX4_alike_45 ?_
      refine g_if_ne (pc := 46) 57 dX4_alike_46 rfl ?_ ?_
      · refine g_iincB (pc := 57) 2 (-1) (-1) (fun x5 => [(3, .int x5), (1, .int v1), (2, .int v2)]) dX4_alike_57 rfl (by decide) (by decide) (fun _ => rfl) (fun x5 => ?_)
        refine g_goto (pc := 60) 38 dX4_alike_60 rfl ?_
        exact g_sub [1, 2, 0] rfl (ih x5 μ)
      · refine g_iload_n (pc := 49) 1 dX4_alike_49 rfl rfl ?_
        refine g_iload_n (pc := 50) 2 dX4_alike_50 rfl rfl ?_
        refine g_iremG (pc := 51) dX4_alike_51 ?_
        refine g_if_ne (pc := 52) 57 dX4_alike_52 rfl ?_ ?_
        · refine g_iincB (pc := 57) 2 (-1) (-1) (fun x6 => [(3, .int x6), (1, .int v1), (2, .int v2)]) dX4_alike_57 rfl (by decide) (by decide) (fun _ => rfl) (fun x6 => ?_)
          refine g_goto (pc := 60) 38 dX4_alike_60 rfl ?_
          exact g_sub [1, 2, 0] rfl (ih x6 μ)
        · refine g_iload_n (pc := 55) 2 dX4_alike_55 rfl rfl ?_
          exact g_ireturn (pc := 56) dX4_alike_56 rfl
set_option maxHeartbeats 4000000 in
set_option maxRecDepth 100000 in
theorem ctX4_alike (ad : Nat → Nat) (n : Nat) (a1 : Int32) (a2 : Int32) (μ : Mem) : Ct yX4_alike kX4_alike ad encI [.ref (ad 0), .int a1, .int a2] μ (fX4_alike n a1 a2 μ) := Ct.of (by decide +kernel) rfl (Nat.le_of_ble_eq_true rfl) (by
  show G kX4_alike ad encI 0 [(0, .ref (ad 0)), (1, .int a1), (2, .int a2)] [] μ (fX4_alike n a1 a2 μ)
  unfold fX4_alike
  refine g_iload_n (pc := 0) 1 dX4_alike_0 rfl rfl ?_
  refine g_iconst (pc := 1) 1 dX4_alike_1 (by decide) ?_
  refine g_icmp_lt (pc := 2) 10 dX4_alike_2 rfl ?_ ?_
  · refine g_aload_n (pc := 10) 0 dX4_alike_10 rfl rfl ?_
    refine g_bipush (pc := 11) (-4) dX4_alike_11 (by decide) ?_
    refine g_cVI (pc := 13) (st := []) [.int (-4)] rfl rfl moX4_refuse lnX4_51 (ctX4_refuse ad n (-4) μ) rfl ⟨Nat.le_of_ble_eq_true rfl, Nat.le_of_ble_eq_true rfl⟩ rfl (Nat.le_of_ble_eq_true rfl) dX4_alike_13 (fun r2 m1 => ?_)
    exact g_ireturn (pc := 16) dX4_alike_16 rfl
  · refine g_iload_n (pc := 5) 2 dX4_alike_5 rfl rfl ?_
    refine g_iconst (pc := 6) 1 dX4_alike_6 (by decide) ?_
    refine g_icmp_ge (pc := 7) 17 dX4_alike_7 rfl ?_ ?_
    · refine g_iload_n (pc := 17) 1 dX4_alike_17 rfl rfl ?_
      refine g_bipush (pc := 18) 60 dX4_alike_18 (by decide) ?_
      refine g_icmp_gt (pc := 20) 29 dX4_alike_20 rfl ?_ ?_
      · refine g_aload_n (pc := 29) 0 dX4_alike_29 rfl rfl ?_
        refine g_bipush (pc := 30) (-6) dX4_alike_30 (by decide) ?_
        refine g_cVI (pc := 32) (st := []) [.int (-6)] rfl rfl moX4_refuse lnX4_51 (ctX4_refuse ad n (-6) μ) rfl ⟨Nat.le_of_ble_eq_true rfl, Nat.le_of_ble_eq_true rfl⟩ rfl (Nat.le_of_ble_eq_true rfl) dX4_alike_32 (fun r4 m3 => ?_)
        exact g_ireturn (pc := 35) dX4_alike_35 rfl
      · refine g_iload_n (pc := 23) 2 dX4_alike_23 rfl rfl ?_
        refine g_bipush (pc := 24) 99 dX4_alike_24 (by decide) ?_
        refine g_icmp_le (pc := 26) 36 dX4_alike_26 rfl ?_ ?_
        · refine g_iload_n (pc := 36) 1 dX4_alike_36 rfl rfl ?_
          refine g_istore_n (pc := 37) [(3, .int a1), (0, .ref (ad 0)), (1, .int a1), (2, .int a2)] dX4_alike_37 rfl (by decide) rfl ?_
          exact g_sub [2, 3, 0] rfl (wX4_alike_L38 ad n a1 a2 n a1 μ)
        · refine g_aload_n (pc := 29) 0 dX4_alike_29 rfl rfl ?_
          refine g_bipush (pc := 30) (-6) dX4_alike_30 (by decide) ?_
          refine g_cVI (pc := 32) (st := []) [.int (-6)] rfl rfl moX4_refuse lnX4_51 (ctX4_refuse ad n (-6) μ) rfl ⟨Nat.le_of_ble_eq_true rfl, Nat.le_of_ble_eq_true rfl⟩ rfl (Nat.le_of_ble_eq_true rfl) dX4_alike_32 (fun r8 m7 => ?_)
          exact g_ireturn (pc := 35) dX4_alike_35 rfl
    · refine g_aload_n (pc := 10) 0 dX4_alike_10 rfl rfl ?_
      refine g_bipush (pc := 11) (-4) dX4_alike_11 (by decide) ?_
      refine g_cVI (pc := 13) (st := []) [.int (-4)] rfl rfl moX4_refuse lnX4_51 (ctX4_refuse ad n (-4) μ) rfl ⟨Nat.le_of_ble_eq_true rfl, Nat.le_of_ble_eq_true rfl⟩ rfl (Nat.le_of_ble_eq_true rfl) dX4_alike_13 (fun r10 m9 => ?_)
      exact g_ireturn (pc := 16) dX4_alike_16 rfl)
-- StopsByLetters.row(I)I
abbrev kX4_row : Cfg := (RX4, cX4_row, 2, (some .int), 1)
theorem dX4_row_0 : decode cX4_row 0 = .ok (.iload_n 1, 1) := by decide +kernel
theorem dX4_row_1 : decode cX4_row 1 = .ok (.ifCond .ge 10, 3) := by decide +kernel
theorem dX4_row_4 : decode cX4_row 4 = .ok (.aload_n 0, 1) := by decide +kernel
theorem dX4_row_5 : decode cX4_row 5 = .ok (.bipush (-4), 2) := by decide +kernel
theorem dX4_row_7 : decode cX4_row 7 = .ok (.invokevirtual 51, 3) := by decide +kernel
theorem dX4_row_10 : decode cX4_row 10 = .ok (.ireturn, 1) := by decide +kernel
theorem dX4_row_11 : decode cX4_row 11 = .ok (.iload_n 1, 1) := by decide +kernel
theorem dX4_row_12 : decode cX4_row 12 = .ok (.bipush 9, 2) := by decide +kernel
theorem dX4_row_14 : decode cX4_row 14 = .ok (.if_icmp .gt 15, 3) := by decide +kernel
theorem dX4_row_17 : decode cX4_row 17 = .ok (.aload_n 0, 1) := by decide +kernel
theorem dX4_row_18 : decode cX4_row 18 = .ok (.getfield 32, 3) := by decide +kernel
theorem dX4_row_21 : decode cX4_row 21 = .ok (.getfield 163, 3) := by decide +kernel
theorem dX4_row_24 : decode cX4_row 24 = .ok (.bipush 12, 2) := by decide +kernel
theorem dX4_row_26 : decode cX4_row 26 = .ok (.if_icmp .lt 10, 3) := by decide +kernel
theorem dX4_row_29 : decode cX4_row 29 = .ok (.aload_n 0, 1) := by decide +kernel
theorem dX4_row_30 : decode cX4_row 30 = .ok (.bipush (-6), 2) := by decide +kernel
theorem dX4_row_32 : decode cX4_row 32 = .ok (.invokevirtual 51, 3) := by decide +kernel
theorem dX4_row_35 : decode cX4_row 35 = .ok (.ireturn, 1) := by decide +kernel
theorem dX4_row_36 : decode cX4_row 36 = .ok (.aload_n 0, 1) := by decide +kernel
theorem dX4_row_37 : decode cX4_row 37 = .ok (.getfield 32, 3) := by decide +kernel
theorem dX4_row_40 : decode cX4_row 40 = .ok (.iload_n 1, 1) := by decide +kernel
theorem dX4_row_41 : decode cX4_row 41 = .ok (.invokevirtual 164, 3) := by decide +kernel
theorem dX4_row_44 : decode cX4_row 44 = .ok (.aload_n 0, 1) := by decide +kernel
theorem dX4_row_45 : decode cX4_row 45 = .ok (.getfield 32, 3) := by decide +kernel
theorem dX4_row_48 : decode cX4_row 48 = .ok (.getfield 163, 3) := by decide +kernel
theorem dX4_row_51 : decode cX4_row 51 = .ok (.ireturn, 1) := by decide +kernel
theorem foX4_32 : Fo 4 RX4 TX4 8 4 RX4 32 := ⟨rfl, by decide, rfl, uwX4, rfl, Or.inl (tb_in 197 (by decide +kernel) rfl)⟩
theorem foX4_163 : Fo 1 RX1 TX1 2 1 RX4 163 := ⟨rfl, by decide, rfl, uwX1, rfl, Or.inr ⟨RX4, nt_in 163 (by decide +kernel) rfl⟩⟩
theorem lnX4_164 : Ln RX4 164 yX1_append := Or.inr ⟨RX4, nt_in 601 (by decide +kernel) rfl⟩
theorem moX1_append : Mv yX1_append kX1_append 1 := ⟨⟨tb_in 604 (by decide +kernel) rfl, tb_in 90 (by decide +kernel) rfl, ⟨by decide, by decide⟩, by decide +kernel⟩, tb_in 603 (by decide +kernel) rfl, tb_in 42 (by decide +kernel) rfl⟩
def fX4_row (n : Nat) (a1 : Int32) (μ : Mem) : Option (Int32 × Mem) :=
  if 0 ≤ a1 then if 9 < a1 then bd (fX4_refuse n (-6) μ) (fun r2 m1 => some (r2, m1)) else if (μ.1 40 1) < 12 then bd (fX1_append n a1 μ) (fun r4 m3 => some ((m3.1 40 1), m3)) else bd (fX4_refuse n (-6) μ) (fun r6 m5 => some (r6, m5)) else bd (fX4_refuse n (-4) μ) (fun r8 m7 => some (r8, m7))
set_option maxHeartbeats 4000000 in
set_option maxRecDepth 100000 in
theorem ctX4_row (ad : Nat → Nat) (n : Nat) (a1 : Int32) (μ : Mem) : Ct yX4_row kX4_row ad encI [.ref (ad 0), .int a1] μ (fX4_row n a1 μ) := Ct.of (by decide +kernel) rfl (Nat.le_of_ble_eq_true rfl) (by
  show G kX4_row ad encI 0 [(0, .ref (ad 0)), (1, .int a1)] [] μ (fX4_row n a1 μ)
  unfold fX4_row
  refine g_iload_n (pc := 0) 1 dX4_row_0 rfl rfl ?_
  refine g_if_ge (pc := 1) 11 dX4_row_1 rfl ?_ ?_
  · refine g_iload_n (pc := 11) 1 dX4_row_11 rfl rfl ?_
    refine g_bipush (pc := 12) 9 dX4_row_12 (by decide) ?_
    refine g_icmp_gt (pc := 14) 29 dX4_row_14 rfl ?_ ?_
    · refine g_aload_n (pc := 29) 0 dX4_row_29 rfl rfl ?_
      refine g_bipush (pc := 30) (-6) dX4_row_30 (by decide) ?_
      refine g_cVI (pc := 32) (st := []) [.int (-6)] rfl rfl moX4_refuse lnX4_51 (ctX4_refuse ad n (-6) μ) rfl ⟨Nat.le_of_ble_eq_true rfl, Nat.le_of_ble_eq_true rfl⟩ rfl (Nat.le_of_ble_eq_true rfl) dX4_row_32 (fun r2 m1 => ?_)
      exact g_ireturn (pc := 35) dX4_row_35 rfl
    · refine g_aload_n (pc := 17) 0 dX4_row_17 rfl rfl ?_
      refine g_get (pc := 18) rfl foX4_32 (v := .ref (ad 40)) rfl dX4_row_18 ?_
      refine g_get (pc := 21) rfl foX4_163 (v := .int (μ.1 40 1)) rfl dX4_row_21 ?_
      refine g_bipush (pc := 24) 12 dX4_row_24 (by decide) ?_
      refine g_icmp_lt (pc := 26) 36 dX4_row_26 rfl ?_ ?_
      · refine g_aload_n (pc := 36) 0 dX4_row_36 rfl rfl ?_
        refine g_get (pc := 37) rfl foX4_32 (v := .ref (ad 40)) rfl dX4_row_37 ?_
        refine g_iload_n (pc := 40) 1 dX4_row_40 rfl rfl ?_
        refine g_cVV (pc := 41) (st := []) [.int a1] rfl rfl moX1_append lnX4_164 (ctX1_append ad n a1 μ) rfl ⟨Nat.le_of_ble_eq_true rfl, Nat.le_of_ble_eq_true rfl⟩ rfl (Nat.le_of_ble_eq_true rfl) dX4_row_41 (fun r4 m3 => ?_)
        refine g_aload_n (pc := 44) 0 dX4_row_44 rfl rfl ?_
        refine g_get (pc := 45) rfl foX4_32 (v := .ref (ad 40)) rfl dX4_row_45 ?_
        refine g_get (pc := 48) rfl foX4_163 (v := .int (m3.1 40 1)) rfl dX4_row_48 ?_
        exact g_ireturn (pc := 51) dX4_row_51 rfl
      · refine g_aload_n (pc := 29) 0 dX4_row_29 rfl rfl ?_
        refine g_bipush (pc := 30) (-6) dX4_row_30 (by decide) ?_
        refine g_cVI (pc := 32) (st := []) [.int (-6)] rfl rfl moX4_refuse lnX4_51 (ctX4_refuse ad n (-6) μ) rfl ⟨Nat.le_of_ble_eq_true rfl, Nat.le_of_ble_eq_true rfl⟩ rfl (Nat.le_of_ble_eq_true rfl) dX4_row_32 (fun r6 m5 => ?_)
        exact g_ireturn (pc := 35) dX4_row_35 rfl
  · refine g_aload_n (pc := 4) 0 dX4_row_4 rfl rfl ?_
    refine g_bipush (pc := 5) (-4) dX4_row_5 (by decide) ?_
    refine g_cVI (pc := 7) (st := []) [.int (-4)] rfl rfl moX4_refuse lnX4_51 (ctX4_refuse ad n (-4) μ) rfl ⟨Nat.le_of_ble_eq_true rfl, Nat.le_of_ble_eq_true rfl⟩ rfl (Nat.le_of_ble_eq_true rfl) dX4_row_7 (fun r8 m7 => ?_)
    exact g_ireturn (pc := 10) dX4_row_10 rfl)
-- StopsByLetters.gotOn(I)J
abbrev kX4_gotOn : Cfg := (RX4, cX4_gotOn, 2, (some .long), 4)
theorem dX4_gotOn_0 : decode cX4_gotOn 0 = .ok (.iload_n 1, 1) := by decide +kernel
theorem dX4_gotOn_1 : decode cX4_gotOn 1 = .ok (.invokestatic 87, 3) := by decide +kernel
theorem dX4_gotOn_4 : decode cX4_gotOn 4 = .ok (.ifCond .ne 10, 3) := by decide +kernel
theorem dX4_gotOn_7 : decode cX4_gotOn 7 = .ok (.aload_n 0, 1) := by decide +kernel
theorem dX4_gotOn_8 : decode cX4_gotOn 8 = .ok (.bipush (-2), 2) := by decide +kernel
theorem dX4_gotOn_10 : decode cX4_gotOn 10 = .ok (.invokevirtual 101, 3) := by decide +kernel
theorem dX4_gotOn_13 : decode cX4_gotOn 13 = .ok (.lreturn, 1) := by decide +kernel
theorem dX4_gotOn_14 : decode cX4_gotOn 14 = .ok (.aload_n 0, 1) := by decide +kernel
theorem dX4_gotOn_15 : decode cX4_gotOn 15 = .ok (.getfield 32, 3) := by decide +kernel
theorem dX4_gotOn_18 : decode cX4_gotOn 18 = .ok (.getfield 163, 3) := by decide +kernel
theorem dX4_gotOn_21 : decode cX4_gotOn 21 = .ok (.ifCond .ne 10, 3) := by decide +kernel
theorem dX4_gotOn_24 : decode cX4_gotOn 24 = .ok (.aload_n 0, 1) := by decide +kernel
theorem dX4_gotOn_25 : decode cX4_gotOn 25 = .ok (.bipush (-3), 2) := by decide +kernel
theorem dX4_gotOn_27 : decode cX4_gotOn 27 = .ok (.invokevirtual 101, 3) := by decide +kernel
theorem dX4_gotOn_30 : decode cX4_gotOn 30 = .ok (.lreturn, 1) := by decide +kernel
theorem dX4_gotOn_31 : decode cX4_gotOn 31 = .ok (.aload_n 0, 1) := by decide +kernel
theorem dX4_gotOn_32 : decode cX4_gotOn 32 = .ok (.getfield 39, 3) := by decide +kernel
theorem dX4_gotOn_35 : decode cX4_gotOn 35 = .ok (.aload_n 0, 1) := by decide +kernel
theorem dX4_gotOn_36 : decode cX4_gotOn 36 = .ok (.getfield 10, 3) := by decide +kernel
theorem dX4_gotOn_39 : decode cX4_gotOn 39 = .ok (.invokevirtual 93, 3) := by decide +kernel
theorem dX4_gotOn_42 : decode cX4_gotOn 42 = .ok (.aload_n 0, 1) := by decide +kernel
theorem dX4_gotOn_43 : decode cX4_gotOn 43 = .ok (.getfield 39, 3) := by decide +kernel
theorem dX4_gotOn_46 : decode cX4_gotOn 46 = .ok (.aload_n 0, 1) := by decide +kernel
theorem dX4_gotOn_47 : decode cX4_gotOn 47 = .ok (.getfield 32, 3) := by decide +kernel
theorem dX4_gotOn_50 : decode cX4_gotOn 50 = .ok (.invokevirtual 165, 3) := by decide +kernel
theorem dX4_gotOn_53 : decode cX4_gotOn 53 = .ok (.iload_n 1, 1) := by decide +kernel
theorem dX4_gotOn_54 : decode cX4_gotOn 54 = .ok (.ifCond .ne 14, 3) := by decide +kernel
theorem dX4_gotOn_57 : decode cX4_gotOn 57 = .ok (.aload_n 0, 1) := by decide +kernel
theorem dX4_gotOn_58 : decode cX4_gotOn 58 = .ok (.getfield 39, 3) := by decide +kernel
theorem dX4_gotOn_61 : decode cX4_gotOn 61 = .ok (.invokevirtual 169, 3) := by decide +kernel
theorem dX4_gotOn_64 : decode cX4_gotOn 64 = .ok (.i2l, 1) := by decide +kernel
theorem dX4_gotOn_65 : decode cX4_gotOn 65 = .ok (.goto 10, 3) := by decide +kernel
theorem dX4_gotOn_68 : decode cX4_gotOn 68 = .ok (.aload_n 0, 1) := by decide +kernel
theorem dX4_gotOn_69 : decode cX4_gotOn 69 = .ok (.getfield 39, 3) := by decide +kernel
theorem dX4_gotOn_72 : decode cX4_gotOn 72 = .ok (.invokevirtual 172, 3) := by decide +kernel
theorem dX4_gotOn_75 : decode cX4_gotOn 75 = .ok (.lreturn, 1) := by decide +kernel
theorem lnX4_172 : Ln RX4 172 yX0_fittingWays := Or.inr ⟨RX4, nt_in 629 (by decide +kernel) rfl⟩
theorem moX0_fittingWays : Mv yX0_fittingWays kX0_fittingWays 0 := ⟨⟨tb_in 632 (by decide +kernel) rfl, tb_in 91 (by decide +kernel) rfl, ⟨by decide, by decide⟩, by decide +kernel⟩, tb_in 631 (by decide +kernel) rfl, tb_in 48 (by decide +kernel) rfl⟩
theorem lnX4_169 : Ln RX4 169 yX0_fittingStations := Or.inr ⟨RX4, nt_in 625 (by decide +kernel) rfl⟩
theorem moX0_fittingStations : Mv yX0_fittingStations kX0_fittingStations 0 := ⟨⟨tb_in 628 (by decide +kernel) rfl, tb_in 91 (by decide +kernel) rfl, ⟨by decide, by decide⟩, by decide +kernel⟩, tb_in 627 (by decide +kernel) rfl, tb_in 47 (by decide +kernel) rfl⟩
theorem lnX4_165 : Ln RX4 165 yX0_fit := Or.inr ⟨RX4, nt_in 609 (by decide +kernel) rfl⟩
theorem moX0_fit : Mv yX0_fit kX0_fit 1 := ⟨⟨tb_in 612 (by decide +kernel) rfl, tb_in 91 (by decide +kernel) rfl, ⟨by decide, by decide⟩, by decide +kernel⟩, tb_in 611 (by decide +kernel) rfl, tb_in 43 (by decide +kernel) rfl⟩
def fX4_gotOn (n : Nat) (a1 : Int32) (μ : Mem) : Option (Int64 × Mem) :=
  bd (fX4_isChoice n a1 μ) (fun r2 m1 => if r2 = 0 then bd (fX4_refuseLong n (-2) m1) (fun r14 m13 => some (r14, m13)) else if (m1.1 40 1) = 0 then bd (fX4_refuseLong n (-3) m1) (fun r12 m11 => some (r12, m11)) else bd (fX0_lay n 2 m1) (fun r4 m3 => bd (fX0_fit n m3) (fun r6 m5 => if a1 = 0 then bd (fX0_fittingStations n m5) (fun r10 m9 => some (r10.toInt64, m9)) else bd (fX0_fittingWays n m5) (fun r8 m7 => some (r8, m7)))))
set_option maxHeartbeats 4000000 in
set_option maxRecDepth 100000 in
theorem ctX4_gotOn (ad : Nat → Nat) (n : Nat) (a1 : Int32) (μ : Mem) : Ct yX4_gotOn kX4_gotOn ad encJ [.ref (ad 0), .int a1] μ (fX4_gotOn n a1 μ) := Ct.of (by decide +kernel) rfl (Nat.le_of_ble_eq_true rfl) (by
  show G kX4_gotOn ad encJ 0 [(0, .ref (ad 0)), (1, .int a1)] [] μ (fX4_gotOn n a1 μ)
  unfold fX4_gotOn
  refine g_iload_n (pc := 0) 1 dX4_gotOn_0 rfl rfl ?_
  refine g_cSI (pc := 1) (st := []) [.int a1] moX4_isChoice lnX4_87 (ctX4_isChoice ad n a1 μ) rfl ⟨Nat.le_of_ble_eq_true rfl, Nat.le_of_ble_eq_true rfl⟩ rfl (Nat.le_of_ble_eq_true rfl) dX4_gotOn_1 (fun r2 m1 => ?_)
  refine g_if_ne (pc := 4) 14 dX4_gotOn_4 rfl ?_ ?_
  · refine g_aload_n (pc := 14) 0 dX4_gotOn_14 rfl rfl ?_
    refine g_get (pc := 15) rfl foX4_32 (v := .ref (ad 40)) rfl dX4_gotOn_15 ?_
    refine g_get (pc := 18) rfl foX4_163 (v := .int (m1.1 40 1)) rfl dX4_gotOn_18 ?_
    refine g_if_ne (pc := 21) 31 dX4_gotOn_21 rfl ?_ ?_
    · refine g_aload_n (pc := 31) 0 dX4_gotOn_31 rfl rfl ?_
      refine g_get (pc := 32) rfl foX4_39 (v := .ref (ad 42)) rfl dX4_gotOn_32 ?_
      refine g_aload_n (pc := 35) 0 dX4_gotOn_35 rfl rfl ?_
      refine g_get (pc := 36) rfl foX4_10 (v := .ref (ad 2)) rfl dX4_gotOn_36 ?_
      refine g_cVV (pc := 39) (st := []) [.ref (ad 2)] rfl rfl moX0_lay lnX4_93 (ctX0_lay ad n 2 sT2 m1) rfl ⟨Nat.le_of_ble_eq_true rfl, Nat.le_of_ble_eq_true rfl⟩ rfl (Nat.le_of_ble_eq_true rfl) dX4_gotOn_39 (fun r4 m3 => ?_)
      refine g_aload_n (pc := 42) 0 dX4_gotOn_42 rfl rfl ?_
      refine g_get (pc := 43) rfl foX4_39 (v := .ref (ad 42)) rfl dX4_gotOn_43 ?_
      refine g_aload_n (pc := 46) 0 dX4_gotOn_46 rfl rfl ?_
      refine g_get (pc := 47) rfl foX4_32 (v := .ref (ad 40)) rfl dX4_gotOn_47 ?_
      refine g_cVV (pc := 50) (st := []) [.ref (ad 40)] rfl rfl moX0_fit lnX4_165 (ctX0_fit ad n m3) rfl ⟨Nat.le_of_ble_eq_true rfl, Nat.le_of_ble_eq_true rfl⟩ rfl (Nat.le_of_ble_eq_true rfl) dX4_gotOn_50 (fun r6 m5 => ?_)
      refine g_iload_n (pc := 53) 1 dX4_gotOn_53 rfl rfl ?_
      refine g_if_ne (pc := 54) 68 dX4_gotOn_54 rfl ?_ ?_
      · refine g_aload_n (pc := 68) 0 dX4_gotOn_68 rfl rfl ?_
        refine g_get (pc := 69) rfl foX4_39 (v := .ref (ad 42)) rfl dX4_gotOn_69 ?_
        refine g_cVJ (pc := 72) (st := []) [] rfl rfl moX0_fittingWays lnX4_172 (ctX0_fittingWays ad n m5) rfl ⟨Nat.le_of_ble_eq_true rfl, Nat.le_of_ble_eq_true rfl⟩ rfl (Nat.le_of_ble_eq_true rfl) dX4_gotOn_72 (fun r8 m7 => ?_)
        exact g_lreturn (pc := 75) dX4_gotOn_75 rfl
      · refine g_aload_n (pc := 57) 0 dX4_gotOn_57 rfl rfl ?_
        refine g_get (pc := 58) rfl foX4_39 (v := .ref (ad 42)) rfl dX4_gotOn_58 ?_
        refine g_cVI (pc := 61) (st := []) [] rfl rfl moX0_fittingStations lnX4_169 (ctX0_fittingStations ad n m5) rfl ⟨Nat.le_of_ble_eq_true rfl, Nat.le_of_ble_eq_true rfl⟩ rfl (Nat.le_of_ble_eq_true rfl) dX4_gotOn_61 (fun r10 m9 => ?_)
        refine g_i2l (pc := 64) dX4_gotOn_64 ?_
        refine g_goto (pc := 65) 75 dX4_gotOn_65 rfl ?_
        exact g_lreturn (pc := 75) dX4_gotOn_75 rfl
    · refine g_aload_n (pc := 24) 0 dX4_gotOn_24 rfl rfl ?_
      refine g_bipush (pc := 25) (-3) dX4_gotOn_25 (by decide) ?_
      refine g_cVJ (pc := 27) (st := []) [.int (-3)] rfl rfl moX4_refuseLong lnX4_101 (ctX4_refuseLong ad n (-3) m1) rfl ⟨Nat.le_of_ble_eq_true rfl, Nat.le_of_ble_eq_true rfl⟩ rfl (Nat.le_of_ble_eq_true rfl) dX4_gotOn_27 (fun r12 m11 => ?_)
      exact g_lreturn (pc := 30) dX4_gotOn_30 rfl
  · refine g_aload_n (pc := 7) 0 dX4_gotOn_7 rfl rfl ?_
    refine g_bipush (pc := 8) (-2) dX4_gotOn_8 (by decide) ?_
    refine g_cVJ (pc := 10) (st := []) [.int (-2)] rfl rfl moX4_refuseLong lnX4_101 (ctX4_refuseLong ad n (-2) m1) rfl ⟨Nat.le_of_ble_eq_true rfl, Nat.le_of_ble_eq_true rfl⟩ rfl (Nat.le_of_ble_eq_true rfl) dX4_gotOn_10 (fun r14 m13 => ?_)
    exact g_lreturn (pc := 13) dX4_gotOn_13 rfl)
-- StopsByLetters.someWayFits(LStopsByLetters$Stations;)Z
abbrev kX4_someWayFits : Cfg := (RX4, cX4_someWayFits, 2, (some .boolean), 4)
theorem dX4_someWayFits_0 : decode cX4_someWayFits 0 = .ok (.aload_n 0, 1) := by decide +kernel
theorem dX4_someWayFits_1 : decode cX4_someWayFits 1 = .ok (.getfield 39, 3) := by decide +kernel
theorem dX4_someWayFits_4 : decode cX4_someWayFits 4 = .ok (.aload_n 1, 1) := by decide +kernel
theorem dX4_someWayFits_5 : decode cX4_someWayFits 5 = .ok (.invokevirtual 93, 3) := by decide +kernel
theorem dX4_someWayFits_8 : decode cX4_someWayFits 8 = .ok (.aload_n 0, 1) := by decide +kernel
theorem dX4_someWayFits_9 : decode cX4_someWayFits 9 = .ok (.getfield 39, 3) := by decide +kernel
theorem dX4_someWayFits_12 : decode cX4_someWayFits 12 = .ok (.aload_n 0, 1) := by decide +kernel
theorem dX4_someWayFits_13 : decode cX4_someWayFits 13 = .ok (.getfield 32, 3) := by decide +kernel
theorem dX4_someWayFits_16 : decode cX4_someWayFits 16 = .ok (.invokevirtual 165, 3) := by decide +kernel
theorem dX4_someWayFits_19 : decode cX4_someWayFits 19 = .ok (.aload_n 0, 1) := by decide +kernel
theorem dX4_someWayFits_20 : decode cX4_someWayFits 20 = .ok (.getfield 39, 3) := by decide +kernel
theorem dX4_someWayFits_23 : decode cX4_someWayFits 23 = .ok (.invokevirtual 169, 3) := by decide +kernel
theorem dX4_someWayFits_26 : decode cX4_someWayFits 26 = .ok (.ifCond .eq 7, 3) := by decide +kernel
theorem dX4_someWayFits_29 : decode cX4_someWayFits 29 = .ok (.iconst 1, 1) := by decide +kernel
theorem dX4_someWayFits_30 : decode cX4_someWayFits 30 = .ok (.goto 4, 3) := by decide +kernel
theorem dX4_someWayFits_33 : decode cX4_someWayFits 33 = .ok (.iconst 0, 1) := by decide +kernel
theorem dX4_someWayFits_34 : decode cX4_someWayFits 34 = .ok (.ireturn, 1) := by decide +kernel
def fX4_someWayFits (n : Nat) (k1 : Nat) (μ : Mem) : Option (Int32 × Mem) :=
  bd (fX0_lay n k1 μ) (fun r2 m1 => bd (fX0_fit n m1) (fun r4 m3 => bd (fX0_fittingStations n m3) (fun r6 m5 => if r6 = 0 then some (0, m5) else some (1, m5))))
set_option maxHeartbeats 4000000 in
set_option maxRecDepth 100000 in
theorem ctX4_someWayFits (ad : Nat → Nat) (n : Nat) (k1 : Nat) (h1 : St k1) (μ : Mem) : Ct yX4_someWayFits kX4_someWayFits ad encI [.ref (ad 0), .ref (ad k1)] μ (fX4_someWayFits n k1 μ) := Ct.of (by decide +kernel) rfl (Nat.le_of_ble_eq_true rfl) (by
  show G kX4_someWayFits ad encI 0 [(0, .ref (ad 0)), (1, .ref (ad k1))] [] μ (fX4_someWayFits n k1 μ)
  unfold fX4_someWayFits
  refine g_aload_n (pc := 0) 0 dX4_someWayFits_0 rfl rfl ?_
  refine g_get (pc := 1) rfl foX4_39 (v := .ref (ad 42)) rfl dX4_someWayFits_1 ?_
  refine g_aload_n (pc := 4) 1 dX4_someWayFits_4 rfl rfl ?_
  refine g_cVV (pc := 5) (st := []) [.ref (ad k1)] rfl rfl moX0_lay lnX4_93 (ctX0_lay ad n k1 h1 μ) rfl ⟨Nat.le_of_ble_eq_true rfl, Nat.le_of_ble_eq_true rfl⟩ rfl (Nat.le_of_ble_eq_true rfl) dX4_someWayFits_5 (fun r2 m1 => ?_)
  refine g_aload_n (pc := 8) 0 dX4_someWayFits_8 rfl rfl ?_
  refine g_get (pc := 9) rfl foX4_39 (v := .ref (ad 42)) rfl dX4_someWayFits_9 ?_
  refine g_aload_n (pc := 12) 0 dX4_someWayFits_12 rfl rfl ?_
  refine g_get (pc := 13) rfl foX4_32 (v := .ref (ad 40)) rfl dX4_someWayFits_13 ?_
  refine g_cVV (pc := 16) (st := []) [.ref (ad 40)] rfl rfl moX0_fit lnX4_165 (ctX0_fit ad n m1) rfl ⟨Nat.le_of_ble_eq_true rfl, Nat.le_of_ble_eq_true rfl⟩ rfl (Nat.le_of_ble_eq_true rfl) dX4_someWayFits_16 (fun r4 m3 => ?_)
  refine g_aload_n (pc := 19) 0 dX4_someWayFits_19 rfl rfl ?_
  refine g_get (pc := 20) rfl foX4_39 (v := .ref (ad 42)) rfl dX4_someWayFits_20 ?_
  refine g_cVI (pc := 23) (st := []) [] rfl rfl moX0_fittingStations lnX4_169 (ctX0_fittingStations ad n m3) rfl ⟨Nat.le_of_ble_eq_true rfl, Nat.le_of_ble_eq_true rfl⟩ rfl (Nat.le_of_ble_eq_true rfl) dX4_someWayFits_23 (fun r6 m5 => ?_)
  refine g_if_eq (pc := 26) 33 dX4_someWayFits_26 rfl ?_ ?_
  · refine g_iconst (pc := 33) 0 dX4_someWayFits_33 (by decide) ?_
    exact g_zreturn (pc := 34) (by decide) dX4_someWayFits_34 rfl
  · refine g_iconst (pc := 29) 1 dX4_someWayFits_29 (by decide) ?_
    refine g_goto (pc := 30) 34 dX4_someWayFits_30 rfl ?_
    exact g_zreturn (pc := 34) (by decide) dX4_someWayFits_34 rfl)
-- StopsByLetters.canBeMisspelt(I)Z
abbrev kX4_canBeMisspelt : Cfg := (RX4, cX4_canBeMisspelt, 3, (some .boolean), 5)
theorem dX4_canBeMisspelt_0 : decode cX4_canBeMisspelt 0 = .ok (.iconst 1, 1) := by decide +kernel
theorem dX4_canBeMisspelt_1 : decode cX4_canBeMisspelt 1 = .ok (.istore_n 2, 1) := by decide +kernel
theorem dX4_canBeMisspelt_2 : decode cX4_canBeMisspelt 2 = .ok (.iload_n 2, 1) := by decide +kernel
theorem dX4_canBeMisspelt_3 : decode cX4_canBeMisspelt 3 = .ok (.bipush 9, 2) := by decide +kernel
theorem dX4_canBeMisspelt_5 : decode cX4_canBeMisspelt 5 = .ok (.if_icmp .gt 58, 3) := by decide +kernel
theorem dX4_canBeMisspelt_8 : decode cX4_canBeMisspelt 8 = .ok (.iload_n 2, 1) := by decide +kernel
theorem dX4_canBeMisspelt_9 : decode cX4_canBeMisspelt 9 = .ok (.aload_n 0, 1) := by decide +kernel
theorem dX4_canBeMisspelt_10 : decode cX4_canBeMisspelt 10 = .ok (.getfield 10, 3) := by decide +kernel
theorem dX4_canBeMisspelt_13 : decode cX4_canBeMisspelt 13 = .ok (.getfield 74, 3) := by decide +kernel
theorem dX4_canBeMisspelt_16 : decode cX4_canBeMisspelt 16 = .ok (.iload_n 1, 1) := by decide +kernel
theorem dX4_canBeMisspelt_17 : decode cX4_canBeMisspelt 17 = .ok (.iaload, 1) := by decide +kernel
theorem dX4_canBeMisspelt_18 : decode cX4_canBeMisspelt 18 = .ok (.if_icmp .ne 6, 3) := by decide +kernel
theorem dX4_canBeMisspelt_21 : decode cX4_canBeMisspelt 21 = .ok (.goto 36, 3) := by decide +kernel
theorem dX4_canBeMisspelt_24 : decode cX4_canBeMisspelt 24 = .ok (.aload_n 0, 1) := by decide +kernel
theorem dX4_canBeMisspelt_25 : decode cX4_canBeMisspelt 25 = .ok (.getfield 16, 3) := by decide +kernel
theorem dX4_canBeMisspelt_28 : decode cX4_canBeMisspelt 28 = .ok (.aload_n 0, 1) := by decide +kernel
theorem dX4_canBeMisspelt_29 : decode cX4_canBeMisspelt 29 = .ok (.getfield 10, 3) := by decide +kernel
theorem dX4_canBeMisspelt_32 : decode cX4_canBeMisspelt 32 = .ok (.invokevirtual 134, 3) := by decide +kernel
theorem dX4_canBeMisspelt_35 : decode cX4_canBeMisspelt 35 = .ok (.aload_n 0, 1) := by decide +kernel
theorem dX4_canBeMisspelt_36 : decode cX4_canBeMisspelt 36 = .ok (.getfield 16, 3) := by decide +kernel
theorem dX4_canBeMisspelt_39 : decode cX4_canBeMisspelt 39 = .ok (.iload_n 1, 1) := by decide +kernel
theorem dX4_canBeMisspelt_40 : decode cX4_canBeMisspelt 40 = .ok (.iload_n 2, 1) := by decide +kernel
theorem dX4_canBeMisspelt_41 : decode cX4_canBeMisspelt 41 = .ok (.invokevirtual 203, 3) := by decide +kernel
theorem dX4_canBeMisspelt_44 : decode cX4_canBeMisspelt 44 = .ok (.aload_n 0, 1) := by decide +kernel
theorem dX4_canBeMisspelt_45 : decode cX4_canBeMisspelt 45 = .ok (.aload_n 0, 1) := by decide +kernel
theorem dX4_canBeMisspelt_46 : decode cX4_canBeMisspelt 46 = .ok (.getfield 16, 3) := by decide +kernel
theorem dX4_canBeMisspelt_49 : decode cX4_canBeMisspelt 49 = .ok (.invokevirtual 176, 3) := by decide +kernel
theorem dX4_canBeMisspelt_52 : decode cX4_canBeMisspelt 52 = .ok (.ifCond .eq 5, 3) := by decide +kernel
theorem dX4_canBeMisspelt_55 : decode cX4_canBeMisspelt 55 = .ok (.iconst 1, 1) := by decide +kernel
theorem dX4_canBeMisspelt_56 : decode cX4_canBeMisspelt 56 = .ok (.ireturn, 1) := by decide +kernel
theorem dX4_canBeMisspelt_57 : decode cX4_canBeMisspelt 57 = .ok (.iinc 2 1, 3) := by decide +kernel
theorem dX4_canBeMisspelt_60 : decode cX4_canBeMisspelt 60 = .ok (.goto (-58), 3) := by decide +kernel
theorem dX4_canBeMisspelt_63 : decode cX4_canBeMisspelt 63 = .ok (.iconst 0, 1) := by decide +kernel
theorem dX4_canBeMisspelt_64 : decode cX4_canBeMisspelt 64 = .ok (.ireturn, 1) := by decide +kernel
theorem lnX4_176 : Ln RX4 176 yX4_someWayFits := Or.inl (tb_in 637 (by decide +kernel) rfl)
theorem moX4_someWayFits : Mv yX4_someWayFits kX4_someWayFits 1 := ⟨⟨tb_in 640 (by decide +kernel) rfl, tb_in 87 (by decide +kernel) rfl, ⟨by decide, by decide⟩, by decide +kernel⟩, tb_in 639 (by decide +kernel) rfl, tb_in 49 (by decide +kernel) rfl⟩
theorem lnX4_203 : Ln RX4 203 yX3_spell := Or.inr ⟨RX4, nt_in 645 (by decide +kernel) rfl⟩
def fX4_canBeMisspelt_L2 (n : Nat) (v1 : Int32) : Nat → Int32 → Mem → Option (Int32 × Mem)
  | 0, _, _ => none
  | F + 1, v2, μ => if 9 < v2 then some (0, μ) else gd (inb v1 8) (if v2 = (μ.1 4 (Int32.toNatClampNeg v1)) then bnd (v2 + 1) (fun x8 => fX4_canBeMisspelt_L2 n v1 F x8 μ) else bd (fX3_take n 14 2 μ) (fun r2 m1 => bd (fX3_spell n 14 v1 v2 m1) (fun r4 m3 => bd (fX4_someWayFits n 14 m3) (fun r6 m5 => if r6 = 0 then bnd (v2 + 1) (fun x7 => fX4_canBeMisspelt_L2 n v1 F x7 m5) else some (1, m5)))))
def fX4_canBeMisspelt (n : Nat) (a1 : Int32) (μ : Mem) : Option (Int32 × Mem) :=
  fX4_canBeMisspelt_L2 n a1 n 1 μ
set_option maxHeartbeats 4000000 in
set_option maxRecDepth 100000 in
theorem wX4_canBeMisspelt_L2 (ad : Nat → Nat) (n : Nat) (v1 : Int32) : ∀ (F : Nat) (v2 : Int32) (μ : Mem), G kX4_canBeMisspelt ad encI 2 [(0, .ref (ad 0)), (1, .int v1), (2, .int v2)] [] μ (fX4_canBeMisspelt_L2 n v1 F v2 μ) := by
  intro F
  induction F with
  | zero =>
    intro v2 μ
    exact g_none
  | succ F ih =>
    intro v2 μ
    rw [fX4_canBeMisspelt_L2]
    refine g_iload_n (pc := 2) 2 dX4_canBeMisspelt_2 rfl rfl ?_
    refine g_bipush (pc := 3) 9 dX4_canBeMisspelt_3 (by decide) ?_
    refine g_icmp_gt (pc := 5) 63 dX4_canBeMisspelt_5 rfl ?_ ?_
    · refine g_iconst (pc := 63) 0 dX4_canBeMisspelt_63 (by decide) ?_
      exact g_zreturn (pc := 64) (by decide) dX4_canBeMisspelt_64 rfl
    · refine g_iload_n (pc := 8) 2 dX4_canBeMisspelt_8 rfl rfl ?_
      refine g_aload_n (pc := 9) 0 dX4_canBeMisspelt_9 rfl rfl ?_
      refine g_get (pc := 10) rfl foX4_10 (v := .ref (ad 2)) rfl dX4_canBeMisspelt_10 ?_
      refine g_get (pc := 13) rfl foX4_74 (v := .ref (ad 4)) rfl dX4_canBeMisspelt_13 ?_
      refine g_iload_n (pc := 16) 1 dX4_canBeMisspelt_16 rfl rfl ?_
      refine g_iald (pc := 17) rfl (by decide) dX4_canBeMisspelt_17 ?_
      refine g_icmp_ne (pc := 18) 24 dX4_canBeMisspelt_18 rfl ?_ ?_
      · refine g_aload_n (pc := 24) 0 dX4_canBeMisspelt_24 rfl rfl ?_
        refine g_get (pc := 25) rfl foX4_16 (v := .ref (ad 14)) rfl dX4_canBeMisspelt_25 ?_
        refine g_aload_n (pc := 28) 0 dX4_canBeMisspelt_28 rfl rfl ?_
        refine g_get (pc := 29) rfl foX4_10 (v := .ref (ad 2)) rfl dX4_canBeMisspelt_29 ?_
        refine g_cVV (pc := 32) (st := []) [.ref (ad 2)] rfl rfl moX3_take lnX4_134 (ctX3_take ad n 14 2 sT14 sT2 μ) rfl ⟨Nat.le_of_ble_eq_true rfl, Nat.le_of_ble_eq_true rfl⟩ rfl (Nat.le_of_ble_eq_true rfl) dX4_canBeMisspelt_32 (fun r2 m1 => ?_)
        refine g_aload_n (pc := 35) 0 dX4_canBeMisspelt_35 rfl rfl ?_
        refine g_get (pc := 36) rfl foX4_16 (v := .ref (ad 14)) rfl dX4_canBeMisspelt_36 ?_
        refine g_iload_n (pc := 39) 1 dX4_canBeMisspelt_39 rfl rfl ?_
        refine g_iload_n (pc := 40) 2 dX4_canBeMisspelt_40 rfl rfl ?_
        refine g_cVV (pc := 41) (st := []) [.int v1, .int v2] rfl rfl moX3_spell lnX4_203 (ctX3_spell ad n 14 sT14 v1 v2 m1) rfl ⟨Nat.le_of_ble_eq_true rfl, Nat.le_of_ble_eq_true rfl⟩ rfl (Nat.le_of_ble_eq_true rfl) dX4_canBeMisspelt_41 (fun r4 m3 => ?_)
        refine g_aload_n (pc := 44) 0 dX4_canBeMisspelt_44 rfl rfl ?_
        refine g_aload_n (pc := 45) 0 dX4_canBeMisspelt_45 rfl rfl ?_
        refine g_get (pc := 46) rfl foX4_16 (v := .ref (ad 14)) rfl dX4_canBeMisspelt_46 ?_
        refine g_cVI (pc := 49) (st := []) [.ref (ad 14)] rfl rfl moX4_someWayFits lnX4_176 (ctX4_someWayFits ad n 14 sT14 m3) rfl ⟨Nat.le_of_ble_eq_true rfl, Nat.le_of_ble_eq_true rfl⟩ rfl (Nat.le_of_ble_eq_true rfl) dX4_canBeMisspelt_49 (fun r6 m5 => ?_)
        refine g_if_eq (pc := 52) 57 dX4_canBeMisspelt_52 rfl ?_ ?_
        · refine g_iincB (pc := 57) 2 1 1 (fun x7 => [(2, .int x7), (0, .ref (ad 0)), (1, .int v1)]) dX4_canBeMisspelt_57 rfl (by decide) (by decide) (fun _ => rfl) (fun x7 => ?_)
          refine g_goto (pc := 60) 2 dX4_canBeMisspelt_60 rfl ?_
          exact g_sub [1, 2, 0] rfl (ih x7 m5)
        · refine g_iconst (pc := 55) 1 dX4_canBeMisspelt_55 (by decide) ?_
          exact g_zreturn (pc := 56) (by decide) dX4_canBeMisspelt_56 rfl
      · refine g_goto (pc := 21) 57 dX4_canBeMisspelt_21 rfl ?_
        refine g_iincB (pc := 57) 2 1 1 (fun x8 => [(2, .int x8), (0, .ref (ad 0)), (1, .int v1)]) dX4_canBeMisspelt_57 rfl (by decide) (by decide) (fun _ => rfl) (fun x8 => ?_)
        refine g_goto (pc := 60) 2 dX4_canBeMisspelt_60 rfl ?_
        exact g_sub [1, 2, 0] rfl (ih x8 μ)
set_option maxHeartbeats 4000000 in
set_option maxRecDepth 100000 in
theorem ctX4_canBeMisspelt (ad : Nat → Nat) (n : Nat) (a1 : Int32) (μ : Mem) : Ct yX4_canBeMisspelt kX4_canBeMisspelt ad encI [.ref (ad 0), .int a1] μ (fX4_canBeMisspelt n a1 μ) := Ct.of (by decide +kernel) rfl (Nat.le_of_ble_eq_true rfl) (by
  show G kX4_canBeMisspelt ad encI 0 [(0, .ref (ad 0)), (1, .int a1)] [] μ (fX4_canBeMisspelt n a1 μ)
  unfold fX4_canBeMisspelt
  refine g_iconst (pc := 0) 1 dX4_canBeMisspelt_0 (by decide) ?_
  refine g_istore_n (pc := 1) [(2, .int 1), (0, .ref (ad 0)), (1, .int a1)] dX4_canBeMisspelt_1 rfl (by decide) rfl ?_
  exact g_sub [1, 2, 0] rfl (wX4_canBeMisspelt_L2 ad n a1 n 1 μ))
-- StopsByLetters.misspelt()I
abbrev kX4_misspelt : Cfg := (RX4, cX4_misspelt, 3, (some .int), 6)
theorem dX4_misspelt_0 : decode cX4_misspelt 0 = .ok (.aload_n 0, 1) := by decide +kernel
theorem dX4_misspelt_1 : decode cX4_misspelt 1 = .ok (.getfield 32, 3) := by decide +kernel
theorem dX4_misspelt_4 : decode cX4_misspelt 4 = .ok (.getfield 163, 3) := by decide +kernel
theorem dX4_misspelt_7 : decode cX4_misspelt 7 = .ok (.ifCond .ne 10, 3) := by decide +kernel
theorem dX4_misspelt_10 : decode cX4_misspelt 10 = .ok (.aload_n 0, 1) := by decide +kernel
theorem dX4_misspelt_11 : decode cX4_misspelt 11 = .ok (.bipush (-3), 2) := by decide +kernel
theorem dX4_misspelt_13 : decode cX4_misspelt 13 = .ok (.invokevirtual 51, 3) := by decide +kernel
theorem dX4_misspelt_16 : decode cX4_misspelt 16 = .ok (.ireturn, 1) := by decide +kernel
theorem dX4_misspelt_17 : decode cX4_misspelt 17 = .ok (.aload_n 0, 1) := by decide +kernel
theorem dX4_misspelt_18 : decode cX4_misspelt 18 = .ok (.aload_n 0, 1) := by decide +kernel
theorem dX4_misspelt_19 : decode cX4_misspelt 19 = .ok (.getfield 10, 3) := by decide +kernel
theorem dX4_misspelt_22 : decode cX4_misspelt 22 = .ok (.invokevirtual 176, 3) := by decide +kernel
theorem dX4_misspelt_25 : decode cX4_misspelt 25 = .ok (.ifCond .eq 5, 3) := by decide +kernel
theorem dX4_misspelt_28 : decode cX4_misspelt 28 = .ok (.iconst 0, 1) := by decide +kernel
theorem dX4_misspelt_29 : decode cX4_misspelt 29 = .ok (.ireturn, 1) := by decide +kernel
theorem dX4_misspelt_30 : decode cX4_misspelt 30 = .ok (.iconst 0, 1) := by decide +kernel
theorem dX4_misspelt_31 : decode cX4_misspelt 31 = .ok (.istore_n 1, 1) := by decide +kernel
theorem dX4_misspelt_32 : decode cX4_misspelt 32 = .ok (.iconst 0, 1) := by decide +kernel
theorem dX4_misspelt_33 : decode cX4_misspelt 33 = .ok (.istore_n 2, 1) := by decide +kernel
theorem dX4_misspelt_34 : decode cX4_misspelt 34 = .ok (.iload_n 2, 1) := by decide +kernel
theorem dX4_misspelt_35 : decode cX4_misspelt 35 = .ok (.aload_n 0, 1) := by decide +kernel
theorem dX4_misspelt_36 : decode cX4_misspelt 36 = .ok (.getfield 10, 3) := by decide +kernel
theorem dX4_misspelt_39 : decode cX4_misspelt 39 = .ok (.getfield 141, 3) := by decide +kernel
theorem dX4_misspelt_42 : decode cX4_misspelt 42 = .ok (.if_icmp .ge 23, 3) := by decide +kernel
theorem dX4_misspelt_45 : decode cX4_misspelt 45 = .ok (.aload_n 0, 1) := by decide +kernel
theorem dX4_misspelt_46 : decode cX4_misspelt 46 = .ok (.iload_n 2, 1) := by decide +kernel
theorem dX4_misspelt_47 : decode cX4_misspelt 47 = .ok (.invokevirtual 180, 3) := by decide +kernel
theorem dX4_misspelt_50 : decode cX4_misspelt 50 = .ok (.ifCond .eq 9, 3) := by decide +kernel
theorem dX4_misspelt_53 : decode cX4_misspelt 53 = .ok (.iload_n 1, 1) := by decide +kernel
theorem dX4_misspelt_54 : decode cX4_misspelt 54 = .ok (.iconst 1, 1) := by decide +kernel
theorem dX4_misspelt_55 : decode cX4_misspelt 55 = .ok (.iload_n 2, 1) := by decide +kernel
theorem dX4_misspelt_56 : decode cX4_misspelt 56 = .ok (.ishl, 1) := by decide +kernel
theorem dX4_misspelt_57 : decode cX4_misspelt 57 = .ok (.ior, 1) := by decide +kernel
theorem dX4_misspelt_58 : decode cX4_misspelt 58 = .ok (.istore_n 1, 1) := by decide +kernel
theorem dX4_misspelt_59 : decode cX4_misspelt 59 = .ok (.iinc 2 1, 3) := by decide +kernel
theorem dX4_misspelt_62 : decode cX4_misspelt 62 = .ok (.goto (-28), 3) := by decide +kernel
theorem dX4_misspelt_65 : decode cX4_misspelt 65 = .ok (.iload_n 1, 1) := by decide +kernel
theorem dX4_misspelt_66 : decode cX4_misspelt 66 = .ok (.ireturn, 1) := by decide +kernel
theorem lnX4_180 : Ln RX4 180 yX4_canBeMisspelt := Or.inl (tb_in 641 (by decide +kernel) rfl)
theorem moX4_canBeMisspelt : Mv yX4_canBeMisspelt kX4_canBeMisspelt 1 := ⟨⟨tb_in 644 (by decide +kernel) rfl, tb_in 87 (by decide +kernel) rfl, ⟨by decide, by decide⟩, by decide +kernel⟩, tb_in 643 (by decide +kernel) rfl, tb_in 50 (by decide +kernel) rfl⟩
def fX4_misspelt_L34 (n : Nat) : Nat → Int32 → Int32 → Mem → Option (Int32 × Mem)
  | 0, _, _, _ => none
  | F + 1, v1, v2, μ => if (μ.1 2 3) ≤ v2 then some (v1, μ) else bd (fX4_canBeMisspelt n v2 μ) (fun r4 m3 => if r4 = 0 then bnd (v2 + 1) (fun x5 => fX4_misspelt_L34 n F v1 x5 m3) else bnd (v1 ||| (jshl 1 v2)) (fun x6 => bnd (v2 + 1) (fun x7 => fX4_misspelt_L34 n F x6 x7 m3)))
def fX4_misspelt (n : Nat) (μ : Mem) : Option (Int32 × Mem) :=
  if (μ.1 40 1) = 0 then bd (fX4_refuse n (-3) μ) (fun r9 m8 => some (r9, m8)) else bd (fX4_someWayFits n 2 μ) (fun r2 m1 => if r2 = 0 then fX4_misspelt_L34 n n 0 0 m1 else some (0, m1))
set_option maxHeartbeats 4000000 in
set_option maxRecDepth 100000 in
theorem wX4_misspelt_L34 (ad : Nat → Nat) (n : Nat) : ∀ (F : Nat) (v1 : Int32) (v2 : Int32) (μ : Mem), G kX4_misspelt ad encI 34 [(0, .ref (ad 0)), (1, .int v1), (2, .int v2)] [] μ (fX4_misspelt_L34 n F v1 v2 μ) := by
  intro F
  induction F with
  | zero =>
    intro v1 v2 μ
    exact g_none
  | succ F ih =>
    intro v1 v2 μ
    rw [fX4_misspelt_L34]
    refine g_iload_n (pc := 34) 2 dX4_misspelt_34 rfl rfl ?_
    refine g_aload_n (pc := 35) 0 dX4_misspelt_35 rfl rfl ?_
    refine g_get (pc := 36) rfl foX4_10 (v := .ref (ad 2)) rfl dX4_misspelt_36 ?_
    refine g_get (pc := 39) rfl foX4_141 (v := .int (μ.1 2 3)) rfl dX4_misspelt_39 ?_
    refine g_icmp_ge (pc := 42) 65 dX4_misspelt_42 rfl ?_ ?_
    · refine g_iload_n (pc := 65) 1 dX4_misspelt_65 rfl rfl ?_
      exact g_ireturn (pc := 66) dX4_misspelt_66 rfl
    · refine g_aload_n (pc := 45) 0 dX4_misspelt_45 rfl rfl ?_
      refine g_iload_n (pc := 46) 2 dX4_misspelt_46 rfl rfl ?_
      refine g_cVI (pc := 47) (st := []) [.int v2] rfl rfl moX4_canBeMisspelt lnX4_180 (ctX4_canBeMisspelt ad n v2 μ) rfl ⟨Nat.le_of_ble_eq_true rfl, Nat.le_of_ble_eq_true rfl⟩ rfl (Nat.le_of_ble_eq_true rfl) dX4_misspelt_47 (fun r4 m3 => ?_)
      refine g_if_eq (pc := 50) 59 dX4_misspelt_50 rfl ?_ ?_
      · refine g_iincB (pc := 59) 2 1 1 (fun x5 => [(2, .int x5), (0, .ref (ad 0)), (1, .int v1)]) dX4_misspelt_59 rfl (by decide) (by decide) (fun _ => rfl) (fun x5 => ?_)
        refine g_goto (pc := 62) 34 dX4_misspelt_62 rfl ?_
        exact g_sub [1, 2, 0] rfl (ih v1 x5 m3)
      · refine g_iload_n (pc := 53) 1 dX4_misspelt_53 rfl rfl ?_
        refine g_iconst (pc := 54) 1 dX4_misspelt_54 (by decide) ?_
        refine g_iload_n (pc := 55) 2 dX4_misspelt_55 rfl rfl ?_
        refine g_ishl' (pc := 56) dX4_misspelt_56 ?_
        refine g_ior (pc := 57) dX4_misspelt_57 ?_
        refine g_istore_nB (pc := 58) (fun x6 => [(1, .int x6), (0, .ref (ad 0)), (2, .int v2)]) dX4_misspelt_58 rfl (by decide) (fun _ => rfl) (fun x6 => ?_)
        refine g_iincB (pc := 59) 2 1 1 (fun x7 => [(2, .int x7), (1, .int x6), (0, .ref (ad 0))]) dX4_misspelt_59 rfl (by decide) (by decide) (fun _ => rfl) (fun x7 => ?_)
        refine g_goto (pc := 62) 34 dX4_misspelt_62 rfl ?_
        exact g_sub [2, 1, 0] rfl (ih x6 x7 m3)
set_option maxHeartbeats 4000000 in
set_option maxRecDepth 100000 in
theorem ctX4_misspelt (ad : Nat → Nat) (n : Nat) (μ : Mem) : Ct yX4_misspelt kX4_misspelt ad encI [.ref (ad 0)] μ (fX4_misspelt n μ) := Ct.of (by decide +kernel) rfl (Nat.le_of_ble_eq_true rfl) (by
  show G kX4_misspelt ad encI 0 [(0, .ref (ad 0))] [] μ (fX4_misspelt n μ)
  unfold fX4_misspelt
  refine g_aload_n (pc := 0) 0 dX4_misspelt_0 rfl rfl ?_
  refine g_get (pc := 1) rfl foX4_32 (v := .ref (ad 40)) rfl dX4_misspelt_1 ?_
  refine g_get (pc := 4) rfl foX4_163 (v := .int (μ.1 40 1)) rfl dX4_misspelt_4 ?_
  refine g_if_ne (pc := 7) 17 dX4_misspelt_7 rfl ?_ ?_
  · refine g_aload_n (pc := 17) 0 dX4_misspelt_17 rfl rfl ?_
    refine g_aload_n (pc := 18) 0 dX4_misspelt_18 rfl rfl ?_
    refine g_get (pc := 19) rfl foX4_10 (v := .ref (ad 2)) rfl dX4_misspelt_19 ?_
    refine g_cVI (pc := 22) (st := []) [.ref (ad 2)] rfl rfl moX4_someWayFits lnX4_176 (ctX4_someWayFits ad n 2 sT2 μ) rfl ⟨Nat.le_of_ble_eq_true rfl, Nat.le_of_ble_eq_true rfl⟩ rfl (Nat.le_of_ble_eq_true rfl) dX4_misspelt_22 (fun r2 m1 => ?_)
    refine g_if_eq (pc := 25) 30 dX4_misspelt_25 rfl ?_ ?_
    · refine g_iconst (pc := 30) 0 dX4_misspelt_30 (by decide) ?_
      refine g_istore_n (pc := 31) [(1, .int 0), (0, .ref (ad 0))] dX4_misspelt_31 rfl (by decide) rfl ?_
      refine g_iconst (pc := 32) 0 dX4_misspelt_32 (by decide) ?_
      refine g_istore_n (pc := 33) [(2, .int 0), (1, .int 0), (0, .ref (ad 0))] dX4_misspelt_33 rfl (by decide) rfl ?_
      exact g_sub [2, 1, 0] rfl (wX4_misspelt_L34 ad n n 0 0 m1)
    · refine g_iconst (pc := 28) 0 dX4_misspelt_28 (by decide) ?_
      exact g_ireturn (pc := 29) dX4_misspelt_29 rfl
  · refine g_aload_n (pc := 10) 0 dX4_misspelt_10 rfl rfl ?_
    refine g_bipush (pc := 11) (-3) dX4_misspelt_11 (by decide) ?_
    refine g_cVI (pc := 13) (st := []) [.int (-3)] rfl rfl moX4_refuse lnX4_51 (ctX4_refuse ad n (-3) μ) rfl ⟨Nat.le_of_ble_eq_true rfl, Nat.le_of_ble_eq_true rfl⟩ rfl (Nat.le_of_ble_eq_true rfl) dX4_misspelt_13 (fun r9 m8 => ?_)
    exact g_ireturn (pc := 16) dX4_misspelt_16 rfl)
-- StopsByLetters.judge()I
abbrev kX4_judge : Cfg := (RX4, cX4_judge, 2, (some .int), 4)
theorem dX4_judge_0 : decode cX4_judge 0 = .ok (.aload_n 0, 1) := by decide +kernel
theorem dX4_judge_1 : decode cX4_judge 1 = .ok (.getfield 39, 3) := by decide +kernel
theorem dX4_judge_4 : decode cX4_judge 4 = .ok (.aload_n 0, 1) := by decide +kernel
theorem dX4_judge_5 : decode cX4_judge 5 = .ok (.getfield 10, 3) := by decide +kernel
theorem dX4_judge_8 : decode cX4_judge 8 = .ok (.invokevirtual 93, 3) := by decide +kernel
theorem dX4_judge_11 : decode cX4_judge 11 = .ok (.aload_n 0, 1) := by decide +kernel
theorem dX4_judge_12 : decode cX4_judge 12 = .ok (.getfield 39, 3) := by decide +kernel
theorem dX4_judge_15 : decode cX4_judge 15 = .ok (.aload_n 0, 1) := by decide +kernel
theorem dX4_judge_16 : decode cX4_judge 16 = .ok (.getfield 32, 3) := by decide +kernel
theorem dX4_judge_19 : decode cX4_judge 19 = .ok (.invokevirtual 183, 3) := by decide +kernel
theorem dX4_judge_22 : decode cX4_judge 22 = .ok (.istore_n 1, 1) := by decide +kernel
theorem dX4_judge_23 : decode cX4_judge 23 = .ok (.aload_n 0, 1) := by decide +kernel
theorem dX4_judge_24 : decode cX4_judge 24 = .ok (.getfield 32, 3) := by decide +kernel
theorem dX4_judge_27 : decode cX4_judge 27 = .ok (.iconst 0, 1) := by decide +kernel
theorem dX4_judge_28 : decode cX4_judge 28 = .ok (.putfield 163, 3) := by decide +kernel
theorem dX4_judge_31 : decode cX4_judge 31 = .ok (.iload_n 1, 1) := by decide +kernel
theorem dX4_judge_32 : decode cX4_judge 32 = .ok (.ireturn, 1) := by decide +kernel
theorem lnX4_183 : Ln RX4 183 yX0_firstNoRide := Or.inr ⟨RX4, nt_in 650 (by decide +kernel) rfl⟩
theorem moX0_firstNoRide : Mv yX0_firstNoRide kX0_firstNoRide 1 := ⟨⟨tb_in 653 (by decide +kernel) rfl, tb_in 91 (by decide +kernel) rfl, ⟨by decide, by decide⟩, by decide +kernel⟩, tb_in 652 (by decide +kernel) rfl, tb_in 51 (by decide +kernel) rfl⟩
def fX4_judge (n : Nat) (μ : Mem) : Option (Int32 × Mem) :=
  bd (fX0_lay n 2 μ) (fun r2 m1 => bd (fX0_firstNoRide n m1) (fun r4 m3 => bnd (setI m3 40 1 0) (fun m5 => some (r4, m5))))
set_option maxHeartbeats 4000000 in
set_option maxRecDepth 100000 in
theorem ctX4_judge (ad : Nat → Nat) (n : Nat) (μ : Mem) : Ct yX4_judge kX4_judge ad encI [.ref (ad 0)] μ (fX4_judge n μ) := Ct.of (by decide +kernel) rfl (Nat.le_of_ble_eq_true rfl) (by
  show G kX4_judge ad encI 0 [(0, .ref (ad 0))] [] μ (fX4_judge n μ)
  unfold fX4_judge
  refine g_aload_n (pc := 0) 0 dX4_judge_0 rfl rfl ?_
  refine g_get (pc := 1) rfl foX4_39 (v := .ref (ad 42)) rfl dX4_judge_1 ?_
  refine g_aload_n (pc := 4) 0 dX4_judge_4 rfl rfl ?_
  refine g_get (pc := 5) rfl foX4_10 (v := .ref (ad 2)) rfl dX4_judge_5 ?_
  refine g_cVV (pc := 8) (st := []) [.ref (ad 2)] rfl rfl moX0_lay lnX4_93 (ctX0_lay ad n 2 sT2 μ) rfl ⟨Nat.le_of_ble_eq_true rfl, Nat.le_of_ble_eq_true rfl⟩ rfl (Nat.le_of_ble_eq_true rfl) dX4_judge_8 (fun r2 m1 => ?_)
  refine g_aload_n (pc := 11) 0 dX4_judge_11 rfl rfl ?_
  refine g_get (pc := 12) rfl foX4_39 (v := .ref (ad 42)) rfl dX4_judge_12 ?_
  refine g_aload_n (pc := 15) 0 dX4_judge_15 rfl rfl ?_
  refine g_get (pc := 16) rfl foX4_32 (v := .ref (ad 40)) rfl dX4_judge_16 ?_
  refine g_cVI (pc := 19) (st := []) [.ref (ad 40)] rfl rfl moX0_firstNoRide lnX4_183 (ctX0_firstNoRide ad n m1) rfl ⟨Nat.le_of_ble_eq_true rfl, Nat.le_of_ble_eq_true rfl⟩ rfl (Nat.le_of_ble_eq_true rfl) dX4_judge_19 (fun r4 m3 => ?_)
  refine g_istore_n (pc := 22) [(1, .int r4), (0, .ref (ad 0))] dX4_judge_22 rfl (by decide) rfl ?_
  refine g_aload_n (pc := 23) 1 dX4_judge_23 rfl rfl ?_
  refine g_get (pc := 24) rfl foX4_32 (v := .ref (ad 40)) rfl dX4_judge_24 ?_
  refine g_iconst (pc := 27) 0 dX4_judge_27 (by decide) ?_
  refine g_put (pc := 28) rfl foX4_163 fpX1_1 rfl rfl dX4_judge_28 (fun m5 => ?_)
  refine g_iload_n (pc := 31) 0 dX4_judge_31 rfl rfl ?_
  exact g_ireturn (pc := 32) dX4_judge_32 rfl)
-- StopsByLetters.seeds(III)I
abbrev kX4_seeds : Cfg := (RX4, cX4_seeds, 4, (some .int), 4)
theorem dX4_seeds_0 : decode cX4_seeds 0 = .ok (.aload_n 0, 1) := by decide +kernel
theorem dX4_seeds_1 : decode cX4_seeds 1 = .ok (.getfield 10, 3) := by decide +kernel
theorem dX4_seeds_4 : decode cX4_seeds 4 = .ok (.iload_n 1, 1) := by decide +kernel
theorem dX4_seeds_5 : decode cX4_seeds 5 = .ok (.invokevirtual 67, 3) := by decide +kernel
theorem dX4_seeds_8 : decode cX4_seeds 8 = .ok (.ifCond .ne 9, 3) := by decide +kernel
theorem dX4_seeds_11 : decode cX4_seeds 11 = .ok (.aload_n 0, 1) := by decide +kernel
theorem dX4_seeds_12 : decode cX4_seeds 12 = .ok (.iconst (-1), 1) := by decide +kernel
theorem dX4_seeds_13 : decode cX4_seeds 13 = .ok (.invokevirtual 51, 3) := by decide +kernel
theorem dX4_seeds_16 : decode cX4_seeds 16 = .ok (.ireturn, 1) := by decide +kernel
theorem dX4_seeds_17 : decode cX4_seeds 17 = .ok (.iload_n 2, 1) := by decide +kernel
theorem dX4_seeds_18 : decode cX4_seeds 18 = .ok (.iconst 1, 1) := by decide +kernel
theorem dX4_seeds_19 : decode cX4_seeds 19 = .ok (.if_icmp .ge 10, 3) := by decide +kernel
theorem dX4_seeds_22 : decode cX4_seeds 22 = .ok (.aload_n 0, 1) := by decide +kernel
theorem dX4_seeds_23 : decode cX4_seeds 23 = .ok (.bipush (-4), 2) := by decide +kernel
theorem dX4_seeds_25 : decode cX4_seeds 25 = .ok (.invokevirtual 51, 3) := by decide +kernel
theorem dX4_seeds_28 : decode cX4_seeds 28 = .ok (.ireturn, 1) := by decide +kernel
theorem dX4_seeds_29 : decode cX4_seeds 29 = .ok (.iload_n 2, 1) := by decide +kernel
theorem dX4_seeds_30 : decode cX4_seeds 30 = .ok (.bipush 60, 2) := by decide +kernel
theorem dX4_seeds_32 : decode cX4_seeds 32 = .ok (.if_icmp .le 10, 3) := by decide +kernel
theorem dX4_seeds_35 : decode cX4_seeds 35 = .ok (.aload_n 0, 1) := by decide +kernel
theorem dX4_seeds_36 : decode cX4_seeds 36 = .ok (.bipush (-6), 2) := by decide +kernel
theorem dX4_seeds_38 : decode cX4_seeds 38 = .ok (.invokevirtual 51, 3) := by decide +kernel
theorem dX4_seeds_41 : decode cX4_seeds 41 = .ok (.ireturn, 1) := by decide +kernel
theorem dX4_seeds_42 : decode cX4_seeds 42 = .ok (.aload_n 0, 1) := by decide +kernel
theorem dX4_seeds_43 : decode cX4_seeds 43 = .ok (.getfield 39, 3) := by decide +kernel
theorem dX4_seeds_46 : decode cX4_seeds 46 = .ok (.aload_n 0, 1) := by decide +kernel
theorem dX4_seeds_47 : decode cX4_seeds 47 = .ok (.getfield 10, 3) := by decide +kernel
theorem dX4_seeds_50 : decode cX4_seeds 50 = .ok (.invokevirtual 93, 3) := by decide +kernel
theorem dX4_seeds_53 : decode cX4_seeds 53 = .ok (.aload_n 0, 1) := by decide +kernel
theorem dX4_seeds_54 : decode cX4_seeds 54 = .ok (.getfield 39, 3) := by decide +kernel
theorem dX4_seeds_57 : decode cX4_seeds 57 = .ok (.iload_n 1, 1) := by decide +kernel
theorem dX4_seeds_58 : decode cX4_seeds 58 = .ok (.iload_n 2, 1) := by decide +kernel
theorem dX4_seeds_59 : decode cX4_seeds 59 = .ok (.iload_n 3, 1) := by decide +kernel
theorem dX4_seeds_60 : decode cX4_seeds 60 = .ok (.invokevirtual 187, 3) := by decide +kernel
theorem dX4_seeds_63 : decode cX4_seeds 63 = .ok (.ireturn, 1) := by decide +kernel
theorem lnX4_187 : Ln RX4 187 yX0_drawn := Or.inr ⟨RX4, nt_in 659 (by decide +kernel) rfl⟩
theorem moX0_drawn : Mv yX0_drawn kX0_drawn 3 := ⟨⟨tb_in 662 (by decide +kernel) rfl, tb_in 91 (by decide +kernel) rfl, ⟨by decide, by decide⟩, by decide +kernel⟩, tb_in 661 (by decide +kernel) rfl, tb_in 52 (by decide +kernel) rfl⟩
def fX4_seeds (n : Nat) (a1 : Int32) (a2 : Int32) (a3 : Int32) (μ : Mem) : Option (Int32 × Mem) :=
  bd (fX3_has n 2 a1 μ) (fun r2 m1 => if r2 = 0 then bd (fX4_refuse n (-1) m1) (fun r12 m11 => some (r12, m11)) else if 1 ≤ a2 then if a2 ≤ 60 then bd (fX0_lay n 2 m1) (fun r4 m3 => bd (fX0_drawn n a1 a2 a3 m3) (fun r6 m5 => some (r6, m5))) else bd (fX4_refuse n (-6) m1) (fun r8 m7 => some (r8, m7)) else bd (fX4_refuse n (-4) m1) (fun r10 m9 => some (r10, m9)))
set_option maxHeartbeats 4000000 in
set_option maxRecDepth 100000 in
theorem ctX4_seeds (ad : Nat → Nat) (n : Nat) (a1 : Int32) (a2 : Int32) (a3 : Int32) (μ : Mem) : Ct yX4_seeds kX4_seeds ad encI [.ref (ad 0), .int a1, .int a2, .int a3] μ (fX4_seeds n a1 a2 a3 μ) := Ct.of (by decide +kernel) rfl (Nat.le_of_ble_eq_true rfl) (by
  show G kX4_seeds ad encI 0 [(0, .ref (ad 0)), (1, .int a1), (2, .int a2), (3, .int a3)] [] μ (fX4_seeds n a1 a2 a3 μ)
  unfold fX4_seeds
  refine g_aload_n (pc := 0) 0 dX4_seeds_0 rfl rfl ?_
  refine g_get (pc := 1) rfl foX4_10 (v := .ref (ad 2)) rfl dX4_seeds_1 ?_
  refine g_iload_n (pc := 4) 1 dX4_seeds_4 rfl rfl ?_
  refine g_cVI (pc := 5) (st := []) [.int a1] rfl rfl moX3_has lnX4_67 (ctX3_has ad n 2 sT2 a1 μ) rfl ⟨Nat.le_of_ble_eq_true rfl, Nat.le_of_ble_eq_true rfl⟩ rfl (Nat.le_of_ble_eq_true rfl) dX4_seeds_5 (fun r2 m1 => ?_)
  refine g_if_ne (pc := 8) 17 dX4_seeds_8 rfl ?_ ?_
  · refine g_iload_n (pc := 17) 2 dX4_seeds_17 rfl rfl ?_
    refine g_iconst (pc := 18) 1 dX4_seeds_18 (by decide) ?_
    refine g_icmp_ge (pc := 19) 29 dX4_seeds_19 rfl ?_ ?_
    · refine g_iload_n (pc := 29) 2 dX4_seeds_29 rfl rfl ?_
      refine g_bipush (pc := 30) 60 dX4_seeds_30 (by decide) ?_
      refine g_icmp_le (pc := 32) 42 dX4_seeds_32 rfl ?_ ?_
      · refine g_aload_n (pc := 42) 0 dX4_seeds_42 rfl rfl ?_
        refine g_get (pc := 43) rfl foX4_39 (v := .ref (ad 42)) rfl dX4_seeds_43 ?_
        refine g_aload_n (pc := 46) 0 dX4_seeds_46 rfl rfl ?_
        refine g_get (pc := 47) rfl foX4_10 (v := .ref (ad 2)) rfl dX4_seeds_47 ?_
        refine g_cVV (pc := 50) (st := []) [.ref (ad 2)] rfl rfl moX0_lay lnX4_93 (ctX0_lay ad n 2 sT2 m1) rfl ⟨Nat.le_of_ble_eq_true rfl, Nat.le_of_ble_eq_true rfl⟩ rfl (Nat.le_of_ble_eq_true rfl) dX4_seeds_50 (fun r4 m3 => ?_)
        refine g_aload_n (pc := 53) 0 dX4_seeds_53 rfl rfl ?_
        refine g_get (pc := 54) rfl foX4_39 (v := .ref (ad 42)) rfl dX4_seeds_54 ?_
        refine g_iload_n (pc := 57) 1 dX4_seeds_57 rfl rfl ?_
        refine g_iload_n (pc := 58) 2 dX4_seeds_58 rfl rfl ?_
        refine g_iload_n (pc := 59) 3 dX4_seeds_59 rfl rfl ?_
        refine g_cVI (pc := 60) (st := []) [.int a1, .int a2, .int a3] rfl rfl moX0_drawn lnX4_187 (ctX0_drawn ad n a1 a2 a3 m3) rfl ⟨Nat.le_of_ble_eq_true rfl, Nat.le_of_ble_eq_true rfl⟩ rfl (Nat.le_of_ble_eq_true rfl) dX4_seeds_60 (fun r6 m5 => ?_)
        exact g_ireturn (pc := 63) dX4_seeds_63 rfl
      · refine g_aload_n (pc := 35) 0 dX4_seeds_35 rfl rfl ?_
        refine g_bipush (pc := 36) (-6) dX4_seeds_36 (by decide) ?_
        refine g_cVI (pc := 38) (st := []) [.int (-6)] rfl rfl moX4_refuse lnX4_51 (ctX4_refuse ad n (-6) m1) rfl ⟨Nat.le_of_ble_eq_true rfl, Nat.le_of_ble_eq_true rfl⟩ rfl (Nat.le_of_ble_eq_true rfl) dX4_seeds_38 (fun r8 m7 => ?_)
        exact g_ireturn (pc := 41) dX4_seeds_41 rfl
    · refine g_aload_n (pc := 22) 0 dX4_seeds_22 rfl rfl ?_
      refine g_bipush (pc := 23) (-4) dX4_seeds_23 (by decide) ?_
      refine g_cVI (pc := 25) (st := []) [.int (-4)] rfl rfl moX4_refuse lnX4_51 (ctX4_refuse ad n (-4) m1) rfl ⟨Nat.le_of_ble_eq_true rfl, Nat.le_of_ble_eq_true rfl⟩ rfl (Nat.le_of_ble_eq_true rfl) dX4_seeds_25 (fun r10 m9 => ?_)
      exact g_ireturn (pc := 28) dX4_seeds_28 rfl
  · refine g_aload_n (pc := 11) 0 dX4_seeds_11 rfl rfl ?_
    refine g_iconst (pc := 12) (-1) dX4_seeds_12 (by decide) ?_
    refine g_cVI (pc := 13) (st := []) [.int (-1)] rfl rfl moX4_refuse lnX4_51 (ctX4_refuse ad n (-1) m1) rfl ⟨Nat.le_of_ble_eq_true rfl, Nat.le_of_ble_eq_true rfl⟩ rfl (Nat.le_of_ble_eq_true rfl) dX4_seeds_13 (fun r12 m11 => ?_)
    exact g_ireturn (pc := 16) dX4_seeds_16 rfl)
-- StopsByLetters.image()I
abbrev kX4_image : Cfg := (RX4, cX4_image, 1, (some .int), 3)
theorem dX4_image_0 : decode cX4_image 0 = .ok (.aload_n 0, 1) := by decide +kernel
theorem dX4_image_1 : decode cX4_image 1 = .ok (.getfield 19, 3) := by decide +kernel
theorem dX4_image_4 : decode cX4_image 4 = .ok (.aload_n 0, 1) := by decide +kernel
theorem dX4_image_5 : decode cX4_image 5 = .ok (.getfield 10, 3) := by decide +kernel
theorem dX4_image_8 : decode cX4_image 8 = .ok (.invokevirtual 134, 3) := by decide +kernel
theorem dX4_image_11 : decode cX4_image 11 = .ok (.aload_n 0, 1) := by decide +kernel
theorem dX4_image_12 : decode cX4_image 12 = .ok (.iconst 1, 1) := by decide +kernel
theorem dX4_image_13 : decode cX4_image 13 = .ok (.putfield 47, 3) := by decide +kernel
theorem dX4_image_16 : decode cX4_image 16 = .ok (.aload_n 0, 1) := by decide +kernel
theorem dX4_image_17 : decode cX4_image 17 = .ok (.getfield 10, 3) := by decide +kernel
theorem dX4_image_20 : decode cX4_image 20 = .ok (.getfield 141, 3) := by decide +kernel
theorem dX4_image_23 : decode cX4_image 23 = .ok (.ireturn, 1) := by decide +kernel
theorem foX4_19 : Fo 4 RX4 TX4 8 2 RX4 19 := ⟨rfl, by decide, rfl, uwX4, rfl, Or.inl (tb_in 195 (by decide +kernel) rfl)⟩
theorem foX4_47 : Fo 4 RX4 TX4 8 7 RX4 47 := ⟨rfl, by decide, rfl, uwX4, rfl, Or.inl (tb_in 200 (by decide +kernel) rfl)⟩
theorem fpX4_7 : Fp TX4 8 tyX4 7 := ⟨tyX4_ok, nmX4, rfl⟩
def fX4_image (n : Nat) (μ : Mem) : Option (Int32 × Mem) :=
  bd (fX3_take n 26 2 μ) (fun r2 m1 => bnd (setI m1 0 7 1) (fun m3 => some ((m3.1 2 3), m3)))
set_option maxHeartbeats 4000000 in
set_option maxRecDepth 100000 in
theorem ctX4_image (ad : Nat → Nat) (n : Nat) (μ : Mem) : Ct yX4_image kX4_image ad encI [.ref (ad 0)] μ (fX4_image n μ) := Ct.of (by decide +kernel) rfl (Nat.le_of_ble_eq_true rfl) (by
  show G kX4_image ad encI 0 [(0, .ref (ad 0))] [] μ (fX4_image n μ)
  unfold fX4_image
  refine g_aload_n (pc := 0) 0 dX4_image_0 rfl rfl ?_
  refine g_get (pc := 1) rfl foX4_19 (v := .ref (ad 26)) rfl dX4_image_1 ?_
  refine g_aload_n (pc := 4) 0 dX4_image_4 rfl rfl ?_
  refine g_get (pc := 5) rfl foX4_10 (v := .ref (ad 2)) rfl dX4_image_5 ?_
  refine g_cVV (pc := 8) (st := []) [.ref (ad 2)] rfl rfl moX3_take lnX4_134 (ctX3_take ad n 26 2 sT26 sT2 μ) rfl ⟨Nat.le_of_ble_eq_true rfl, Nat.le_of_ble_eq_true rfl⟩ rfl (Nat.le_of_ble_eq_true rfl) dX4_image_8 (fun r2 m1 => ?_)
  refine g_aload_n (pc := 11) 0 dX4_image_11 rfl rfl ?_
  refine g_iconst (pc := 12) 1 dX4_image_12 (by decide) ?_
  refine g_putZ (pc := 13) (by decide) rfl foX4_47 fpX4_7 rfl rfl dX4_image_13 (fun m3 => ?_)
  refine g_aload_n (pc := 16) 0 dX4_image_16 rfl rfl ?_
  refine g_get (pc := 17) rfl foX4_10 (v := .ref (ad 2)) rfl dX4_image_17 ?_
  refine g_get (pc := 20) rfl foX4_141 (v := .int (m3.1 2 3)) rfl dX4_image_20 ?_
  exact g_ireturn (pc := 23) dX4_image_23 rfl)
-- StopsByLetters.on()I
abbrev kX4_on : Cfg := (RX4, cX4_on, 1, (some .int), 3)
theorem dX4_on_0 : decode cX4_on 0 = .ok (.aload_n 0, 1) := by decide +kernel
theorem dX4_on_1 : decode cX4_on 1 = .ok (.getfield 47, 3) := by decide +kernel
theorem dX4_on_4 : decode cX4_on 4 = .ok (.ifCond .ne 10, 3) := by decide +kernel
theorem dX4_on_7 : decode cX4_on 7 = .ok (.aload_n 0, 1) := by decide +kernel
theorem dX4_on_8 : decode cX4_on 8 = .ok (.bipush (-3), 2) := by decide +kernel
theorem dX4_on_10 : decode cX4_on 10 = .ok (.invokevirtual 51, 3) := by decide +kernel
theorem dX4_on_13 : decode cX4_on 13 = .ok (.ireturn, 1) := by decide +kernel
theorem dX4_on_14 : decode cX4_on 14 = .ok (.aload_n 0, 1) := by decide +kernel
theorem dX4_on_15 : decode cX4_on 15 = .ok (.getfield 10, 3) := by decide +kernel
theorem dX4_on_18 : decode cX4_on 18 = .ok (.aload_n 0, 1) := by decide +kernel
theorem dX4_on_19 : decode cX4_on 19 = .ok (.getfield 19, 3) := by decide +kernel
theorem dX4_on_22 : decode cX4_on 22 = .ok (.invokevirtual 134, 3) := by decide +kernel
theorem dX4_on_25 : decode cX4_on 25 = .ok (.aload_n 0, 1) := by decide +kernel
theorem dX4_on_26 : decode cX4_on 26 = .ok (.getfield 10, 3) := by decide +kernel
theorem dX4_on_29 : decode cX4_on 29 = .ok (.getfield 141, 3) := by decide +kernel
theorem dX4_on_32 : decode cX4_on 32 = .ok (.ireturn, 1) := by decide +kernel
def fX4_on (n : Nat) (μ : Mem) : Option (Int32 × Mem) :=
  if (μ.1 0 7) = 0 then bd (fX4_refuse n (-3) μ) (fun r4 m3 => some (r4, m3)) else bd (fX3_take n 2 26 μ) (fun r2 m1 => some ((m1.1 2 3), m1))
set_option maxHeartbeats 4000000 in
set_option maxRecDepth 100000 in
theorem ctX4_on (ad : Nat → Nat) (n : Nat) (μ : Mem) : Ct yX4_on kX4_on ad encI [.ref (ad 0)] μ (fX4_on n μ) := Ct.of (by decide +kernel) rfl (Nat.le_of_ble_eq_true rfl) (by
  show G kX4_on ad encI 0 [(0, .ref (ad 0))] [] μ (fX4_on n μ)
  unfold fX4_on
  refine g_aload_n (pc := 0) 0 dX4_on_0 rfl rfl ?_
  refine g_get (pc := 1) rfl foX4_47 (v := .int (μ.1 0 7)) rfl dX4_on_1 ?_
  refine g_if_ne (pc := 4) 14 dX4_on_4 rfl ?_ ?_
  · refine g_aload_n (pc := 14) 0 dX4_on_14 rfl rfl ?_
    refine g_get (pc := 15) rfl foX4_10 (v := .ref (ad 2)) rfl dX4_on_15 ?_
    refine g_aload_n (pc := 18) 0 dX4_on_18 rfl rfl ?_
    refine g_get (pc := 19) rfl foX4_19 (v := .ref (ad 26)) rfl dX4_on_19 ?_
    refine g_cVV (pc := 22) (st := []) [.ref (ad 26)] rfl rfl moX3_take lnX4_134 (ctX3_take ad n 2 26 sT2 sT26 μ) rfl ⟨Nat.le_of_ble_eq_true rfl, Nat.le_of_ble_eq_true rfl⟩ rfl (Nat.le_of_ble_eq_true rfl) dX4_on_22 (fun r2 m1 => ?_)
    refine g_aload_n (pc := 25) 0 dX4_on_25 rfl rfl ?_
    refine g_get (pc := 26) rfl foX4_10 (v := .ref (ad 2)) rfl dX4_on_26 ?_
    refine g_get (pc := 29) rfl foX4_141 (v := .int (m1.1 2 3)) rfl dX4_on_29 ?_
    exact g_ireturn (pc := 32) dX4_on_32 rfl
  · refine g_aload_n (pc := 7) 0 dX4_on_7 rfl rfl ?_
    refine g_bipush (pc := 8) (-3) dX4_on_8 (by decide) ?_
    refine g_cVI (pc := 10) (st := []) [.int (-3)] rfl rfl moX4_refuse lnX4_51 (ctX4_refuse ad n (-3) μ) rfl ⟨Nat.le_of_ble_eq_true rfl, Nat.le_of_ble_eq_true rfl⟩ rfl (Nat.le_of_ble_eq_true rfl) dX4_on_10 (fun r4 m3 => ?_)
    exact g_ireturn (pc := 13) dX4_on_13 rfl)
-- StopsByLetters.count(I)I
abbrev kX4_count : Cfg := (RX4, cX4_count, 2, (some .int), 4)
theorem dX4_count_0 : decode cX4_count 0 = .ok (.iload_n 1, 1) := by decide +kernel
theorem dX4_count_1 : decode cX4_count 1 = .ok (.tableswitch 106 0 5 #[39, 47, 55, 71, 90, 98], 39) := by decide +kernel
theorem dX4_count_40 : decode cX4_count 40 = .ok (.aload_n 0, 1) := by decide +kernel
theorem dX4_count_41 : decode cX4_count 41 = .ok (.getfield 10, 3) := by decide +kernel
theorem dX4_count_44 : decode cX4_count 44 = .ok (.getfield 141, 3) := by decide +kernel
theorem dX4_count_47 : decode cX4_count 47 = .ok (.ireturn, 1) := by decide +kernel
theorem dX4_count_48 : decode cX4_count 48 = .ok (.aload_n 0, 1) := by decide +kernel
theorem dX4_count_49 : decode cX4_count 49 = .ok (.getfield 10, 3) := by decide +kernel
theorem dX4_count_52 : decode cX4_count 52 = .ok (.invokevirtual 191, 3) := by decide +kernel
theorem dX4_count_55 : decode cX4_count 55 = .ok (.ireturn, 1) := by decide +kernel
theorem dX4_count_56 : decode cX4_count 56 = .ok (.aload_n 0, 1) := by decide +kernel
theorem dX4_count_57 : decode cX4_count 57 = .ok (.getfield 10, 3) := by decide +kernel
theorem dX4_count_60 : decode cX4_count 60 = .ok (.getfield 90, 3) := by decide +kernel
theorem dX4_count_63 : decode cX4_count 63 = .ok (.ifCond .eq 7, 3) := by decide +kernel
theorem dX4_count_66 : decode cX4_count 66 = .ok (.iconst 1, 1) := by decide +kernel
theorem dX4_count_67 : decode cX4_count 67 = .ok (.goto 4, 3) := by decide +kernel
theorem dX4_count_70 : decode cX4_count 70 = .ok (.iconst 0, 1) := by decide +kernel
theorem dX4_count_71 : decode cX4_count 71 = .ok (.ireturn, 1) := by decide +kernel
theorem dX4_count_72 : decode cX4_count 72 = .ok (.aload_n 0, 1) := by decide +kernel
theorem dX4_count_73 : decode cX4_count 73 = .ok (.getfield 39, 3) := by decide +kernel
theorem dX4_count_76 : decode cX4_count 76 = .ok (.aload_n 0, 1) := by decide +kernel
theorem dX4_count_77 : decode cX4_count 77 = .ok (.getfield 10, 3) := by decide +kernel
theorem dX4_count_80 : decode cX4_count 80 = .ok (.invokevirtual 93, 3) := by decide +kernel
theorem dX4_count_83 : decode cX4_count 83 = .ok (.aload_n 0, 1) := by decide +kernel
theorem dX4_count_84 : decode cX4_count 84 = .ok (.getfield 39, 3) := by decide +kernel
theorem dX4_count_87 : decode cX4_count 87 = .ok (.invokevirtual 194, 3) := by decide +kernel
theorem dX4_count_90 : decode cX4_count 90 = .ok (.ireturn, 1) := by decide +kernel
theorem dX4_count_91 : decode cX4_count 91 = .ok (.aload_n 0, 1) := by decide +kernel
theorem dX4_count_92 : decode cX4_count 92 = .ok (.getfield 32, 3) := by decide +kernel
theorem dX4_count_95 : decode cX4_count 95 = .ok (.getfield 163, 3) := by decide +kernel
theorem dX4_count_98 : decode cX4_count 98 = .ok (.ireturn, 1) := by decide +kernel
theorem dX4_count_99 : decode cX4_count 99 = .ok (.aload_n 0, 1) := by decide +kernel
theorem dX4_count_100 : decode cX4_count 100 = .ok (.getfield 25, 3) := by decide +kernel
theorem dX4_count_103 : decode cX4_count 103 = .ok (.getfield 55, 3) := by decide +kernel
theorem dX4_count_106 : decode cX4_count 106 = .ok (.ireturn, 1) := by decide +kernel
theorem dX4_count_107 : decode cX4_count 107 = .ok (.iload_n 1, 1) := by decide +kernel
theorem dX4_count_108 : decode cX4_count 108 = .ok (.bipush 11, 2) := by decide +kernel
theorem dX4_count_110 : decode cX4_count 110 = .ok (.if_icmp .lt 21, 3) := by decide +kernel
theorem dX4_count_113 : decode cX4_count 113 = .ok (.iload_n 1, 1) := by decide +kernel
theorem dX4_count_114 : decode cX4_count 114 = .ok (.bipush 16, 2) := by decide +kernel
theorem dX4_count_116 : decode cX4_count 116 = .ok (.if_icmp .gt 15, 3) := by decide +kernel
theorem dX4_count_119 : decode cX4_count 119 = .ok (.aload_n 0, 1) := by decide +kernel
theorem dX4_count_120 : decode cX4_count 120 = .ok (.getfield 43, 3) := by decide +kernel
theorem dX4_count_123 : decode cX4_count 123 = .ok (.iload_n 1, 1) := by decide +kernel
theorem dX4_count_124 : decode cX4_count 124 = .ok (.bipush 10, 2) := by decide +kernel
theorem dX4_count_126 : decode cX4_count 126 = .ok (.isub, 1) := by decide +kernel
theorem dX4_count_127 : decode cX4_count 127 = .ok (.iaload, 1) := by decide +kernel
theorem dX4_count_128 : decode cX4_count 128 = .ok (.goto 5, 3) := by decide +kernel
theorem dX4_count_131 : decode cX4_count 131 = .ok (.bipush (-9), 2) := by decide +kernel
theorem dX4_count_133 : decode cX4_count 133 = .ok (.ireturn, 1) := by decide +kernel
theorem lnX4_191 : Ln RX4 191 yX3_sumOfSizes := Or.inr ⟨RX4, nt_in 682 (by decide +kernel) rfl⟩
theorem moX3_sumOfSizes : Mv yX3_sumOfSizes kX3_sumOfSizes 0 := ⟨⟨tb_in 685 (by decide +kernel) rfl, tb_in 88 (by decide +kernel) rfl, ⟨by decide, by decide⟩, by decide +kernel⟩, tb_in 684 (by decide +kernel) rfl, tb_in 54 (by decide +kernel) rfl⟩
theorem lnX4_194 : Ln RX4 194 yX0_sumOfRides := Or.inr ⟨RX4, nt_in 686 (by decide +kernel) rfl⟩
theorem moX0_sumOfRides : Mv yX0_sumOfRides kX0_sumOfRides 0 := ⟨⟨tb_in 689 (by decide +kernel) rfl, tb_in 91 (by decide +kernel) rfl, ⟨by decide, by decide⟩, by decide +kernel⟩, tb_in 688 (by decide +kernel) rfl, tb_in 55 (by decide +kernel) rfl⟩
def fX4_count (n : Nat) (a1 : Int32) (μ : Mem) : Option (Int32 × Mem) :=
  bnd a1 (fun sx1 => if sx1 = 0 then some ((μ.1 2 3), μ) else if sx1 = 1 then bd (fX3_sumOfSizes n 2 μ) (fun r4 m3 => some (r4, m3)) else if sx1 = 2 then if (μ.1 2 4) = 0 then some (0, μ) else some (1, μ) else if sx1 = 3 then bd (fX0_lay n 2 μ) (fun r8 m7 => bd (fX0_sumOfRides n m7) (fun r10 m9 => some (r10, m9))) else if sx1 = 4 then some ((μ.1 40 1), μ) else if sx1 = 5 then some ((μ.1 38 1), μ) else if a1 < 11 then some ((-9), μ) else if 16 < a1 then some ((-9), μ) else gd (inb (a1 - 10) 7) (some ((μ.1 1 (Int32.toNatClampNeg (a1 - 10))), μ)))
set_option maxHeartbeats 4000000 in
set_option maxRecDepth 100000 in
theorem ctX4_count (ad : Nat → Nat) (n : Nat) (a1 : Int32) (μ : Mem) : Ct yX4_count kX4_count ad encI [.ref (ad 0), .int a1] μ (fX4_count n a1 μ) := Ct.of (by decide +kernel) rfl (Nat.le_of_ble_eq_true rfl) (by
  show G kX4_count ad encI 0 [(0, .ref (ad 0)), (1, .int a1)] [] μ (fX4_count n a1 μ)
  unfold fX4_count
  refine g_iload_n (pc := 0) 1 dX4_count_0 rfl rfl ?_
  refine g_swx (fun sx1 => ?_)
  refine g_ite (fun hq => ?_) (fun hs2 => ?_)
  · subst hq
    refine g_tabIn (pc := 1) 40 39 dX4_count_1 (by decide) ?_
    refine g_aload_n (pc := 40) 0 dX4_count_40 rfl rfl ?_
    refine g_get (pc := 41) rfl foX4_10 (v := .ref (ad 2)) rfl dX4_count_41 ?_
    refine g_get (pc := 44) rfl foX4_141 (v := .int (μ.1 2 3)) rfl dX4_count_44 ?_
    exact g_ireturn (pc := 47) dX4_count_47 rfl
  ·
    refine g_ite (fun hq => ?_) (fun hs5 => ?_)
    · subst hq
      refine g_tabIn (pc := 1) 48 47 dX4_count_1 (by decide) ?_
      refine g_aload_n (pc := 48) 0 dX4_count_48 rfl rfl ?_
      refine g_get (pc := 49) rfl foX4_10 (v := .ref (ad 2)) rfl dX4_count_49 ?_
      refine g_cVI (pc := 52) (st := []) [] rfl rfl moX3_sumOfSizes lnX4_191 (ctX3_sumOfSizes ad n 2 sT2 μ) rfl ⟨Nat.le_of_ble_eq_true rfl, Nat.le_of_ble_eq_true rfl⟩ rfl (Nat.le_of_ble_eq_true rfl) dX4_count_52 (fun r4 m3 => ?_)
      exact g_ireturn (pc := 55) dX4_count_55 rfl
    ·
      refine g_ite (fun hq => ?_) (fun hs6 => ?_)
      · subst hq
        refine g_tabIn (pc := 1) 56 55 dX4_count_1 (by decide) ?_
        refine g_aload_n (pc := 56) 0 dX4_count_56 rfl rfl ?_
        refine g_get (pc := 57) rfl foX4_10 (v := .ref (ad 2)) rfl dX4_count_57 ?_
        refine g_get (pc := 60) rfl foX4_90 (v := .int (μ.1 2 4)) rfl dX4_count_60 ?_
        refine g_if_eq (pc := 63) 70 dX4_count_63 rfl ?_ ?_
        · refine g_iconst (pc := 70) 0 dX4_count_70 (by decide) ?_
          exact g_ireturn (pc := 71) dX4_count_71 rfl
        · refine g_iconst (pc := 66) 1 dX4_count_66 (by decide) ?_
          refine g_goto (pc := 67) 71 dX4_count_67 rfl ?_
          exact g_ireturn (pc := 71) dX4_count_71 rfl
      ·
        refine g_ite (fun hq => ?_) (fun hs11 => ?_)
        · subst hq
          refine g_tabIn (pc := 1) 72 71 dX4_count_1 (by decide) ?_
          refine g_aload_n (pc := 72) 0 dX4_count_72 rfl rfl ?_
          refine g_get (pc := 73) rfl foX4_39 (v := .ref (ad 42)) rfl dX4_count_73 ?_
          refine g_aload_n (pc := 76) 0 dX4_count_76 rfl rfl ?_
          refine g_get (pc := 77) rfl foX4_10 (v := .ref (ad 2)) rfl dX4_count_77 ?_
          refine g_cVV (pc := 80) (st := []) [.ref (ad 2)] rfl rfl moX0_lay lnX4_93 (ctX0_lay ad n 2 sT2 μ) rfl ⟨Nat.le_of_ble_eq_true rfl, Nat.le_of_ble_eq_true rfl⟩ rfl (Nat.le_of_ble_eq_true rfl) dX4_count_80 (fun r8 m7 => ?_)
          refine g_aload_n (pc := 83) 0 dX4_count_83 rfl rfl ?_
          refine g_get (pc := 84) rfl foX4_39 (v := .ref (ad 42)) rfl dX4_count_84 ?_
          refine g_cVI (pc := 87) (st := []) [] rfl rfl moX0_sumOfRides lnX4_194 (ctX0_sumOfRides ad n m7) rfl ⟨Nat.le_of_ble_eq_true rfl, Nat.le_of_ble_eq_true rfl⟩ rfl (Nat.le_of_ble_eq_true rfl) dX4_count_87 (fun r10 m9 => ?_)
          exact g_ireturn (pc := 90) dX4_count_90 rfl
        ·
          refine g_ite (fun hq => ?_) (fun hs12 => ?_)
          · subst hq
            refine g_tabIn (pc := 1) 91 90 dX4_count_1 (by decide) ?_
            refine g_aload_n (pc := 91) 0 dX4_count_91 rfl rfl ?_
            refine g_get (pc := 92) rfl foX4_32 (v := .ref (ad 40)) rfl dX4_count_92 ?_
            refine g_get (pc := 95) rfl foX4_163 (v := .int (μ.1 40 1)) rfl dX4_count_95 ?_
            exact g_ireturn (pc := 98) dX4_count_98 rfl
          ·
            refine g_ite (fun hq => ?_) (fun hs13 => ?_)
            · subst hq
              refine g_tabIn (pc := 1) 99 98 dX4_count_1 (by decide) ?_
              refine g_aload_n (pc := 99) 0 dX4_count_99 rfl rfl ?_
              refine g_get (pc := 100) rfl foX4_25 (v := .ref (ad 38)) rfl dX4_count_100 ?_
              refine g_get (pc := 103) rfl foX4_55 (v := .int (μ.1 38 1)) rfl dX4_count_103 ?_
              exact g_ireturn (pc := 106) dX4_count_106 rfl
            ·
              refine g_tabD (pc := 1) 107 dX4_count_1 [0, 1, 2, 3, 4, 5] (by decide) ⟨hs2, hs5, hs6, hs11, hs12, hs13, trivial⟩ rfl ?_
              refine g_iload_n (pc := 107) 1 dX4_count_107 rfl rfl ?_
              refine g_bipush (pc := 108) 11 dX4_count_108 (by decide) ?_
              refine g_icmp_lt (pc := 110) 131 dX4_count_110 rfl ?_ ?_
              · refine g_bipush (pc := 131) (-9) dX4_count_131 (by decide) ?_
                exact g_ireturn (pc := 133) dX4_count_133 rfl
              · refine g_iload_n (pc := 113) 1 dX4_count_113 rfl rfl ?_
                refine g_bipush (pc := 114) 16 dX4_count_114 (by decide) ?_
                refine g_icmp_gt (pc := 116) 131 dX4_count_116 rfl ?_ ?_
                · refine g_bipush (pc := 131) (-9) dX4_count_131 (by decide) ?_
                  exact g_ireturn (pc := 133) dX4_count_133 rfl
                · refine g_aload_n (pc := 119) 0 dX4_count_119 rfl rfl ?_
                  refine g_get (pc := 120) rfl foX4_43 (v := .ref (ad 1)) rfl dX4_count_120 ?_
                  refine g_iload_n (pc := 123) 1 dX4_count_123 rfl rfl ?_
                  refine g_bipush (pc := 124) 10 dX4_count_124 (by decide) ?_
                  refine g_isub (pc := 126) dX4_count_126 ?_
                  refine g_iald (pc := 127) rfl (by decide) dX4_count_127 ?_
                  refine g_goto (pc := 128) 133 dX4_count_128 rfl ?_
                  exact g_ireturn (pc := 133) dX4_count_133 rfl)
