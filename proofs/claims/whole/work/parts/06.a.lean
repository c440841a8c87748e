-- StopsByLetters.refuse(I)I
abbrev kX4_refuse : Cfg := (RX4, cX4_refuse, 3, (some .int), 0)
theorem dX4_refuse_0 : decode cX4_refuse 0 = .ok (.iload_n 1, 1) := by decide +kernel
theorem dX4_refuse_1 : decode cX4_refuse 1 = .ok (.ineg, 1) := by decide +kernel
theorem dX4_refuse_2 : decode cX4_refuse 2 = .ok (.istore_n 2, 1) := by decide +kernel
theorem dX4_refuse_3 : decode cX4_refuse 3 = .ok (.iload_n 2, 1) := by decide +kernel
theorem dX4_refuse_4 : decode cX4_refuse 4 = .ok (.ifCond .lt 22, 3) := by decide +kernel
theorem dX4_refuse_7 : decode cX4_refuse 7 = .ok (.iload_n 2, 1) := by decide +kernel
theorem dX4_refuse_8 : decode cX4_refuse 8 = .ok (.aload_n 0, 1) := by decide +kernel
theorem dX4_refuse_9 : decode cX4_refuse 9 = .ok (.getfield 43, 3) := by decide +kernel
theorem dX4_refuse_12 : decode cX4_refuse 12 = .ok (.arraylength, 1) := by decide +kernel
theorem dX4_refuse_13 : decode cX4_refuse 13 = .ok (.if_icmp .ge 13, 3) := by decide +kernel
theorem dX4_refuse_16 : decode cX4_refuse 16 = .ok (.aload_n 0, 1) := by decide +kernel
theorem dX4_refuse_17 : decode cX4_refuse 17 = .ok (.getfield 43, 3) := by decide +kernel
theorem dX4_refuse_20 : decode cX4_refuse 20 = .ok (.iload_n 2, 1) := by decide +kernel
theorem dX4_refuse_21 : decode cX4_refuse 21 = .ok (.dup2, 1) := by decide +kernel
theorem dX4_refuse_22 : decode cX4_refuse 22 = .ok (.iaload, 1) := by decide +kernel
theorem dX4_refuse_23 : decode cX4_refuse 23 = .ok (.iconst 1, 1) := by decide +kernel
theorem dX4_refuse_24 : decode cX4_refuse 24 = .ok (.iadd, 1) := by decide +kernel
theorem dX4_refuse_25 : decode cX4_refuse 25 = .ok (.iastore, 1) := by decide +kernel
theorem dX4_refuse_26 : decode cX4_refuse 26 = .ok (.iload_n 1, 1) := by decide +kernel
theorem dX4_refuse_27 : decode cX4_refuse 27 = .ok (.ireturn, 1) := by decide +kernel
theorem foX4_43 : Fo 4 RX4 TX4 8 6 RX4 43 := ⟨rfl, by decide, rfl, uwX4, rfl, Or.inl (tb_in 199 (by decide +kernel) rfl)⟩
def fX4_refuse (n : Nat) (a1 : Int32) (μ : Mem) : Option (Int32 × Mem) :=
  bnd (-a1) (fun x1 => if x1 < 0 then some (a1, μ) else if 7 ≤ x1 then some (a1, μ) else gd (inb x1 7) (gd (inb x1 7) (bnd (setI μ 1 (Int32.toNatClampNeg x1) ((μ.1 1 (Int32.toNatClampNeg x1)) + 1)) (fun m2 => some (a1, m2)))))
set_option maxHeartbeats 4000000 in
set_option maxRecDepth 100000 in
theorem ctX4_refuse (ad : Nat → Nat) (n : Nat) (a1 : Int32) (μ : Mem) : Ct yX4_refuse kX4_refuse ad encI [.ref (ad 0), .int a1] μ (fX4_refuse n a1 μ) := Ct.of (by decide +kernel) rfl (Nat.le_of_ble_eq_true rfl) (by
  show G kX4_refuse ad encI 0 [(0, .ref (ad 0)), (1, .int a1)] [] μ (fX4_refuse n a1 μ)
  unfold fX4_refuse
  refine g_iload_n (pc := 0) 1 dX4_refuse_0 rfl rfl ?_
  refine g_ineg (pc := 1) dX4_refuse_1 ?_
  refine g_istore_nB (pc := 2) (fun x1 => [(2, .int x1), (0, .ref (ad 0)), (1, .int a1)]) dX4_refuse_2 rfl (by decide) (fun _ => rfl) (fun x1 => ?_)
  refine g_iload_n (pc := 3) 0 dX4_refuse_3 rfl rfl ?_
  refine g_if_lt (pc := 4) 26 dX4_refuse_4 rfl ?_ ?_
  · refine g_iload_n (pc := 26) 2 dX4_refuse_26 rfl rfl ?_
    exact g_ireturn (pc := 27) dX4_refuse_27 rfl
  · refine g_iload_n (pc := 7) 0 dX4_refuse_7 rfl rfl ?_
    refine g_aload_n (pc := 8) 1 dX4_refuse_8 rfl rfl ?_
    refine g_get (pc := 9) rfl foX4_43 (v := .ref (ad 1)) rfl dX4_refuse_9 ?_
    refine g_alen (pc := 12) rfl (by decide) (v := 7) rfl dX4_refuse_12 ?_
    refine g_icmp_ge (pc := 13) 26 dX4_refuse_13 rfl ?_ ?_
    · refine g_iload_n (pc := 26) 2 dX4_refuse_26 rfl rfl ?_
      exact g_ireturn (pc := 27) dX4_refuse_27 rfl
    · refine g_aload_n (pc := 16) 1 dX4_refuse_16 rfl rfl ?_
      refine g_get (pc := 17) rfl foX4_43 (v := .ref (ad 1)) rfl dX4_refuse_17 ?_
      refine g_iload_n (pc := 20) 0 dX4_refuse_20 rfl rfl ?_
      refine g_dup2 (pc := 21) dX4_refuse_21 rfl rfl ?_
      refine g_iald (pc := 22) rfl (by decide) dX4_refuse_22 ?_
      refine g_iconst (pc := 23) 1 dX4_refuse_23 (by decide) ?_
      refine g_iadd (pc := 24) dX4_refuse_24 ?_
      refine g_iast (pc := 25) rfl (by decide) dX4_refuse_25 (fun m2 => ?_)
      refine g_iload_n (pc := 26) 2 dX4_refuse_26 rfl rfl ?_
      exact g_ireturn (pc := 27) dX4_refuse_27 rfl)
-- StopsByLetters.letter(I)I
abbrev kX4_letter : Cfg := (RX4, cX4_letter, 2, (some .int), 1)
theorem dX4_letter_0 : decode cX4_letter 0 = .ok (.iload_n 1, 1) := by decide +kernel
theorem dX4_letter_1 : decode cX4_letter 1 = .ok (.ifCond .ge 10, 3) := by decide +kernel
theorem dX4_letter_4 : decode cX4_letter 4 = .ok (.aload_n 0, 1) := by decide +kernel
theorem dX4_letter_5 : decode cX4_letter 5 = .ok (.bipush (-4), 2) := by decide +kernel
theorem dX4_letter_7 : decode cX4_letter 7 = .ok (.invokevirtual 51, 3) := by decide +kernel
theorem dX4_letter_10 : decode cX4_letter 10 = .ok (.ireturn, 1) := by decide +kernel
theorem dX4_letter_11 : decode cX4_letter 11 = .ok (.iload_n 1, 1) := by decide +kernel
theorem dX4_letter_12 : decode cX4_letter 12 = .ok (.sipush 255, 3) := by decide +kernel
theorem dX4_letter_15 : decode cX4_letter 15 = .ok (.if_icmp .gt 15, 3) := by decide +kernel
theorem dX4_letter_18 : decode cX4_letter 18 = .ok (.aload_n 0, 1) := by decide +kernel
theorem dX4_letter_19 : decode cX4_letter 19 = .ok (.getfield 25, 3) := by decide +kernel
theorem dX4_letter_22 : decode cX4_letter 22 = .ok (.getfield 55, 3) := by decide +kernel
theorem dX4_letter_25 : decode cX4_letter 25 = .ok (.bipush 96, 2) := by decide +kernel
theorem dX4_letter_27 : decode cX4_letter 27 = .ok (.if_icmp .lt 10, 3) := by decide +kernel
theorem dX4_letter_30 : decode cX4_letter 30 = .ok (.aload_n 0, 1) := by decide +kernel
theorem dX4_letter_31 : decode cX4_letter 31 = .ok (.bipush (-6), 2) := by decide +kernel
theorem dX4_letter_33 : decode cX4_letter 33 = .ok (.invokevirtual 51, 3) := by decide +kernel
theorem dX4_letter_36 : decode cX4_letter 36 = .ok (.ireturn, 1) := by decide +kernel
theorem dX4_letter_37 : decode cX4_letter 37 = .ok (.aload_n 0, 1) := by decide +kernel
theorem dX4_letter_38 : decode cX4_letter 38 = .ok (.getfield 25, 3) := by decide +kernel
theorem dX4_letter_41 : decode cX4_letter 41 = .ok (.iload_n 1, 1) := by decide +kernel
theorem dX4_letter_42 : decode cX4_letter 42 = .ok (.invokevirtual 59, 3) := by decide +kernel
theorem dX4_letter_45 : decode cX4_letter 45 = .ok (.aload_n 0, 1) := by decide +kernel
theorem dX4_letter_46 : decode cX4_letter 46 = .ok (.getfield 25, 3) := by decide +kernel
theorem dX4_letter_49 : decode cX4_letter 49 = .ok (.getfield 55, 3) := by decide +kernel
theorem dX4_letter_52 : decode cX4_letter 52 = .ok (.ireturn, 1) := by decide +kernel
theorem lnX4_51 : Ln RX4 51 yX4_refuse := Or.inl (tb_in 222 (by decide +kernel) rfl)
theorem moX4_refuse : Mv yX4_refuse kX4_refuse 1 := ⟨⟨tb_in 225 (by decide +kernel) rfl, tb_in 87 (by decide +kernel) rfl, ⟨by decide, by decide⟩, by decide +kernel⟩, tb_in 224 (by decide +kernel) rfl, tb_in 0 (by decide +kernel) rfl⟩
theorem foX4_25 : Fo 4 RX4 TX4 8 3 RX4 25 := ⟨rfl, by decide, rfl, uwX4, rfl, Or.inl (tb_in 196 (by decide +kernel) rfl)⟩
theorem foX4_55 : Fo 2 RX2 TX2 2 1 RX4 55 := ⟨rfl, by decide, rfl, uwX2, rfl, Or.inr ⟨RX4, nt_in 148 (by decide +kernel) rfl⟩⟩
theorem lnX4_59 : Ln RX4 59 yX2_append := Or.inr ⟨RX4, nt_in 226 (by decide +kernel) rfl⟩
theorem moX2_append : Mv yX2_append kX2_append 1 := ⟨⟨tb_in 229 (by decide +kernel) rfl, tb_in 89 (by decide +kernel) rfl, ⟨by decide, by decide⟩, by decide +kernel⟩, tb_in 228 (by decide +kernel) rfl, tb_in 1 (by decide +kernel) rfl⟩
def fX4_letter (n : Nat) (a1 : Int32) (μ : Mem) : Option (Int32 × Mem) :=
  if 0 ≤ a1 then if 255 < a1 then bd (fX4_refuse n (-6) μ) (fun r2 m1 => some (r2, m1)) else if (μ.1 38 1) < 96 then bd (fX2_append n a1 μ) (fun r4 m3 => some ((m3.1 38 1), m3)) else bd (fX4_refuse n (-6) μ) (fun r6 m5 => some (r6, m5)) else bd (fX4_refuse n (-4) μ) (fun r8 m7 => some (r8, m7))
set_option maxHeartbeats 4000000 in
set_option maxRecDepth 100000 in
theorem ctX4_letter (ad : Nat → Nat) (n : Nat) (a1 : Int32) (μ : Mem) : Ct yX4_letter kX4_letter ad encI [.ref (ad 0), .int a1] μ (fX4_letter n a1 μ) := Ct.of (by decide +kernel) rfl (Nat.le_of_ble_eq_true rfl) (by
  show G kX4_letter ad encI 0 [(0, .ref (ad 0)), (1, .int a1)] [] μ (fX4_letter n a1 μ)
  unfold fX4_letter
  refine g_iload_n (pc := 0) 1 dX4_letter_0 rfl rfl ?_
  refine g_if_ge (pc := 1) 11 dX4_letter_1 rfl ?_ ?_
  · refine g_iload_n (pc := 11) 1 dX4_letter_11 rfl rfl ?_
    refine g_sipush (pc := 12) 255 dX4_letter_12 (by decide) ?_
    refine g_icmp_gt (pc := 15) 30 dX4_letter_15 rfl ?_ ?_
    · refine g_aload_n (pc := 30) 0 dX4_letter_30 rfl rfl ?_
      refine g_bipush (pc := 31) (-6) dX4_letter_31 (by decide) ?_
      refine g_cVI (pc := 33) (st := []) [.int (-6)] rfl rfl moX4_refuse lnX4_51 (ctX4_refuse ad n (-6) μ) rfl ⟨Nat.le_of_ble_eq_true rfl, Nat.le_of_ble_eq_true rfl⟩ rfl (Nat.le_of_ble_eq_true rfl) dX4_letter_33 (fun r2 m1 => ?_)
      exact g_ireturn (pc := 36) dX4_letter_36 rfl
    · refine g_aload_n (pc := 18) 0 dX4_letter_18 rfl rfl ?_
      refine g_get (pc := 19) rfl foX4_25 (v := .ref (ad 38)) rfl dX4_letter_19 ?_
      refine g_get (pc := 22) rfl foX4_55 (v := .int (μ.1 38 1)) rfl dX4_letter_22 ?_
      refine g_bipush (pc := 25) 96 dX4_letter_25 (by decide) ?_
      refine g_icmp_lt (pc := 27) 37 dX4_letter_27 rfl ?_ ?_
      · refine g_aload_n (pc := 37) 0 dX4_letter_37 rfl rfl ?_
        refine g_get (pc := 38) rfl foX4_25 (v := .ref (ad 38)) rfl dX4_letter_38 ?_
        refine g_iload_n (pc := 41) 1 dX4_letter_41 rfl rfl ?_
        refine g_cVV (pc := 42) (st := []) [.int a1] rfl rfl moX2_append lnX4_59 (ctX2_append ad n a1 μ) rfl ⟨Nat.le_of_ble_eq_true rfl, Nat.le_of_ble_eq_true rfl⟩ rfl (Nat.le_of_ble_eq_true rfl) dX4_letter_42 (fun r4 m3 => ?_)
        refine g_aload_n (pc := 45) 0 dX4_letter_45 rfl rfl ?_
        refine g_get (pc := 46) rfl foX4_25 (v := .ref (ad 38)) rfl dX4_letter_46 ?_
        refine g_get (pc := 49) rfl foX4_55 (v := .int (m3.1 38 1)) rfl dX4_letter_49 ?_
        exact g_ireturn (pc := 52) dX4_letter_52 rfl
      · refine g_aload_n (pc := 30) 0 dX4_letter_30 rfl rfl ?_
        refine g_bipush (pc := 31) (-6) dX4_letter_31 (by decide) ?_
        refine g_cVI (pc := 33) (st := []) [.int (-6)] rfl rfl moX4_refuse lnX4_51 (ctX4_refuse ad n (-6) μ) rfl ⟨Nat.le_of_ble_eq_true rfl, Nat.le_of_ble_eq_true rfl⟩ rfl (Nat.le_of_ble_eq_true rfl) dX4_letter_33 (fun r6 m5 => ?_)
        exact g_ireturn (pc := 36) dX4_letter_36 rfl
  · refine g_aload_n (pc := 4) 0 dX4_letter_4 rfl rfl ?_
    refine g_bipush (pc := 5) (-4) dX4_letter_5 (by decide) ?_
    refine g_cVI (pc := 7) (st := []) [.int (-4)] rfl rfl moX4_refuse lnX4_51 (ctX4_refuse ad n (-4) μ) rfl ⟨Nat.le_of_ble_eq_true rfl, Nat.le_of_ble_eq_true rfl⟩ rfl (Nat.le_of_ble_eq_true rfl) dX4_letter_7 (fun r8 m7 => ?_)
    exact g_ireturn (pc := 10) dX4_letter_10 rfl)
-- StopsByLetters.readSigns()I
abbrev kX4_readSigns : Cfg := (RX4, cX4_readSigns, 5, (some .int), 9)
theorem dX4_readSigns_0 : decode cX4_readSigns 0 = .ok (.aload_n 0, 1) := by decide +kernel
theorem dX4_readSigns_1 : decode cX4_readSigns 1 = .ok (.getfield 25, 3) := by decide +kernel
theorem dX4_readSigns_4 : decode cX4_readSigns 4 = .ok (.invokevirtual 206, 3) := by decide +kernel
theorem dX4_readSigns_7 : decode cX4_readSigns 7 = .ok (.istore_n 1, 1) := by decide +kernel
theorem dX4_readSigns_8 : decode cX4_readSigns 8 = .ok (.iload_n 1, 1) := by decide +kernel
theorem dX4_readSigns_9 : decode cX4_readSigns 9 = .ok (.ifCond .lt 9, 3) := by decide +kernel
theorem dX4_readSigns_12 : decode cX4_readSigns 12 = .ok (.sipush (-1000), 3) := by decide +kernel
theorem dX4_readSigns_15 : decode cX4_readSigns 15 = .ok (.iload_n 1, 1) := by decide +kernel
theorem dX4_readSigns_16 : decode cX4_readSigns 16 = .ok (.isub, 1) := by decide +kernel
theorem dX4_readSigns_17 : decode cX4_readSigns 17 = .ok (.ireturn, 1) := by decide +kernel
theorem dX4_readSigns_18 : decode cX4_readSigns 18 = .ok (.aload_n 0, 1) := by decide +kernel
theorem dX4_readSigns_19 : decode cX4_readSigns 19 = .ok (.getfield 16, 3) := by decide +kernel
theorem dX4_readSigns_22 : decode cX4_readSigns 22 = .ok (.aload_n 0, 1) := by decide +kernel
theorem dX4_readSigns_23 : decode cX4_readSigns 23 = .ok (.getfield 10, 3) := by decide +kernel
theorem dX4_readSigns_26 : decode cX4_readSigns 26 = .ok (.invokevirtual 134, 3) := by decide +kernel
theorem dX4_readSigns_29 : decode cX4_readSigns 29 = .ok (.iconst 0, 1) := by decide +kernel
theorem dX4_readSigns_30 : decode cX4_readSigns 30 = .ok (.istore_n 2, 1) := by decide +kernel
theorem dX4_readSigns_31 : decode cX4_readSigns 31 = .ok (.iconst 0, 1) := by decide +kernel
theorem dX4_readSigns_32 : decode cX4_readSigns 32 = .ok (.istore_n 3, 1) := by decide +kernel
theorem dX4_readSigns_33 : decode cX4_readSigns 33 = .ok (.iconst 0, 1) := by decide +kernel
theorem dX4_readSigns_34 : decode cX4_readSigns 34 = .ok (.istore 4, 2) := by decide +kernel
theorem dX4_readSigns_36 : decode cX4_readSigns 36 = .ok (.iload 4, 2) := by decide +kernel
theorem dX4_readSigns_38 : decode cX4_readSigns 38 = .ok (.aload_n 0, 1) := by decide +kernel
theorem dX4_readSigns_39 : decode cX4_readSigns 39 = .ok (.getfield 25, 3) := by decide +kernel
theorem dX4_readSigns_42 : decode cX4_readSigns 42 = .ok (.getfield 55, 3) := by decide +kernel
theorem dX4_readSigns_45 : decode cX4_readSigns 45 = .ok (.if_icmp .ge 57, 3) := by decide +kernel
theorem dX4_readSigns_48 : decode cX4_readSigns 48 = .ok (.aload_n 0, 1) := by decide +kernel
theorem dX4_readSigns_49 : decode cX4_readSigns 49 = .ok (.getfield 25, 3) := by decide +kernel
theorem dX4_readSigns_52 : decode cX4_readSigns 52 = .ok (.iload 4, 2) := by decide +kernel
theorem dX4_readSigns_54 : decode cX4_readSigns 54 = .ok (.invokevirtual 209, 3) := by decide +kernel
theorem dX4_readSigns_57 : decode cX4_readSigns 57 = .ok (.bipush 59, 2) := by decide +kernel
theorem dX4_readSigns_59 : decode cX4_readSigns 59 = .ok (.if_icmp .eq 6, 3) := by decide +kernel
theorem dX4_readSigns_62 : decode cX4_readSigns 62 = .ok (.goto 34, 3) := by decide +kernel
theorem dX4_readSigns_65 : decode cX4_readSigns 65 = .ok (.aload_n 0, 1) := by decide +kernel
theorem dX4_readSigns_66 : decode cX4_readSigns 66 = .ok (.getfield 16, 3) := by decide +kernel
theorem dX4_readSigns_69 : decode cX4_readSigns 69 = .ok (.aload_n 0, 1) := by decide +kernel
theorem dX4_readSigns_70 : decode cX4_readSigns 70 = .ok (.getfield 25, 3) := by decide +kernel
theorem dX4_readSigns_73 : decode cX4_readSigns 73 = .ok (.iload_n 3, 1) := by decide +kernel
theorem dX4_readSigns_74 : decode cX4_readSigns 74 = .ok (.iload 4, 2) := by decide +kernel
theorem dX4_readSigns_76 : decode cX4_readSigns 76 = .ok (.invokevirtual 212, 3) := by decide +kernel
theorem dX4_readSigns_79 : decode cX4_readSigns 79 = .ok (.ifCond .ne 9, 3) := by decide +kernel
theorem dX4_readSigns_82 : decode cX4_readSigns 82 = .ok (.sipush (-2000), 3) := by decide +kernel
theorem dX4_readSigns_85 : decode cX4_readSigns 85 = .ok (.iload_n 3, 1) := by decide +kernel
theorem dX4_readSigns_86 : decode cX4_readSigns 86 = .ok (.isub, 1) := by decide +kernel
theorem dX4_readSigns_87 : decode cX4_readSigns 87 = .ok (.ireturn, 1) := by decide +kernel
theorem dX4_readSigns_88 : decode cX4_readSigns 88 = .ok (.iinc 2 1, 3) := by decide +kernel
theorem dX4_readSigns_91 : decode cX4_readSigns 91 = .ok (.iload 4, 2) := by decide +kernel
theorem dX4_readSigns_93 : decode cX4_readSigns 93 = .ok (.iconst 1, 1) := by decide +kernel
theorem dX4_readSigns_94 : decode cX4_readSigns 94 = .ok (.iadd, 1) := by decide +kernel
theorem dX4_readSigns_95 : decode cX4_readSigns 95 = .ok (.istore_n 3, 1) := by decide +kernel
theorem dX4_readSigns_96 : decode cX4_readSigns 96 = .ok (.iinc 4 1, 3) := by decide +kernel
theorem dX4_readSigns_99 : decode cX4_readSigns 99 = .ok (.goto (-63), 3) := by decide +kernel
theorem dX4_readSigns_102 : decode cX4_readSigns 102 = .ok (.aload_n 0, 1) := by decide +kernel
theorem dX4_readSigns_103 : decode cX4_readSigns 103 = .ok (.getfield 10, 3) := by decide +kernel
theorem dX4_readSigns_106 : decode cX4_readSigns 106 = .ok (.aload_n 0, 1) := by decide +kernel
theorem dX4_readSigns_107 : decode cX4_readSigns 107 = .ok (.getfield 16, 3) := by decide +kernel
theorem dX4_readSigns_110 : decode cX4_readSigns 110 = .ok (.invokevirtual 134, 3) := by decide +kernel
theorem dX4_readSigns_113 : decode cX4_readSigns 113 = .ok (.iload_n 2, 1) := by decide +kernel
theorem dX4_readSigns_114 : decode cX4_readSigns 114 = .ok (.ireturn, 1) := by decide +kernel
theorem foX4_16 : Fo 4 RX4 TX4 8 1 RX4 16 := ⟨rfl, by decide, rfl, uwX4, rfl, Or.inl (tb_in 194 (by decide +kernel) rfl)⟩
theorem foX4_10 : Fo 4 RX4 TX4 8 0 RX4 10 := ⟨rfl, by decide, rfl, uwX4, rfl, Or.inl (tb_in 193 (by decide +kernel) rfl)⟩
theorem lnX4_134 : Ln RX4 134 yX3_take := Or.inr ⟨RX4, nt_in 341 (by decide +kernel) rfl⟩
theorem moX3_take : Mv yX3_take kX3_take 1 := ⟨⟨tb_in 344 (by decide +kernel) rfl, tb_in 88 (by decide +kernel) rfl, ⟨by decide, by decide⟩, by decide +kernel⟩, tb_in 343 (by decide +kernel) rfl, tb_in 4 (by decide +kernel) rfl⟩
theorem lnX4_212 : Ln RX4 212 yX3_obey := Or.inr ⟨RX4, nt_in 356 (by decide +kernel) rfl⟩
theorem moX3_obey : Mv yX3_obey kX3_obey 3 := ⟨⟨tb_in 359 (by decide +kernel) rfl, tb_in 88 (by decide +kernel) rfl, ⟨by decide, by decide⟩, by decide +kernel⟩, tb_in 358 (by decide +kernel) rfl, tb_in 7 (by decide +kernel) rfl⟩
theorem lnX4_209 : Ln RX4 209 yX2_at := Or.inr ⟨RX4, nt_in 352 (by decide +kernel) rfl⟩
def fX4_readSigns_L36 (n : Nat) : Nat → Int32 → Int32 → Int32 → Mem → Option (Int32 × Mem)
  | 0, _, _, _, _ => none
  | F + 1, v2, v3, v4, μ => if (μ.1 38 1) ≤ v4 then bd (fX3_take n 2 14 μ) (fun r6 m5 => some (v2, m5)) else bd (fX2_at n v4 μ) (fun r8 m7 => if r8 = 59 then bd (fX3_obey n 14 v3 v4 m7) (fun r10 m9 => if r10 = 0 then some (((-2000) - v3), m9) else bnd (v2 + 1) (fun x11 => bnd (v4 + 1) (fun x12 => bnd (v4 + 1) (fun x13 => fX4_readSigns_L36 n F x11 x12 x13 m9)))) else bnd (v4 + 1) (fun x14 => fX4_readSigns_L36 n F v2 v3 x14 m7))
theorem lnX4_206 : Ln RX4 206 yX2_firstUnreadable := Or.inr ⟨RX4, nt_in 238 (by decide +kernel) rfl⟩
theorem moX2_firstUnreadable : Mv yX2_firstUnreadable kX2_firstUnreadable 0 := ⟨⟨tb_in 241 (by decide +kernel) rfl, tb_in 89 (by decide +kernel) rfl, ⟨by decide, by decide⟩, by decide +kernel⟩, tb_in 240 (by decide +kernel) rfl, tb_in 3 (by decide +kernel) rfl⟩
def fX4_readSigns (n : Nat) (μ : Mem) : Option (Int32 × Mem) :=
  bd (fX2_firstUnreadable n μ) (fun r2 m1 => if r2 < 0 then bd (fX3_take n 14 2 m1) (fun r4 m3 => fX4_readSigns_L36 n n 0 0 0 m3) else some (((-1000) - r2), m1))
set_option maxHeartbeats 4000000 in
set_option maxRecDepth 100000 in
theorem wX4_readSigns_L36 (ad : Nat → Nat) (n : Nat) : ∀ (F : Nat) (v2 : Int32) (v3 : Int32) (v4 : Int32) (μ : Mem), G kX4_readSigns ad encI 36 [(0, .ref (ad 0)), (2, .int v2), (3, .int v3), (4, .int v4)] [] μ (fX4_readSigns_L36 n F v2 v3 v4 μ) := by
  intro F
  induction F with
  | zero =>
    intro v2 v3 v4 μ
    exact g_none
  | succ F ih =>
    intro v2 v3 v4 μ
    rw [fX4_readSigns_L36]
    refine g_iload (pc := 36) 3 dX4_readSigns_36 rfl ?_
    refine g_aload_n (pc := 38) 0 dX4_readSigns_38 rfl rfl ?_
    refine g_get (pc := 39) rfl foX4_25 (v := .ref (ad 38)) rfl dX4_readSigns_39 ?_
    refine g_get (pc := 42) rfl foX4_55 (v := .int (μ.1 38 1)) rfl dX4_readSigns_42 ?_
    refine g_icmp_ge (pc := 45) 102 dX4_readSigns_45 rfl ?_ ?_
    · refine g_aload_n (pc := 102) 0 dX4_readSigns_102 rfl rfl ?_
      refine g_get (pc := 103) rfl foX4_10 (v := .ref (ad 2)) rfl dX4_readSigns_103 ?_
      refine g_aload_n (pc := 106) 0 dX4_readSigns_106 rfl rfl ?_
      refine g_get (pc := 107) rfl foX4_16 (v := .ref (ad 14)) rfl dX4_readSigns_107 ?_
      refine g_cVV (pc := 110) (st := []) [.ref (ad 14)] rfl rfl moX3_take lnX4_134 (ctX3_take ad n 2 14 sT2 sT14 μ) rfl ⟨Nat.le_of_ble_eq_true rfl, Nat.le_of_ble_eq_true rfl⟩ rfl (Nat.le_of_ble_eq_true rfl) dX4_readSigns_110 (fun r6 m5 => ?_)
      refine g_iload_n (pc := 113) 1 dX4_readSigns_113 rfl rfl ?_
      exact g_ireturn (pc := 114) dX4_readSigns_114 rfl
    · refine g_aload_n (pc := 48) 0 dX4_readSigns_48 rfl rfl ?_
      refine g_get (pc := 49) rfl foX4_25 (v := .ref (ad 38)) rfl dX4_readSigns_49 ?_
      refine g_iload (pc := 52) 3 dX4_readSigns_52 rfl ?_
      refine g_cVI (pc := 54) (st := []) [.int v4] rfl rfl moX2_at lnX4_209 (ctX2_at ad n v4 μ) rfl ⟨Nat.le_of_ble_eq_true rfl, Nat.le_of_ble_eq_true rfl⟩ rfl (Nat.le_of_ble_eq_true rfl) dX4_readSigns_54 (fun r8 m7 => ?_)
      refine g_bipush (pc := 57) 59 dX4_readSigns_57 (by decide) ?_
      refine g_icmp_eq (pc := 59) 65 dX4_readSigns_59 rfl ?_ ?_
      · refine g_aload_n (pc := 65) 0 dX4_readSigns_65 rfl rfl ?_
        refine g_get (pc := 66) rfl foX4_16 (v := .ref (ad 14)) rfl dX4_readSigns_66 ?_
        refine g_aload_n (pc := 69) 0 dX4_readSigns_69 rfl rfl ?_
        refine g_get (pc := 70) rfl foX4_25 (v := .ref (ad 38)) rfl dX4_readSigns_70 ?_
        refine g_iload_n (pc := 73) 2 dX4_readSigns_73 rfl rfl ?_
        refine g_iload (pc := 74) 3 dX4_readSigns_74 rfl ?_
        refine g_cVI (pc := 76) (st := []) [.ref (ad 38), .int v3, .int v4] rfl rfl moX3_obey lnX4_212 (ctX3_obey ad n 14 sT14 v3 v4 m7) rfl ⟨Nat.le_of_ble_eq_true rfl, Nat.le_of_ble_eq_true rfl⟩ rfl (Nat.le_of_ble_eq_true rfl) dX4_readSigns_76 (fun r10 m9 => ?_)
        refine g_if_ne (pc := 79) 88 dX4_readSigns_79 rfl ?_ ?_
        · refine g_iincB (pc := 88) 1 1 1 (fun x11 => [(2, .int x11), (0, .ref (ad 0)), (3, .int v3), (4, .int v4)]) dX4_readSigns_88 rfl (by decide) (by decide) (fun _ => rfl) (fun x11 => ?_)
          refine g_iload (pc := 91) 3 dX4_readSigns_91 rfl ?_
          refine g_iconst (pc := 93) 1 dX4_readSigns_93 (by decide) ?_
          refine g_iadd (pc := 94) dX4_readSigns_94 ?_
          refine g_istore_nB (pc := 95) (fun x12 => [(3, .int x12), (2, .int x11), (0, .ref (ad 0)), (4, .int v4)]) dX4_readSigns_95 rfl (by decide) (fun _ => rfl) (fun x12 => ?_)
          refine g_iincB (pc := 96) 3 1 1 (fun x13 => [(4, .int x13), (3, .int x12), (2, .int x11), (0, .ref (ad 0))]) dX4_readSigns_96 rfl (by decide) (by decide) (fun _ => rfl) (fun x13 => ?_)
          refine g_goto (pc := 99) 36 dX4_readSigns_99 rfl ?_
          exact g_sub [3, 2, 1, 0] rfl (ih x11 x12 x13 m9)
        · refine g_sipush (pc := 82) (-2000) dX4_readSigns_82 (by decide) ?_
          refine g_iload_n (pc := 85) 2 dX4_readSigns_85 rfl rfl ?_
          refine g_isub (pc := 86) dX4_readSigns_86 ?_
          exact g_ireturn (pc := 87) dX4_readSigns_87 rfl
      · refine g_goto (pc := 62) 96 dX4_readSigns_62 rfl ?_
        refine g_iincB (pc := 96) 3 1 1 (fun x14 => [(4, .int x14), (0, .ref (ad 0)), (2, .int v2), (3, .int v3)]) dX4_readSigns_96 rfl (by decide) (by decide) (fun _ => rfl) (fun x14 => ?_)
        refine g_goto (pc := 99) 36 dX4_readSigns_99 rfl ?_
        exact g_sub [1, 2, 3, 0] rfl (ih v2 v3 x14 m7)
set_option maxHeartbeats 4000000 in
set_option maxRecDepth 100000 in
theorem ctX4_readSigns (ad : Nat → Nat) (n : Nat) (μ : Mem) : Ct yX4_readSigns kX4_readSigns ad encI [.ref (ad 0)] μ (fX4_readSigns n μ) := Ct.of (by decide +kernel) rfl (Nat.le_of_ble_eq_true rfl) (by
  show G kX4_readSigns ad encI 0 [(0, .ref (ad 0))] [] μ (fX4_readSigns n μ)
  unfold fX4_readSigns
  refine g_aload_n (pc := 0) 0 dX4_readSigns_0 rfl rfl ?_
  refine g_get (pc := 1) rfl foX4_25 (v := .ref (ad 38)) rfl dX4_readSigns_1 ?_
  refine g_cVI (pc := 4) (st := []) [] rfl rfl moX2_firstUnreadable lnX4_206 (ctX2_firstUnreadable ad n μ) rfl ⟨Nat.le_of_ble_eq_true rfl, Nat.le_of_ble_eq_true rfl⟩ rfl (Nat.le_of_ble_eq_true rfl) dX4_readSigns_4 (fun r2 m1 => ?_)
  refine g_istore_n (pc := 7) [(1, .int r2), (0, .ref (ad 0))] dX4_readSigns_7 rfl (by decide) rfl ?_
  refine g_iload_n (pc := 8) 0 dX4_readSigns_8 rfl rfl ?_
  refine g_if_lt (pc := 9) 18 dX4_readSigns_9 rfl ?_ ?_
  · refine g_aload_n (pc := 18) 1 dX4_readSigns_18 rfl rfl ?_
    refine g_get (pc := 19) rfl foX4_16 (v := .ref (ad 14)) rfl dX4_readSigns_19 ?_
    refine g_aload_n (pc := 22) 1 dX4_readSigns_22 rfl rfl ?_
    refine g_get (pc := 23) rfl foX4_10 (v := .ref (ad 2)) rfl dX4_readSigns_23 ?_
    refine g_cVV (pc := 26) (st := []) [.ref (ad 2)] rfl rfl moX3_take lnX4_134 (ctX3_take ad n 14 2 sT14 sT2 m1) rfl ⟨Nat.le_of_ble_eq_true rfl, Nat.le_of_ble_eq_true rfl⟩ rfl (Nat.le_of_ble_eq_true rfl) dX4_readSigns_26 (fun r4 m3 => ?_)
    refine g_iconst (pc := 29) 0 dX4_readSigns_29 (by decide) ?_
    refine g_istore_n (pc := 30) [(2, .int 0), (1, .int r2), (0, .ref (ad 0))] dX4_readSigns_30 rfl (by decide) rfl ?_
    refine g_iconst (pc := 31) 0 dX4_readSigns_31 (by decide) ?_
    refine g_istore_n (pc := 32) [(3, .int 0), (2, .int 0), (1, .int r2), (0, .ref (ad 0))] dX4_readSigns_32 rfl (by decide) rfl ?_
    refine g_iconst (pc := 33) 0 dX4_readSigns_33 (by decide) ?_
    refine g_istore (pc := 34) [(4, .int 0), (3, .int 0), (2, .int 0), (1, .int r2), (0, .ref (ad 0))] dX4_readSigns_34 (by decide) rfl ?_
    exact g_sub [4, 2, 1, 0] rfl (wX4_readSigns_L36 ad n n 0 0 0 m3)
  · refine g_sipush (pc := 12) (-1000) dX4_readSigns_12 (by decide) ?_
    refine g_iload_n (pc := 15) 0 dX4_readSigns_15 rfl rfl ?_
    refine g_isub (pc := 16) dX4_readSigns_16 ?_
    exact g_ireturn (pc := 17) dX4_readSigns_17 rfl)
-- StopsByLetters.line()I
abbrev kX4_line : Cfg := (RX4, cX4_line, 2, (some .int), 10)
theorem dX4_line_0 : decode cX4_line 0 = .ok (.aload_n 0, 1) := by decide +kernel
theorem dX4_line_1 : decode cX4_line 1 = .ok (.invokevirtual 63, 3) := by decide +kernel
theorem dX4_line_4 : decode cX4_line 4 = .ok (.istore_n 1, 1) := by decide +kernel
theorem dX4_line_5 : decode cX4_line 5 = .ok (.aload_n 0, 1) := by decide +kernel
theorem dX4_line_6 : decode cX4_line 6 = .ok (.getfield 25, 3) := by decide +kernel
theorem dX4_line_9 : decode cX4_line 9 = .ok (.iconst 0, 1) := by decide +kernel
theorem dX4_line_10 : decode cX4_line 10 = .ok (.putfield 55, 3) := by decide +kernel
theorem dX4_line_13 : decode cX4_line 13 = .ok (.iload_n 1, 1) := by decide +kernel
theorem dX4_line_14 : decode cX4_line 14 = .ok (.ireturn, 1) := by decide +kernel
theorem lnX4_63 : Ln RX4 63 yX4_readSigns := Or.inl (tb_in 234 (by decide +kernel) rfl)
theorem moX4_readSigns : Mv yX4_readSigns kX4_readSigns 0 := ⟨⟨tb_in 237 (by decide +kernel) rfl, tb_in 87 (by decide +kernel) rfl, ⟨by decide, by decide⟩, by decide +kernel⟩, tb_in 236 (by decide +kernel) rfl, tb_in 2 (by decide +kernel) rfl⟩
def fX4_line (n : Nat) (μ : Mem) : Option (Int32 × Mem) :=
  bd (fX4_readSigns n μ) (fun r2 m1 => bnd (setI m1 38 1 0) (fun m3 => some (r2, m3)))
set_option maxHeartbeats 4000000 in
set_option maxRecDepth 100000 in
theorem ctX4_line (ad : Nat → Nat) (n : Nat) (μ : Mem) : Ct yX4_line kX4_line ad encI [.ref (ad 0)] μ (fX4_line n μ) := Ct.of (by decide +kernel) rfl (Nat.le_of_ble_eq_true rfl) (by
  show G kX4_line ad encI 0 [(0, .ref (ad 0))] [] μ (fX4_line n μ)
  unfold fX4_line
  refine g_aload_n (pc := 0) 0 dX4_line_0 rfl rfl ?_
  refine g_cVI (pc := 1) (st := []) [] rfl rfl moX4_readSigns lnX4_63 (ctX4_readSigns ad n μ) rfl ⟨Nat.le_of_ble_eq_true rfl, Nat.le_of_ble_eq_true rfl⟩ rfl (Nat.le_of_ble_eq_true rfl) dX4_line_1 (fun r2 m1 => ?_)
  refine g_istore_n (pc := 4) [(1, .int r2), (0, .ref (ad 0))] dX4_line_4 rfl (by decide) rfl ?_
  refine g_aload_n (pc := 5) 1 dX4_line_5 rfl rfl ?_
  refine g_get (pc := 6) rfl foX4_25 (v := .ref (ad 38)) rfl dX4_line_6 ?_
  refine g_iconst (pc := 9) 0 dX4_line_9 (by decide) ?_
  refine g_put (pc := 10) rfl foX4_55 fpX2_1 rfl rfl dX4_line_10 (fun m3 => ?_)
  refine g_iload_n (pc := 13) 0 dX4_line_13 rfl rfl ?_
  exact g_ireturn (pc := 14) dX4_line_14 rfl)
-- StopsByLetters.station(II)I
abbrev kX4_station : Cfg := (RX4, cX4_station, 3, (some .int), 3)
theorem dX4_station_0 : decode cX4_station 0 = .ok (.aload_n 0, 1) := by decide +kernel
theorem dX4_station_1 : decode cX4_station 1 = .ok (.getfield 10, 3) := by decide +kernel
theorem dX4_station_4 : decode cX4_station 4 = .ok (.iload_n 1, 1) := by decide +kernel
theorem dX4_station_5 : decode cX4_station 5 = .ok (.invokevirtual 67, 3) := by decide +kernel
theorem dX4_station_8 : decode cX4_station 8 = .ok (.ifCond .ne 9, 3) := by decide +kernel
theorem dX4_station_11 : decode cX4_station 11 = .ok (.aload_n 0, 1) := by decide +kernel
theorem dX4_station_12 : decode cX4_station 12 = .ok (.iconst (-1), 1) := by decide +kernel
theorem dX4_station_13 : decode cX4_station 13 = .ok (.invokevirtual 51, 3) := by decide +kernel
theorem dX4_station_16 : decode cX4_station 16 = .ok (.ireturn, 1) := by decide +kernel
theorem dX4_station_17 : decode cX4_station 17 = .ok (.iload_n 2, 1) := by decide +kernel
theorem dX4_station_18 : decode cX4_station 18 = .ok (.tableswitch 68 0 3 #[30, 40, 50, 59], 30) := by decide +kernel
theorem dX4_station_48 : decode cX4_station 48 = .ok (.aload_n 0, 1) := by decide +kernel
theorem dX4_station_49 : decode cX4_station 49 = .ok (.getfield 10, 3) := by decide +kernel
theorem dX4_station_52 : decode cX4_station 52 = .ok (.getfield 71, 3) := by decide +kernel
theorem dX4_station_55 : decode cX4_station 55 = .ok (.iload_n 1, 1) := by decide +kernel
theorem dX4_station_56 : decode cX4_station 56 = .ok (.iaload, 1) := by decide +kernel
theorem dX4_station_57 : decode cX4_station 57 = .ok (.ireturn, 1) := by decide +kernel
theorem dX4_station_58 : decode cX4_station 58 = .ok (.aload_n 0, 1) := by decide +kernel
theorem dX4_station_59 : decode cX4_station 59 = .ok (.getfield 10, 3) := by decide +kernel
theorem dX4_station_62 : decode cX4_station 62 = .ok (.getfield 74, 3) := by decide +kernel
theorem dX4_station_65 : decode cX4_station 65 = .ok (.iload_n 1, 1) := by decide +kernel
theorem dX4_station_66 : decode cX4_station 66 = .ok (.iaload, 1) := by decide +kernel
theorem dX4_station_67 : decode cX4_station 67 = .ok (.ireturn, 1) := by decide +kernel
theorem dX4_station_68 : decode cX4_station 68 = .ok (.aload_n 0, 1) := by decide +kernel
theorem dX4_station_69 : decode cX4_station 69 = .ok (.getfield 10, 3) := by decide +kernel
theorem dX4_station_72 : decode cX4_station 72 = .ok (.iload_n 1, 1) := by decide +kernel
theorem dX4_station_73 : decode cX4_station 73 = .ok (.invokevirtual 77, 3) := by decide +kernel
theorem dX4_station_76 : decode cX4_station 76 = .ok (.ireturn, 1) := by decide +kernel
theorem dX4_station_77 : decode cX4_station 77 = .ok (.aload_n 0, 1) := by decide +kernel
theorem dX4_station_78 : decode cX4_station 78 = .ok (.getfield 10, 3) := by decide +kernel
theorem dX4_station_81 : decode cX4_station 81 = .ok (.iload_n 1, 1) := by decide +kernel
theorem dX4_station_82 : decode cX4_station 82 = .ok (.invokevirtual 80, 3) := by decide +kernel
theorem dX4_station_85 : decode cX4_station 85 = .ok (.ireturn, 1) := by decide +kernel
theorem dX4_station_86 : decode cX4_station 86 = .ok (.aload_n 0, 1) := by decide +kernel
theorem dX4_station_87 : decode cX4_station 87 = .ok (.bipush (-2), 2) := by decide +kernel
theorem dX4_station_89 : decode cX4_station 89 = .ok (.invokevirtual 51, 3) := by decide +kernel
theorem dX4_station_92 : decode cX4_station 92 = .ok (.ireturn, 1) := by decide +kernel
theorem foX4_71 : Fo 3 RX3 TX3 5 0 RX4 71 := ⟨rfl, by decide, rfl, uwX3, rfl, Or.inr ⟨RX4, nt_in 118 (by decide +kernel) rfl⟩⟩
theorem foX4_74 : Fo 3 RX3 TX3 5 1 RX4 74 := ⟨rfl, by decide, rfl, uwX3, rfl, Or.inr ⟨RX4, nt_in 120 (by decide +kernel) rfl⟩⟩
theorem lnX4_77 : Ln RX4 77 yX3_ridesFrom := Or.inr ⟨RX4, nt_in 380 (by decide +kernel) rfl⟩
theorem lnX4_80 : Ln RX4 80 yX3_stopsFrom := Or.inr ⟨RX4, nt_in 404 (by decide +kernel) rfl⟩
theorem lnX4_67 : Ln RX4 67 yX3_has := Or.inr ⟨RX4, nt_in 379 (by decide +kernel) rfl⟩
def fX4_station (n : Nat) (a1 : Int32) (a2 : Int32) (μ : Mem) : Option (Int32 × Mem) :=
  bd (fX3_has n 2 a1 μ) (fun r2 m1 => if r2 = 0 then bd (fX4_refuse n (-1) m1) (fun r15 m14 => some (r15, m14)) else bnd a2 (fun sx3 => if sx3 = 0 then gd (inb a1 8) (some ((m1.1 3 (Int32.toNatClampNeg a1)), m1)) else if sx3 = 1 then gd (inb a1 8) (some ((m1.1 4 (Int32.toNatClampNeg a1)), m1)) else if sx3 = 2 then bd (fX3_ridesFrom n 2 a1 m1) (fun r7 m6 => some (r7, m6)) else if sx3 = 3 then bd (fX3_stopsFrom n 2 a1 m1) (fun r10 m9 => some (r10, m9)) else bd (fX4_refuse n (-2) m1) (fun r13 m12 => some (r13, m12))))
set_option maxHeartbeats 4000000 in
set_option maxRecDepth 100000 in
theorem ctX4_station (ad : Nat → Nat) (n : Nat) (a1 : Int32) (a2 : Int32) (μ : Mem) : Ct yX4_station kX4_station ad encI [.ref (ad 0), .int a1, .int a2] μ (fX4_station n a1 a2 μ) := Ct.of (by decide +kernel) rfl (Nat.le_of_ble_eq_true rfl) (by
  show G kX4_station ad encI 0 [(0, .ref (ad 0)), (1, .int a1), (2, .int a2)] [] μ (fX4_station n a1 a2 μ)
  unfold fX4_station
  refine g_aload_n (pc := 0) 0 dX4_station_0 rfl rfl ?_
  refine g_get (pc := 1) rfl foX4_10 (v := .ref (ad 2)) rfl dX4_station_1 ?_
  refine g_iload_n (pc := 4) 1 dX4_station_4 rfl rfl ?_
  refine g_cVI (pc := 5) (st := []) [.int a1] rfl rfl moX3_has lnX4_67 (ctX3_has ad n 2 sT2 a1 μ) rfl ⟨Nat.le_of_ble_eq_true rfl, Nat.le_of_ble_eq_true rfl⟩ rfl (Nat.le_of_ble_eq_true rfl) dX4_station_5 (fun r2 m1 => ?_)
  refine g_if_ne (pc := 8) 17 dX4_station_8 rfl ?_ ?_
  · refine g_iload_n (pc := 17) 2 dX4_station_17 rfl rfl ?_
    refine g_swx (fun sx3 => ?_)
    refine g_ite (fun hq => ?_) (fun hs4 => ?_)
    · subst hq
      refine g_tabIn (pc := 18) 48 30 dX4_station_18 (by decide) ?_
      refine g_aload_n (pc := 48) 0 dX4_station_48 rfl rfl ?_
      refine g_get (pc := 49) rfl foX4_10 (v := .ref (ad 2)) rfl dX4_station_49 ?_
      refine g_get (pc := 52) rfl foX4_71 (v := .ref (ad 3)) rfl dX4_station_52 ?_
      refine g_iload_n (pc := 55) 1 dX4_station_55 rfl rfl ?_
      refine g_iald (pc := 56) rfl (by decide) dX4_station_56 ?_
      exact g_ireturn (pc := 57) dX4_station_57 rfl
    ·
      refine g_ite (fun hq => ?_) (fun hs5 => ?_)
      · subst hq
        refine g_tabIn (pc := 18) 58 40 dX4_station_18 (by decide) ?_
        refine g_aload_n (pc := 58) 0 dX4_station_58 rfl rfl ?_
        refine g_get (pc := 59) rfl foX4_10 (v := .ref (ad 2)) rfl dX4_station_59 ?_
        refine g_get (pc := 62) rfl foX4_74 (v := .ref (ad 4)) rfl dX4_station_62 ?_
        refine g_iload_n (pc := 65) 1 dX4_station_65 rfl rfl ?_
        refine g_iald (pc := 66) rfl (by decide) dX4_station_66 ?_
        exact g_ireturn (pc := 67) dX4_station_67 rfl
      ·
        refine g_ite (fun hq => ?_) (fun hs8 => ?_)
        · subst hq
          refine g_tabIn (pc := 18) 68 50 dX4_station_18 (by decide) ?_
          refine g_aload_n (pc := 68) 0 dX4_station_68 rfl rfl ?_
          refine g_get (pc := 69) rfl foX4_10 (v := .ref (ad 2)) rfl dX4_station_69 ?_
          refine g_iload_n (pc := 72) 1 dX4_station_72 rfl rfl ?_
          refine g_cVI (pc := 73) (st := []) [.int a1] rfl rfl moX3_ridesFrom lnX4_77 (ctX3_ridesFrom ad n 2 sT2 a1 m1) rfl ⟨Nat.le_of_ble_eq_true rfl, Nat.le_of_ble_eq_true rfl⟩ rfl (Nat.le_of_ble_eq_true rfl) dX4_station_73 (fun r7 m6 => ?_)
          exact g_ireturn (pc := 76) dX4_station_76 rfl
        ·
          refine g_ite (fun hq => ?_) (fun hs11 => ?_)
          · subst hq
            refine g_tabIn (pc := 18) 77 59 dX4_station_18 (by decide) ?_
            refine g_aload_n (pc := 77) 0 dX4_station_77 rfl rfl ?_
            refine g_get (pc := 78) rfl foX4_10 (v := .ref (ad 2)) rfl dX4_station_78 ?_
            refine g_iload_n (pc := 81) 1 dX4_station_81 rfl rfl ?_
            refine g_cVI (pc := 82) (st := []) [.int a1] rfl rfl moX3_stopsFrom lnX4_80 (ctX3_stopsFrom ad n 2 sT2 a1 m1) rfl ⟨Nat.le_of_ble_eq_true rfl, Nat.le_of_ble_eq_true rfl⟩ rfl (Nat.le_of_ble_eq_true rfl) dX4_station_82 (fun r10 m9 => ?_)
            exact g_ireturn (pc := 85) dX4_station_85 rfl
          ·
            refine g_tabD (pc := 18) 86 dX4_station_18 [0, 1, 2, 3] (by decide) ⟨hs4, hs5, hs8, hs11, trivial⟩ rfl ?_
            refine g_aload_n (pc := 86) 0 dX4_station_86 rfl rfl ?_
            refine g_bipush (pc := 87) (-2) dX4_station_87 (by decide) ?_
            refine g_cVI (pc := 89) (st := []) [.int (-2)] rfl rfl moX4_refuse lnX4_51 (ctX4_refuse ad n (-2) m1) rfl ⟨Nat.le_of_ble_eq_true rfl, Nat.le_of_ble_eq_true rfl⟩ rfl (Nat.le_of_ble_eq_true rfl) dX4_station_89 (fun r13 m12 => ?_)
            exact g_ireturn (pc := 92) dX4_station_92 rfl
  · refine g_aload_n (pc := 11) 0 dX4_station_11 rfl rfl ?_
    refine g_iconst (pc := 12) (-1) dX4_station_12 (by decide) ?_
    refine g_cVI (pc := 13) (st := []) [.int (-1)] rfl rfl moX4_refuse lnX4_51 (ctX4_refuse ad n (-1) m1) rfl ⟨Nat.le_of_ble_eq_true rfl, Nat.le_of_ble_eq_true rfl⟩ rfl (Nat.le_of_ble_eq_true rfl) dX4_station_13 (fun r15 m14 => ?_)
    exact g_ireturn (pc := 16) dX4_station_16 rfl)
-- StopsByLetters.name(II)I
abbrev kX4_name : Cfg := (RX4, cX4_name, 3, (some .int), 1)
theorem dX4_name_0 : decode cX4_name 0 = .ok (.aload_n 0, 1) := by decide +kernel
theorem dX4_name_1 : decode cX4_name 1 = .ok (.getfield 10, 3) := by decide +kernel
theorem dX4_name_4 : decode cX4_name 4 = .ok (.iload_n 1, 1) := by decide +kernel
theorem dX4_name_5 : decode cX4_name 5 = .ok (.invokevirtual 67, 3) := by decide +kernel
theorem dX4_name_8 : decode cX4_name 8 = .ok (.ifCond .ne 9, 3) := by decide +kernel
theorem dX4_name_11 : decode cX4_name 11 = .ok (.aload_n 0, 1) := by decide +kernel
theorem dX4_name_12 : decode cX4_name 12 = .ok (.iconst (-1), 1) := by decide +kernel
theorem dX4_name_13 : decode cX4_name 13 = .ok (.invokevirtual 51, 3) := by decide +kernel
theorem dX4_name_16 : decode cX4_name 16 = .ok (.ireturn, 1) := by decide +kernel
theorem dX4_name_17 : decode cX4_name 17 = .ok (.iload_n 2, 1) := by decide +kernel
theorem dX4_name_18 : decode cX4_name 18 = .ok (.ifCond .lt 16, 3) := by decide +kernel
theorem dX4_name_21 : decode cX4_name 21 = .ok (.iload_n 2, 1) := by decide +kernel
theorem dX4_name_22 : decode cX4_name 22 = .ok (.aload_n 0, 1) := by decide +kernel
theorem dX4_name_23 : decode cX4_name 23 = .ok (.getfield 10, 3) := by decide +kernel
theorem dX4_name_26 : decode cX4_name 26 = .ok (.getfield 74, 3) := by decide +kernel
theorem dX4_name_29 : decode cX4_name 29 = .ok (.iload_n 1, 1) := by decide +kernel
theorem dX4_name_30 : decode cX4_name 30 = .ok (.iaload, 1) := by decide +kernel
theorem dX4_name_31 : decode cX4_name 31 = .ok (.if_icmp .lt 9, 3) := by decide +kernel
theorem dX4_name_34 : decode cX4_name 34 = .ok (.aload_n 0, 1) := by decide +kernel
theorem dX4_name_35 : decode cX4_name 35 = .ok (.iconst (-1), 1) := by decide +kernel
theorem dX4_name_36 : decode cX4_name 36 = .ok (.invokevirtual 51, 3) := by decide +kernel
theorem dX4_name_39 : decode cX4_name 39 = .ok (.ireturn, 1) := by decide +kernel
theorem dX4_name_40 : decode cX4_name 40 = .ok (.aload_n 0, 1) := by decide +kernel
theorem dX4_name_41 : decode cX4_name 41 = .ok (.getfield 10, 3) := by decide +kernel
theorem dX4_name_44 : decode cX4_name 44 = .ok (.getfield 83, 3) := by decide +kernel
theorem dX4_name_47 : decode cX4_name 47 = .ok (.iload_n 1, 1) := by decide +kernel
theorem dX4_name_48 : decode cX4_name 48 = .ok (.aaload, 1) := by decide +kernel
theorem dX4_name_49 : decode cX4_name 49 = .ok (.iload_n 2, 1) := by decide +kernel
theorem dX4_name_50 : decode cX4_name 50 = .ok (.iaload, 1) := by decide +kernel
theorem dX4_name_51 : decode cX4_name 51 = .ok (.ireturn, 1) := by decide +kernel
theorem foX4_83 : Fo 3 RX3 TX3 5 2 RX4 83 := ⟨rfl, by decide, rfl, uwX3, rfl, Or.inr ⟨RX4, nt_in 122 (by decide +kernel) rfl⟩⟩
def fX4_name (n : Nat) (a1 : Int32) (a2 : Int32) (μ : Mem) : Option (Int32 × Mem) :=
  bd (fX3_has n 2 a1 μ) (fun r2 m1 => if r2 = 0 then bd (fX4_refuse n (-1) m1) (fun r9 m8 => some (r9, m8)) else if a2 < 0 then bd (fX4_refuse n (-1) m1) (fun r4 m3 => some (r4, m3)) else gd (inb a1 8) (if a2 < (m1.1 4 (Int32.toNatClampNeg a1)) then gd (inb a1 8) (gd (inb a2 10) (some ((m1.1 (5 + 1 + (Int32.toNatClampNeg a1)) (Int32.toNatClampNeg a2)), m1))) else bd (fX4_refuse n (-1) m1) (fun r7 m6 => some (r7, m6))))
set_option maxHeartbeats 4000000 in
set_option maxRecDepth 100000 in
theorem ctX4_name (ad : Nat → Nat) (n : Nat) (a1 : Int32) (a2 : Int32) (μ : Mem) : Ct yX4_name kX4_name ad encI [.ref (ad 0), .int a1, .int a2] μ (fX4_name n a1 a2 μ) := Ct.of (by decide +kernel) rfl (Nat.le_of_ble_eq_true rfl) (by
  show G kX4_name ad encI 0 [(0, .ref (ad 0)), (1, .int a1), (2, .int a2)] [] μ (fX4_name n a1 a2 μ)
  unfold fX4_name
  refine g_aload_n (pc := 0) 0 dX4_name_0 rfl rfl ?_
  refine g_get (pc := 1) rfl foX4_10 (v := .ref (ad 2)) rfl dX4_name_1 ?_
  refine g_iload_n (pc := 4) 1 dX4_name_4 rfl rfl ?_
  refine g_cVI (pc := 5) (st := []) [.int a1] rfl rfl moX3_has lnX4_67 (ctX3_has ad n 2 sT2 a1 μ) rfl ⟨Nat.le_of_ble_eq_true rfl, Nat.le_of_ble_eq_true rfl⟩ rfl (Nat.le_of_ble_eq_true rfl) dX4_name_5 (fun r2 m1 => ?_)
  refine g_if_ne (pc := 8) 17 dX4_name_8 rfl ?_ ?_
  · refine g_iload_n (pc := 17) 2 dX4_name_17 rfl rfl ?_
    refine g_if_lt (pc := 18) 34 dX4_name_18 rfl ?_ ?_
    · refine g_aload_n (pc := 34) 0 dX4_name_34 rfl rfl ?_
      refine g_iconst (pc := 35) (-1) dX4_name_35 (by decide) ?_
      refine g_cVI (pc := 36) (st := []) [.int (-1)] rfl rfl moX4_refuse lnX4_51 (ctX4_refuse ad n (-1) m1) rfl ⟨Nat.le_of_ble_eq_true rfl, Nat.le_of_ble_eq_true rfl⟩ rfl (Nat.le_of_ble_eq_true rfl) dX4_name_36 (fun r4 m3 => ?_)
      exact g_ireturn (pc := 39) dX4_name_39 rfl
    · refine g_iload_n (pc := 21) 2 dX4_name_21 rfl rfl ?_
      refine g_aload_n (pc := 22) 0 dX4_name_22 rfl rfl ?_
      refine g_get (pc := 23) rfl foX4_10 (v := .ref (ad 2)) rfl dX4_name_23 ?_
      refine g_get (pc := 26) rfl foX4_74 (v := .ref (ad 4)) rfl dX4_name_26 ?_
      refine g_iload_n (pc := 29) 1 dX4_name_29 rfl rfl ?_
      refine g_iald (pc := 30) rfl (by decide) dX4_name_30 ?_
      refine g_icmp_lt (pc := 31) 40 dX4_name_31 rfl ?_ ?_
      · refine g_aload_n (pc := 40) 0 dX4_name_40 rfl rfl ?_
        refine g_get (pc := 41) rfl foX4_10 (v := .ref (ad 2)) rfl dX4_name_41 ?_
        refine g_get (pc := 44) rfl foX4_83 (v := .ref (ad 5)) rfl dX4_name_44 ?_
        refine g_iload_n (pc := 47) 1 dX4_name_47 rfl rfl ?_
        refine g_aald (pc := 48) rfl dX4_name_48 (fun hi5 => ?_)
        refine g_iload_n (pc := 49) 2 dX4_name_49 rfl rfl ?_
        refine g_iald (pc := 50) (st_i sT2 hi5) (by decide) dX4_name_50 ?_
        exact g_ireturn (pc := 51) dX4_name_51 rfl
      · refine g_aload_n (pc := 34) 0 dX4_name_34 rfl rfl ?_
        refine g_iconst (pc := 35) (-1) dX4_name_35 (by decide) ?_
        refine g_cVI (pc := 36) (st := []) [.int (-1)] rfl rfl moX4_refuse lnX4_51 (ctX4_refuse ad n (-1) m1) rfl ⟨Nat.le_of_ble_eq_true rfl, Nat.le_of_ble_eq_true rfl⟩ rfl (Nat.le_of_ble_eq_true rfl) dX4_name_36 (fun r7 m6 => ?_)
        exact g_ireturn (pc := 39) dX4_name_39 rfl
  · refine g_aload_n (pc := 11) 0 dX4_name_11 rfl rfl ?_
    refine g_iconst (pc := 12) (-1) dX4_name_12 (by decide) ?_
    refine g_cVI (pc := 13) (st := []) [.int (-1)] rfl rfl moX4_refuse lnX4_51 (ctX4_refuse ad n (-1) m1) rfl ⟨Nat.le_of_ble_eq_true rfl, Nat.le_of_ble_eq_true rfl⟩ rfl (Nat.le_of_ble_eq_true rfl) dX4_name_13 (fun r9 m8 => ?_)
    exact g_ireturn (pc := 16) dX4_name_16 rfl)
-- StopsByLetters.kind(II)I
abbrev kX4_kind : Cfg := (RX4, cX4_kind, 4, (some .int), 1)
theorem dX4_kind_0 : decode cX4_kind 0 = .ok (.aload_n 0, 1) := by decide +kernel
theorem dX4_kind_1 : decode cX4_kind 1 = .ok (.getfield 10, 3) := by decide +kernel
theorem dX4_kind_4 : decode cX4_kind 4 = .ok (.iload_n 1, 1) := by decide +kernel
theorem dX4_kind_5 : decode cX4_kind 5 = .ok (.invokevirtual 67, 3) := by decide +kernel
theorem dX4_kind_8 : decode cX4_kind 8 = .ok (.ifCond .ne 9, 3) := by decide +kernel
theorem dX4_kind_11 : decode cX4_kind 11 = .ok (.aload_n 0, 1) := by decide +kernel
theorem dX4_kind_12 : decode cX4_kind 12 = .ok (.iconst (-1), 1) := by decide +kernel
theorem dX4_kind_13 : decode cX4_kind 13 = .ok (.invokevirtual 51, 3) := by decide +kernel
theorem dX4_kind_16 : decode cX4_kind 16 = .ok (.ireturn, 1) := by decide +kernel
theorem dX4_kind_17 : decode cX4_kind 17 = .ok (.iload_n 2, 1) := by decide +kernel
theorem dX4_kind_18 : decode cX4_kind 18 = .ok (.ifCond .lt 8, 3) := by decide +kernel
theorem dX4_kind_21 : decode cX4_kind 21 = .ok (.iload_n 2, 1) := by decide +kernel
theorem dX4_kind_22 : decode cX4_kind 22 = .ok (.iconst 5, 1) := by decide +kernel
theorem dX4_kind_23 : decode cX4_kind 23 = .ok (.if_icmp .le 10, 3) := by decide +kernel
theorem dX4_kind_26 : decode cX4_kind 26 = .ok (.aload_n 0, 1) := by decide +kernel
theorem dX4_kind_27 : decode cX4_kind 27 = .ok (.bipush (-2), 2) := by decide +kernel
theorem dX4_kind_29 : decode cX4_kind 29 = .ok (.invokevirtual 51, 3) := by decide +kernel
theorem dX4_kind_32 : decode cX4_kind 32 = .ok (.ireturn, 1) := by decide +kernel
theorem dX4_kind_33 : decode cX4_kind 33 = .ok (.aload_n 0, 1) := by decide +kernel
theorem dX4_kind_34 : decode cX4_kind 34 = .ok (.getfield 10, 3) := by decide +kernel
theorem dX4_kind_37 : decode cX4_kind 37 = .ok (.getfield 71, 3) := by decide +kernel
theorem dX4_kind_40 : decode cX4_kind 40 = .ok (.iload_n 1, 1) := by decide +kernel
theorem dX4_kind_41 : decode cX4_kind 41 = .ok (.iaload, 1) := by decide +kernel
theorem dX4_kind_42 : decode cX4_kind 42 = .ok (.istore_n 3, 1) := by decide +kernel
theorem dX4_kind_43 : decode cX4_kind 43 = .ok (.aload_n 0, 1) := by decide +kernel
theorem dX4_kind_44 : decode cX4_kind 44 = .ok (.getfield 10, 3) := by decide +kernel
theorem dX4_kind_47 : decode cX4_kind 47 = .ok (.getfield 71, 3) := by decide +kernel
theorem dX4_kind_50 : decode cX4_kind 50 = .ok (.iload_n 1, 1) := by decide +kernel
theorem dX4_kind_51 : decode cX4_kind 51 = .ok (.iload_n 2, 1) := by decide +kernel
theorem dX4_kind_52 : decode cX4_kind 52 = .ok (.iastore, 1) := by decide +kernel
theorem dX4_kind_53 : decode cX4_kind 53 = .ok (.iload_n 3, 1) := by decide +kernel
theorem dX4_kind_54 : decode cX4_kind 54 = .ok (.ireturn, 1) := by decide +kernel
def fX4_kind (n : Nat) (a1 : Int32) (a2 : Int32) (μ : Mem) : Option (Int32 × Mem) :=
  bd (fX3_has n 2 a1 μ) (fun r2 m1 => if r2 = 0 then bd (fX4_refuse n (-1) m1) (fun r10 m9 => some (r10, m9)) else if a2 < 0 then bd (fX4_refuse n (-2) m1) (fun r4 m3 => some (r4, m3)) else if a2 ≤ 5 then gd (inb a1 8) (bnd (m1.1 3 (Int32.toNatClampNeg a1)) (fun x5 => gd (inb a1 8) (bnd (setI m1 3 (Int32.toNatClampNeg a1) a2) (fun m6 => some (x5, m6))))) else bd (fX4_refuse n (-2) m1) (fun r8 m7 => some (r8, m7)))
set_option maxHeartbeats 4000000 in
set_option maxRecDepth 100000 in
theorem ctX4_kind (ad : Nat → Nat) (n : Nat) (a1 : Int32) (a2 : Int32) (μ : Mem) : Ct yX4_kind kX4_kind ad encI [.ref (ad 0), .int a1, .int a2] μ (fX4_kind n a1 a2 μ) := Ct.of (by decide +kernel) rfl (Nat.le_of_ble_eq_true rfl) (by
  show G kX4_kind ad encI 0 [(0, .ref (ad 0)), (1, .int a1), (2, .int a2)] [] μ (fX4_kind n a1 a2 μ)
  unfold fX4_kind
  refine g_aload_n (pc := 0) 0 dX4_kind_0 rfl rfl ?_
  refine g_get (pc := 1) rfl foX4_10 (v := .ref (ad 2)) rfl dX4_kind_1 ?_
  refine g_iload_n (pc := 4) 1 dX4_kind_4 rfl rfl ?_
  refine g_cVI (pc := 5) (st := []) [.int a1] rfl rfl moX3_has lnX4_67 (ctX3_has ad n 2 sT2 a1 μ) rfl ⟨Nat.le_of_ble_eq_true rfl, Nat.le_of_ble_eq_true rfl⟩ rfl (Nat.le_of_ble_eq_true rfl) dX4_kind_5 (fun r2 m1 => ?_)
  refine g_if_ne (pc := 8) 17 dX4_kind_8 rfl ?_ ?_
  · refine g_iload_n (pc := 17) 2 dX4_kind_17 rfl rfl ?_
    refine g_if_lt (pc := 18) 26 dX4_kind_18 rfl ?_ ?_
    · refine g_aload_n (pc := 26) 0 dX4_kind_26 rfl rfl ?_
      refine g_bipush (pc := 27) (-2) dX4_kind_27 (by decide) ?_
      refine g_cVI (pc := 29) (st := []) [.int (-2)] rfl rfl moX4_refuse lnX4_51 (ctX4_refuse ad n (-2) m1) rfl ⟨Nat.le_of_ble_eq_true rfl, Nat.le_of_ble_eq_true rfl⟩ rfl (Nat.le_of_ble_eq_true rfl) dX4_kind_29 (fun r4 m3 => ?_)
      exact g_ireturn (pc := 32) dX4_kind_32 rfl
    · refine g_iload_n (pc := 21) 2 dX4_kind_21 rfl rfl ?_
      refine g_iconst (pc := 22) 5 dX4_kind_22 (by decide) ?_
      refine g_icmp_le (pc := 23) 33 dX4_kind_23 rfl ?_ ?_
      · refine g_aload_n (pc := 33) 0 dX4_kind_33 rfl rfl ?_
        refine g_get (pc := 34) rfl foX4_10 (v := .ref (ad 2)) rfl dX4_kind_34 ?_
        refine g_get (pc := 37) rfl foX4_71 (v := .ref (ad 3)) rfl dX4_kind_37 ?_
        refine g_iload_n (pc := 40) 1 dX4_kind_40 rfl rfl ?_
        refine g_iald (pc := 41) rfl (by decide) dX4_kind_41 ?_
        refine g_istore_nB (pc := 42) (fun x5 => [(3, .int x5), (0, .ref (ad 0)), (1, .int a1), (2, .int a2)]) dX4_kind_42 rfl (by decide) (fun _ => rfl) (fun x5 => ?_)
        refine g_aload_n (pc := 43) 1 dX4_kind_43 rfl rfl ?_
        refine g_get (pc := 44) rfl foX4_10 (v := .ref (ad 2)) rfl dX4_kind_44 ?_
        refine g_get (pc := 47) rfl foX4_71 (v := .ref (ad 3)) rfl dX4_kind_47 ?_
        refine g_iload_n (pc := 50) 2 dX4_kind_50 rfl rfl ?_
        refine g_iload_n (pc := 51) 3 dX4_kind_51 rfl rfl ?_
        refine g_iast (pc := 52) rfl (by decide) dX4_kind_52 (fun m6 => ?_)
        refine g_iload_n (pc := 53) 0 dX4_kind_53 rfl rfl ?_
        exact g_ireturn (pc := 54) dX4_kind_54 rfl
      · refine g_aload_n (pc := 26) 0 dX4_kind_26 rfl rfl ?_
        refine g_bipush (pc := 27) (-2) dX4_kind_27 (by decide) ?_
        refine g_cVI (pc := 29) (st := []) [.int (-2)] rfl rfl moX4_refuse lnX4_51 (ctX4_refuse ad n (-2) m1) rfl ⟨Nat.le_of_ble_eq_true rfl, Nat.le_of_ble_eq_true rfl⟩ rfl (Nat.le_of_ble_eq_true rfl) dX4_kind_29 (fun r8 m7 => ?_)
        exact g_ireturn (pc := 32) dX4_kind_32 rfl
  · refine g_aload_n (pc := 11) 0 dX4_kind_11 rfl rfl ?_
    refine g_iconst (pc := 12) (-1) dX4_kind_12 (by decide) ?_
    refine g_cVI (pc := 13) (st := []) [.int (-1)] rfl rfl moX4_refuse lnX4_51 (ctX4_refuse ad n (-1) m1) rfl ⟨Nat.le_of_ble_eq_true rfl, Nat.le_of_ble_eq_true rfl⟩ rfl (Nat.le_of_ble_eq_true rfl) dX4_kind_13 (fun r10 m9 => ?_)
    exact g_ireturn (pc := 16) dX4_kind_16 rfl)
-- StopsByLetters.isChoice(I)Z
abbrev kX4_isChoice : Cfg := (RX4, cX4_isChoice, 1, (some .boolean), 0)
theorem dX4_isChoice_0 : decode cX4_isChoice 0 = .ok (.iload_n 0, 1) := by decide +kernel
theorem dX4_isChoice_1 : decode cX4_isChoice 1 = .ok (.ifCond .eq 8, 3) := by decide +kernel
theorem dX4_isChoice_4 : decode cX4_isChoice 4 = .ok (.iload_n 0, 1) := by decide +kernel
theorem dX4_isChoice_5 : decode cX4_isChoice 5 = .ok (.iconst 1, 1) := by decide +kernel
theorem dX4_isChoice_6 : decode cX4_isChoice 6 = .ok (.if_icmp .ne 7, 3) := by decide +kernel
theorem dX4_isChoice_9 : decode cX4_isChoice 9 = .ok (.iconst 1, 1) := by decide +kernel
theorem dX4_isChoice_10 : decode cX4_isChoice 10 = .ok (.goto 4, 3) := by decide +kernel
theorem dX4_isChoice_13 : decode cX4_isChoice 13 = .ok (.iconst 0, 1) := by decide +kernel
theorem dX4_isChoice_14 : decode cX4_isChoice 14 = .ok (.ireturn, 1) := by decide +kernel
def fX4_isChoice (n : Nat) (a0 : Int32) (μ : Mem) : Option (Int32 × Mem) :=
  if a0 = 0 then some (1, μ) else if a0 = 1 then some (1, μ) else some (0, μ)
set_option maxHeartbeats 4000000 in
set_option maxRecDepth 100000 in
theorem ctX4_isChoice (ad : Nat → Nat) (n : Nat) (a0 : Int32) (μ : Mem) : Ct yX4_isChoice kX4_isChoice ad encI [.int a0] μ (fX4_isChoice n a0 μ) := Ct.of (by decide +kernel) rfl (Nat.le_of_ble_eq_true rfl) (by
  show G kX4_isChoice ad encI 0 [(0, .int a0)] [] μ (fX4_isChoice n a0 μ)
  unfold fX4_isChoice
  refine g_iload_n (pc := 0) 0 dX4_isChoice_0 rfl rfl ?_
  refine g_if_eq (pc := 1) 9 dX4_isChoice_1 rfl ?_ ?_
  · refine g_iconst (pc := 9) 1 dX4_isChoice_9 (by decide) ?_
    refine g_goto (pc := 10) 14 dX4_isChoice_10 rfl ?_
    exact g_zreturn (pc := 14) (by decide) dX4_isChoice_14 rfl
  · refine g_iload_n (pc := 4) 0 dX4_isChoice_4 rfl rfl ?_
    refine g_iconst (pc := 5) 1 dX4_isChoice_5 (by decide) ?_
    refine g_icmp_ne (pc := 6) 13 dX4_isChoice_6 rfl ?_ ?_
    · refine g_iconst (pc := 13) 0 dX4_isChoice_13 (by decide) ?_
      exact g_zreturn (pc := 14) (by decide) dX4_isChoice_14 rfl
    · refine g_iconst (pc := 9) 1 dX4_isChoice_9 (by decide) ?_
      refine g_goto (pc := 10) 14 dX4_isChoice_10 rfl ?_
      exact g_zreturn (pc := 14) (by decide) dX4_isChoice_14 rfl)
-- StopsByLetters.form(I)I
abbrev kX4_form : Cfg := (RX4, cX4_form, 3, (some .int), 1)
theorem dX4_form_0 : decode cX4_form 0 = .ok (.iload_n 1, 1) := by decide +kernel
theorem dX4_form_1 : decode cX4_form 1 = .ok (.invokestatic 87, 3) := by decide +kernel
theorem dX4_form_4 : decode cX4_form 4 = .ok (.ifCond .ne 10, 3) := by decide +kernel
theorem dX4_form_7 : decode cX4_form 7 = .ok (.aload_n 0, 1) := by decide +kernel
theorem dX4_form_8 : decode cX4_form 8 = .ok (.bipush (-2), 2) := by decide +kernel
theorem dX4_form_10 : decode cX4_form 10 = .ok (.invokevirtual 51, 3) := by decide +kernel
theorem dX4_form_13 : decode cX4_form 13 = .ok (.ireturn, 1) := by decide +kernel
theorem dX4_form_14 : decode cX4_form 14 = .ok (.aload_n 0, 1) := by decide +kernel
theorem dX4_form_15 : decode cX4_form 15 = .ok (.getfield 10, 3) := by decide +kernel
theorem dX4_form_18 : decode cX4_form 18 = .ok (.getfield 90, 3) := by decide +kernel
theorem dX4_form_21 : decode cX4_form 21 = .ok (.ifCond .eq 7, 3) := by decide +kernel
theorem dX4_form_24 : decode cX4_form 24 = .ok (.iconst 1, 1) := by decide +kernel
theorem dX4_form_25 : decode cX4_form 25 = .ok (.goto 4, 3) := by decide +kernel
theorem dX4_form_28 : decode cX4_form 28 = .ok (.iconst 0, 1) := by decide +kernel
theorem dX4_form_29 : decode cX4_form 29 = .ok (.istore_n 2, 1) := by decide +kernel
theorem dX4_form_30 : decode cX4_form 30 = .ok (.aload_n 0, 1) := by decide +kernel
theorem dX4_form_31 : decode cX4_form 31 = .ok (.getfield 10, 3) := by decide +kernel
theorem dX4_form_34 : decode cX4_form 34 = .ok (.iload_n 1, 1) := by decide +kernel
theorem dX4_form_35 : decode cX4_form 35 = .ok (.iconst 1, 1) := by decide +kernel
theorem dX4_form_36 : decode cX4_form 36 = .ok (.if_icmp .ne 7, 3) := by decide +kernel
theorem dX4_form_39 : decode cX4_form 39 = .ok (.iconst 1, 1) := by decide +kernel
theorem dX4_form_40 : decode cX4_form 40 = .ok (.goto 4, 3) := by decide +kernel
theorem dX4_form_43 : decode cX4_form 43 = .ok (.iconst 0, 1) := by decide +kernel
theorem dX4_form_44 : decode cX4_form 44 = .ok (.putfield 90, 3) := by decide +kernel
theorem dX4_form_47 : decode cX4_form 47 = .ok (.iload_n 2, 1) := by decide +kernel
theorem dX4_form_48 : decode cX4_form 48 = .ok (.ireturn, 1) := by decide +kernel
theorem foX4_90 : Fo 3 RX3 TX3 5 4 RX4 90 := ⟨rfl, by decide, rfl, uwX3, rfl, Or.inr ⟨RX4, nt_in 127 (by decide +kernel) rfl⟩⟩
theorem lnX4_87 : Ln RX4 87 yX4_isChoice := Or.inl (tb_in 417 (by decide +kernel) rfl)
theorem moX4_isChoice : Ms yX4_isChoice kX4_isChoice 1 := ⟨⟨tb_in 419 (by decide +kernel) rfl, tb_in 87 (by decide +kernel) rfl, ⟨by decide, by decide⟩, by decide +kernel⟩, tb_in 418 (by decide +kernel) rfl⟩
def fX4_form (n : Nat) (a1 : Int32) (μ : Mem) : Option (Int32 × Mem) :=
  bd (fX4_isChoice n a1 μ) (fun r2 m1 => if r2 = 0 then bd (fX4_refuse n (-2) m1) (fun r9 m8 => some (r9, m8)) else bnd (fun (x4 : Int32) (m5 : Mem) => if a1 = 1 then bnd (setI m5 2 4 1) (fun m7 => some (x4, m7)) else bnd (setI m5 2 4 0) (fun m6 => some (x4, m6))) (fun kb3 => if (m1.1 2 4) = 0 then kb3 0 m1 else kb3 1 m1))
set_option maxHeartbeats 4000000 in
set_option maxRecDepth 100000 in
theorem ctX4_form (ad : Nat → Nat) (n : Nat) (a1 : Int32) (μ : Mem) : Ct yX4_form kX4_form ad encI [.ref (ad 0), .int a1] μ (fX4_form n a1 μ) := Ct.of (by decide +kernel) rfl (Nat.le_of_ble_eq_true rfl) (by
  show G kX4_form ad encI 0 [(0, .ref (ad 0)), (1, .int a1)] [] μ (fX4_form n a1 μ)
  unfold fX4_form
  refine g_iload_n (pc := 0) 1 dX4_form_0 rfl rfl ?_
  refine g_cSI (pc := 1) (st := []) [.int a1] moX4_isChoice lnX4_87 (ctX4_isChoice ad n a1 μ) rfl ⟨Nat.le_of_ble_eq_true rfl, Nat.le_of_ble_eq_true rfl⟩ rfl (Nat.le_of_ble_eq_true rfl) dX4_form_1 (fun r2 m1 => ?_)
  refine g_if_ne (pc := 4) 14 dX4_form_4 rfl ?_ ?_
  · refine g_aload_n (pc := 14) 0 dX4_form_14 rfl rfl ?_
    refine g_get (pc := 15) rfl foX4_10 (v := .ref (ad 2)) rfl dX4_form_15 ?_
    refine g_get (pc := 18) rfl foX4_90 (v := .int (m1.1 2 4)) rfl dX4_form_18 ?_
    refine g_join (fun kb => ∀ (x4 : Int32) (m5 : Mem), G kX4_form ad encI 29 [(0, .ref (ad 0)), (1, .int a1)] [.int x4] m5 (kb x4 m5)) (fun x4 m5 => ?_) (fun kb3 hkb3 => ?_)
    · refine g_istore_n (pc := 29) [(2, .int x4), (0, .ref (ad 0)), (1, .int a1)] dX4_form_29 rfl (by decide) rfl ?_
      refine g_aload_n (pc := 30) 1 dX4_form_30 rfl rfl ?_
      refine g_get (pc := 31) rfl foX4_10 (v := .ref (ad 2)) rfl dX4_form_31 ?_
      refine g_iload_n (pc := 34) 2 dX4_form_34 rfl rfl ?_
      refine g_iconst (pc := 35) 1 dX4_form_35 (by decide) ?_
      refine g_icmp_ne (pc := 36) 43 dX4_form_36 rfl ?_ ?_
      · refine g_iconst (pc := 43) 0 dX4_form_43 (by decide) ?_
        refine g_putZ (pc := 44) (by decide) rfl foX4_90 fpX3_4 rfl rfl dX4_form_44 (fun m6 => ?_)
        refine g_iload_n (pc := 47) 0 dX4_form_47 rfl rfl ?_
        exact g_ireturn (pc := 48) dX4_form_48 rfl
      · refine g_iconst (pc := 39) 1 dX4_form_39 (by decide) ?_
        refine g_goto (pc := 40) 44 dX4_form_40 rfl ?_
        refine g_putZ (pc := 44) (by decide) rfl foX4_90 fpX3_4 rfl rfl dX4_form_44 (fun m7 => ?_)
        refine g_iload_n (pc := 47) 0 dX4_form_47 rfl rfl ?_
        exact g_ireturn (pc := 48) dX4_form_48 rfl
    ·
      refine g_if_eq (pc := 21) 28 dX4_form_21 rfl ?_ ?_
      · refine g_iconst (pc := 28) 0 dX4_form_28 (by decide) ?_
        exact g_sub [0, 1] rfl (hkb3 0 m1)
      · refine g_iconst (pc := 24) 1 dX4_form_24 (by decide) ?_
        refine g_goto (pc := 25) 29 dX4_form_25 rfl ?_
        exact g_sub [0, 1] rfl (hkb3 1 m1)
  · refine g_aload_n (pc := 7) 0 dX4_form_7 rfl rfl ?_
    refine g_bipush (pc := 8) (-2) dX4_form_8 (by decide) ?_
    refine g_cVI (pc := 10) (st := []) [.int (-2)] rfl rfl moX4_refuse lnX4_51 (ctX4_refuse ad n (-2) m1) rfl ⟨Nat.le_of_ble_eq_true rfl, Nat.le_of_ble_eq_true rfl⟩ rfl (Nat.le_of_ble_eq_true rfl) dX4_form_10 (fun r9 m8 => ?_)
    exact g_ireturn (pc := 13) dX4_form_13 rfl)
-- StopsByLetters.few(II)I
abbrev kX4_few : Cfg := (RX4, cX4_few, 3, (some .int), 4)
theorem dX4_few_0 : decode cX4_few 0 = .ok (.aload_n 0, 1) := by decide +kernel
theorem dX4_few_1 : decode cX4_few 1 = .ok (.getfield 10, 3) := by decide +kernel
theorem dX4_few_4 : decode cX4_few 4 = .ok (.iload_n 1, 1) := by decide +kernel
theorem dX4_few_5 : decode cX4_few 5 = .ok (.invokevirtual 67, 3) := by decide +kernel
theorem dX4_few_8 : decode cX4_few 8 = .ok (.ifCond .eq 14, 3) := by decide +kernel
theorem dX4_few_11 : decode cX4_few 11 = .ok (.aload_n 0, 1) := by decide +kernel
theorem dX4_few_12 : decode cX4_few 12 = .ok (.getfield 10, 3) := by decide +kernel
theorem dX4_few_15 : decode cX4_few 15 = .ok (.iload_n 2, 1) := by decide +kernel
theorem dX4_few_16 : decode cX4_few 16 = .ok (.invokevirtual 67, 3) := by decide +kernel
theorem dX4_few_19 : decode cX4_few 19 = .ok (.ifCond .ne 9, 3) := by decide +kernel
theorem dX4_few_22 : decode cX4_few 22 = .ok (.aload_n 0, 1) := by decide +kernel
theorem dX4_few_23 : decode cX4_few 23 = .ok (.iconst (-1), 1) := by decide +kernel
theorem dX4_few_24 : decode cX4_few 24 = .ok (.invokevirtual 51, 3) := by decide +kernel
theorem dX4_few_27 : decode cX4_few 27 = .ok (.ireturn, 1) := by decide +kernel
theorem dX4_few_28 : decode cX4_few 28 = .ok (.aload_n 0, 1) := by decide +kernel
theorem dX4_few_29 : decode cX4_few 29 = .ok (.getfield 39, 3) := by decide +kernel
theorem dX4_few_32 : decode cX4_few 32 = .ok (.aload_n 0, 1) := by decide +kernel
theorem dX4_few_33 : decode cX4_few 33 = .ok (.getfield 10, 3) := by decide +kernel
theorem dX4_few_36 : decode cX4_few 36 = .ok (.invokevirtual 93, 3) := by decide +kernel
theorem dX4_few_39 : decode cX4_few 39 = .ok (.aload_n 0, 1) := by decide +kernel
theorem dX4_few_40 : decode cX4_few 40 = .ok (.getfield 39, 3) := by decide +kernel
theorem dX4_few_43 : decode cX4_few 43 = .ok (.iload_n 1, 1) := by decide +kernel
theorem dX4_few_44 : decode cX4_few 44 = .ok (.iload_n 2, 1) := by decide +kernel
theorem dX4_few_45 : decode cX4_few 45 = .ok (.invokevirtual 97, 3) := by decide +kernel
theorem dX4_few_48 : decode cX4_few 48 = .ok (.ireturn, 1) := by decide +kernel
theorem foX4_39 : Fo 4 RX4 TX4 8 5 RX4 39 := ⟨rfl, by decide, rfl, uwX4, rfl, Or.inl (tb_in 198 (by decide +kernel) rfl)⟩
theorem lnX4_97 : Ln RX4 97 yX0_fewest := Or.inr ⟨RX4, nt_in 433 (by decide +kernel) rfl⟩
theorem moX0_fewest : Mv yX0_fewest kX0_fewest 2 := ⟨⟨tb_in 436 (by decide +kernel) rfl, tb_in 91 (by decide +kernel) rfl, ⟨by decide, by decide⟩, by decide +kernel⟩, tb_in 435 (by decide +kernel) rfl, tb_in 18 (by decide +kernel) rfl⟩
theorem lnX4_93 : Ln RX4 93 yX0_lay := Or.inr ⟨RX4, nt_in 424 (by decide +kernel) rfl⟩
theorem moX0_lay : Mv yX0_lay kX0_lay 1 := ⟨⟨tb_in 427 (by decide +kernel) rfl, tb_in 91 (by decide +kernel) rfl, ⟨by decide, by decide⟩, by decide +kernel⟩, tb_in 426 (by decide +kernel) rfl, tb_in 16 (by decide +kernel) rfl⟩
def fX4_few (n : Nat) (a1 : Int32) (a2 : Int32) (μ : Mem) : Option (Int32 × Mem) :=
  bd (fX3_has n 2 a1 μ) (fun r2 m1 => if r2 = 0 then bd (fX4_refuse n (-1) m1) (fun r4 m3 => some (r4, m3)) else bd (fX3_has n 2 a2 m1) (fun r6 m5 => if r6 = 0 then bd (fX4_refuse n (-1) m5) (fun r12 m11 => some (r12, m11)) else bd (fX0_lay n 2 m5) (fun r8 m7 => bd (fX0_fewest n a1 a2 m7) (fun r10 m9 => some (r10, m9)))))
set_option maxHeartbeats 4000000 in
set_option maxRecDepth 100000 in
theorem ctX4_few (ad : Nat → Nat) (n : Nat) (a1 : Int32) (a2 : Int32) (μ : Mem) : Ct yX4_few kX4_few ad encI [.ref (ad 0), .int a1, .int a2] μ (fX4_few n a1 a2 μ) := Ct.of (by decide +kernel) rfl (Nat.le_of_ble_eq_true rfl) (by
  show G kX4_few ad encI 0 [(0, .ref (ad 0)), (1, .int a1), (2, .int a2)] [] μ (fX4_few n a1 a2 μ)
  unfold fX4_few
  refine g_aload_n (pc := 0) 0 dX4_few_0 rfl rfl ?_
  refine g_get (pc := 1) rfl foX4_10 (v := .ref (ad 2)) rfl dX4_few_1 ?_
  refine g_iload_n (pc := 4) 1 dX4_few_4 rfl rfl ?_
  refine g_cVI (pc := 5) (st := []) [.int a1] rfl rfl moX3_has lnX4_67 (ctX3_has ad n 2 sT2 a1 μ) rfl ⟨Nat.le_of_ble_eq_true rfl, Nat.le_of_ble_eq_true rfl⟩ rfl (Nat.le_of_ble_eq_true rfl) dX4_few_5 (fun r2 m1 => ?_)
  refine g_if_eq (pc := 8) 22 dX4_few_8 rfl ?_ ?_
  · refine g_aload_n (pc := 22) 0 dX4_few_22 rfl rfl ?_
    refine g_iconst (pc := 23) (-1) dX4_few_23 (by decide) ?_
    refine g_cVI (pc := 24) (st := []) [.int (-1)] rfl rfl moX4_refuse lnX4_51 (ctX4_refuse ad n (-1) m1) rfl ⟨Nat.le_of_ble_eq_true rfl, Nat.le_of_ble_eq_true rfl⟩ rfl (Nat.le_of_ble_eq_true rfl) dX4_few_24 (fun r4 m3 => ?_)
    exact g_ireturn (pc := 27) dX4_few_27 rfl
  · refine g_aload_n (pc := 11) 0 dX4_few_11 rfl rfl ?_
    refine g_get (pc := 12) rfl foX4_10 (v := .ref (ad 2)) rfl dX4_few_12 ?_
    refine g_iload_n (pc := 15) 2 dX4_few_15 rfl rfl ?_
    refine g_cVI (pc := 16) (st := []) [.int a2] rfl rfl moX3_has lnX4_67 (ctX3_has ad n 2 sT2 a2 m1) rfl ⟨Nat.le_of_ble_eq_true rfl, Nat.le_of_ble_eq_true rfl⟩ rfl (Nat.le_of_ble_eq_true rfl) dX4_few_16 (fun r6 m5 => ?_)
    refine g_if_ne (pc := 19) 28 dX4_few_19 rfl ?_ ?_
    · refine g_aload_n (pc := 28) 0 dX4_few_28 rfl rfl ?_
      refine g_get (pc := 29) rfl foX4_39 (v := .ref (ad 42)) rfl dX4_few_29 ?_
      refine g_aload_n (pc := 32) 0 dX4_few_32 rfl rfl ?_
      refine g_get (pc := 33) rfl foX4_10 (v := .ref (ad 2)) rfl dX4_few_33 ?_
      refine g_cVV (pc := 36) (st := []) [.ref (ad 2)] rfl rfl moX0_lay lnX4_93 (ctX0_lay ad n 2 sT2 m5) rfl ⟨Nat.le_of_ble_eq_true rfl, Nat.le_of_ble_eq_true rfl⟩ rfl (Nat.le_of_ble_eq_true rfl) dX4_few_36 (fun r8 m7 => ?_)
      refine g_aload_n (pc := 39) 0 dX4_few_39 rfl rfl ?_
      refine g_get (pc := 40) rfl foX4_39 (v := .ref (ad 42)) rfl dX4_few_40 ?_
      refine g_iload_n (pc := 43) 1 dX4_few_43 rfl rfl ?_
      refine g_iload_n (pc := 44) 2 dX4_few_44 rfl rfl ?_
      refine g_cVI (pc := 45) (st := []) [.int a1, .int a2] rfl rfl moX0_fewest lnX4_97 (ctX0_fewest ad n a1 a2 m7) rfl ⟨Nat.le_of_ble_eq_true rfl, Nat.le_of_ble_eq_true rfl⟩ rfl (Nat.le_of_ble_eq_true rfl) dX4_few_45 (fun r10 m9 => ?_)
      exact g_ireturn (pc := 48) dX4_few_48 rfl
    · refine g_aload_n (pc := 22) 0 dX4_few_22 rfl rfl ?_
      refine g_iconst (pc := 23) (-1) dX4_few_23 (by decide) ?_
      refine g_cVI (pc := 24) (st := []) [.int (-1)] rfl rfl moX4_refuse lnX4_51 (ctX4_refuse ad n (-1) m5) rfl ⟨Nat.le_of_ble_eq_true rfl, Nat.le_of_ble_eq_true rfl⟩ rfl (Nat.le_of_ble_eq_true rfl) dX4_few_24 (fun r12 m11 => ?_)
      exact g_ireturn (pc := 27) dX4_few_27 rfl)
-- StopsByLetters.refuseLong(I)J
abbrev kX4_refuseLong : Cfg := (RX4, cX4_refuseLong, 2, (some .long), 1)
theorem dX4_refuseLong_0 : decode cX4_refuseLong 0 = .ok (.ldc2_w 198, 3) := by decide +kernel
theorem dX4_refuseLong_3 : decode cX4_refuseLong 3 = .ok (.aload_n 0, 1) := by decide +kernel
theorem dX4_refuseLong_4 : decode cX4_refuseLong 4 = .ok (.iload_n 1, 1) := by decide +kernel
theorem dX4_refuseLong_5 : decode cX4_refuseLong 5 = .ok (.invokevirtual 51, 3) := by decide +kernel
theorem dX4_refuseLong_8 : decode cX4_refuseLong 8 = .ok (.i2l, 1) := by decide +kernel
theorem dX4_refuseLong_9 : decode cX4_refuseLong 9 = .ok (.lsub, 1) := by decide +kernel
theorem dX4_refuseLong_10 : decode cX4_refuseLong 10 = .ok (.lreturn, 1) := by decide +kernel
theorem cwX4_198 : Cond.constantLong RX4 198 (4000000000000000000 : Int64) ∈ TB := tb_in 449 (by decide +kernel) rfl
def fX4_refuseLong (n : Nat) (a1 : Int32) (μ : Mem) : Option (Int64 × Mem) :=
  bd (fX4_refuse n a1 μ) (fun r2 m1 => some ((4000000000000000000 - r2.toInt64), m1))
set_option maxHeartbeats 4000000 in
set_option maxRecDepth 100000 in
theorem ctX4_refuseLong (ad : Nat → Nat) (n : Nat) (a1 : Int32) (μ : Mem) : Ct yX4_refuseLong kX4_refuseLong ad encJ [.ref (ad 0), .int a1] μ (fX4_refuseLong n a1 μ) := Ct.of (by decide +kernel) rfl (Nat.le_of_ble_eq_true rfl) (by
  show G kX4_refuseLong ad encJ 0 [(0, .ref (ad 0)), (1, .int a1)] [] μ (fX4_refuseLong n a1 μ)
  unfold fX4_refuseLong
  refine g_ldc2 (pc := 0) dX4_refuseLong_0 cwX4_198 ?_
  refine g_aload_n (pc := 3) 0 dX4_refuseLong_3 rfl rfl ?_
  refine g_iload_n (pc := 4) 1 dX4_refuseLong_4 rfl rfl ?_
  refine g_cVI (pc := 5) (st := [.long 4000000000000000000]) [.int a1] rfl rfl moX4_refuse lnX4_51 (ctX4_refuse ad n a1 μ) rfl ⟨Nat.le_of_ble_eq_true rfl, Nat.le_of_ble_eq_true rfl⟩ rfl (Nat.le_of_ble_eq_true rfl) dX4_refuseLong_5 (fun r2 m1 => ?_)
  refine g_i2l (pc := 8) dX4_refuseLong_8 ?_
  refine g_lsub (pc := 9) dX4_refuseLong_9 ?_
  exact g_lreturn (pc := 10) dX4_refuseLong_10 rfl)
-- StopsByLetters.ways(III)J
abbrev kX4_ways : Cfg := (RX4, cX4_ways, 4, (some .long), 4)
theorem dX4_ways_0 : decode cX4_ways 0 = .ok (.aload_n 0, 1) := by decide +kernel
theorem dX4_ways_1 : decode cX4_ways 1 = .ok (.getfield 10, 3) := by decide +kernel
theorem dX4_ways_4 : decode cX4_ways 4 = .ok (.iload_n 1, 1) := by decide +kernel
theorem dX4_ways_5 : decode cX4_ways 5 = .ok (.invokevirtual 67, 3) := by decide +kernel
theorem dX4_ways_8 : decode cX4_ways 8 = .ok (.ifCond .eq 14, 3) := by decide +kernel
theorem dX4_ways_11 : decode cX4_ways 11 = .ok (.aload_n 0, 1) := by decide +kernel
theorem dX4_ways_12 : decode cX4_ways 12 = .ok (.getfield 10, 3) := by decide +kernel
theorem dX4_ways_15 : decode cX4_ways 15 = .ok (.iload_n 2, 1) := by decide +kernel
theorem dX4_ways_16 : decode cX4_ways 16 = .ok (.invokevirtual 67, 3) := by decide +kernel
theorem dX4_ways_19 : decode cX4_ways 19 = .ok (.ifCond .ne 9, 3) := by decide +kernel
theorem dX4_ways_22 : decode cX4_ways 22 = .ok (.aload_n 0, 1) := by decide +kernel
theorem dX4_ways_23 : decode cX4_ways 23 = .ok (.iconst (-1), 1) := by decide +kernel
theorem dX4_ways_24 : decode cX4_ways 24 = .ok (.invokevirtual 101, 3) := by decide +kernel
theorem dX4_ways_27 : decode cX4_ways 27 = .ok (.lreturn, 1) := by decide +kernel
theorem dX4_ways_28 : decode cX4_ways 28 = .ok (.iload_n 3, 1) := by decide +kernel
theorem dX4_ways_29 : decode cX4_ways 29 = .ok (.ifCond .ge 10, 3) := by decide +kernel
theorem dX4_ways_32 : decode cX4_ways 32 = .ok (.aload_n 0, 1) := by decide +kernel
theorem dX4_ways_33 : decode cX4_ways 33 = .ok (.bipush (-4), 2) := by decide +kernel
theorem dX4_ways_35 : decode cX4_ways 35 = .ok (.invokevirtual 101, 3) := by decide +kernel
theorem dX4_ways_38 : decode cX4_ways 38 = .ok (.lreturn, 1) := by decide +kernel
theorem dX4_ways_39 : decode cX4_ways 39 = .ok (.iload_n 3, 1) := by decide +kernel
theorem dX4_ways_40 : decode cX4_ways 40 = .ok (.bipush 20, 2) := by decide +kernel
theorem dX4_ways_42 : decode cX4_ways 42 = .ok (.if_icmp .le 10, 3) := by decide +kernel
theorem dX4_ways_45 : decode cX4_ways 45 = .ok (.aload_n 0, 1) := by decide +kernel
theorem dX4_ways_46 : decode cX4_ways 46 = .ok (.bipush (-6), 2) := by decide +kernel
theorem dX4_ways_48 : decode cX4_ways 48 = .ok (.invokevirtual 101, 3) := by decide +kernel
theorem dX4_ways_51 : decode cX4_ways 51 = .ok (.lreturn, 1) := by decide +kernel
theorem dX4_ways_52 : decode cX4_ways 52 = .ok (.aload_n 0, 1) := by decide +kernel
theorem dX4_ways_53 : decode cX4_ways 53 = .ok (.getfield 39, 3) := by decide +kernel
theorem dX4_ways_56 : decode cX4_ways 56 = .ok (.aload_n 0, 1) := by decide +kernel
theorem dX4_ways_57 : decode cX4_ways 57 = .ok (.getfield 10, 3) := by decide +kernel
theorem dX4_ways_60 : decode cX4_ways 60 = .ok (.invokevirtual 93, 3) := by decide +kernel
theorem dX4_ways_63 : decode cX4_ways 63 = .ok (.aload_n 0, 1) := by decide +kernel
theorem dX4_ways_64 : decode cX4_ways 64 = .ok (.getfield 39, 3) := by decide +kernel
theorem dX4_ways_67 : decode cX4_ways 67 = .ok (.iload_n 1, 1) := by decide +kernel
theorem dX4_ways_68 : decode cX4_ways 68 = .ok (.iload_n 2, 1) := by decide +kernel
theorem dX4_ways_69 : decode cX4_ways 69 = .ok (.iload_n 3, 1) := by decide +kernel
theorem dX4_ways_70 : decode cX4_ways 70 = .ok (.invokevirtual 105, 3) := by decide +kernel
theorem dX4_ways_73 : decode cX4_ways 73 = .ok (.lreturn, 1) := by decide +kernel
theorem lnX4_101 : Ln RX4 101 yX4_refuseLong := Or.inl (tb_in 445 (by decide +kernel) rfl)
theorem moX4_refuseLong : Mv yX4_refuseLong kX4_refuseLong 1 := ⟨⟨tb_in 448 (by decide +kernel) rfl, tb_in 87 (by decide +kernel) rfl, ⟨by decide, by decide⟩, by decide +kernel⟩, tb_in 447 (by decide +kernel) rfl, tb_in 20 (by decide +kernel) rfl⟩
theorem lnX4_105 : Ln RX4 105 yX0_waysBy := Or.inr ⟨RX4, nt_in 450 (by decide +kernel) rfl⟩
theorem moX0_waysBy : Mv yX0_waysBy kX0_waysBy 3 := ⟨⟨tb_in 453 (by decide +kernel) rfl, tb_in 91 (by decide +kernel) rfl, ⟨by decide, by decide⟩, by decide +kernel⟩, tb_in 452 (by decide +kernel) rfl, tb_in 21 (by decide +kernel) rfl⟩
def fX4_ways (n : Nat) (a1 : Int32) (a2 : Int32) (a3 : Int32) (μ : Mem) : Option (Int64 × Mem) :=
  bd (fX3_has n 2 a1 μ) (fun r2 m1 => if r2 = 0 then bd (fX4_refuseLong n (-1) m1) (fun r4 m3 => some (r4, m3)) else bd (fX3_has n 2 a2 m1) (fun r6 m5 => if r6 = 0 then bd (fX4_refuseLong n (-1) m5) (fun r16 m15 => some (r16, m15)) else if 0 ≤ a3 then if a3 ≤ 20 then bd (fX0_lay n 2 m5) (fun r8 m7 => bd (fX0_waysBy n a1 a2 a3 m7) (fun r10 m9 => some (r10, m9))) else bd (fX4_refuseLong n (-6) m5) (fun r12 m11 => some (r12, m11)) else bd (fX4_refuseLong n (-4) m5) (fun r14 m13 => some (r14, m13))))
set_option maxHeartbeats 4000000 in
set_option maxRecDepth 100000 in
theorem ctX4_ways (ad : Nat → Nat) (n : Nat) (a1 : Int32) (a2 : Int32) (a3 : Int32) (μ : Mem) : Ct yX4_ways kX4_ways ad encJ [.ref (ad 0), .int a1, .int a2, .int a3] μ (fX4_ways n a1 a2 a3 μ) := Ct.of (by decide +kernel) rfl (Nat.le_of_ble_eq_true rfl) (by
  show G kX4_ways ad encJ 0 [(0, .ref (ad 0)), (1, .int a1), (2, .int a2), (3, .int a3)] [] μ (fX4_ways n a1 a2 a3 μ)
  unfold fX4_ways
  refine g_aload_n (pc := 0) 0 dX4_ways_0 rfl rfl ?_
  refine g_get (pc := 1) rfl foX4_10 (v := .ref (ad 2)) rfl dX4_ways_1 ?_
  refine g_iload_n (pc := 4) 1 dX4_ways_4 rfl rfl ?_
  refine g_cVI (pc := 5) (st := []) [.int a1] rfl rfl moX3_has lnX4_67 (ctX3_has ad n 2 sT2 a1 μ) rfl ⟨Nat.le_of_ble_eq_true rfl, Nat.le_of_ble_eq_true rfl⟩ rfl (Nat.le_of_ble_eq_true rfl) dX4_ways_5 (fun r2 m1 => ?_)
  refine g_if_eq (pc := 8) 22 dX4_ways_8 rfl ?_ ?_
  · refine g_aload_n (pc := 22) 0 dX4_ways_22 rfl rfl ?_
    refine g_iconst (pc := 23) (-1) dX4_ways_23 (by decide) ?_
    refine g_cVJ (pc := 24) (st := []) [.int (-1)] rfl rfl moX4_refuseLong lnX4_101 (ctX4_refuseLong ad n (-1) m1) rfl ⟨Nat.le_of_ble_eq_true rfl, Nat.le_of_ble_eq_true rfl⟩ rfl (Nat.le_of_ble_eq_true rfl) dX4_ways_24 (fun r4 m3 => ?_)
    exact g_lreturn (pc := 27) dX4_ways_27 rfl
  · refine g_aload_n (pc := 11) 0 dX4_ways_11 rfl rfl ?_
    refine g_get (pc := 12) rfl foX4_10 (v := .ref (ad 2)) rfl dX4_ways_12 ?_
    refine g_iload_n (pc := 15) 2 dX4_ways_15 rfl rfl ?_
    refine g_cVI (pc := 16) (st := []) [.int a2] rfl rfl moX3_has lnX4_67 (ctX3_has ad n 2 sT2 a2 m1) rfl ⟨Nat.le_of_ble_eq_true rfl, Nat.le_of_ble_eq_true rfl⟩ rfl (Nat.le_of_ble_eq_true rfl) dX4_ways_16 (fun r6 m5 => ?_)
    refine g_if_ne (pc := 19) 28 dX4_ways_19 rfl ?_ ?_
    · refine g_iload_n (pc := 28) 3 dX4_ways_28 rfl rfl ?_
      refine g_if_ge (pc := 29) 39 dX4_ways_29 rfl ?_ ?_
      · refine g_iload_n (pc := 39) 3 dX4_ways_39 rfl rfl ?_
        refine g_bipush (pc := 40) 20 dX4_ways_40 (by decide) ?_
        refine g_icmp_le (pc := 42) 52 dX4_ways_42 rfl ?_ ?_
        · refine g_aload_n (pc := 52) 0 dX4_ways_52 rfl rfl ?_
          refine g_get (pc := 53) rfl foX4_39 (v := .ref (ad 42)) rfl dX4_ways_53 ?_
          refine g_aload_n (pc := 56) 0 dX4_ways_56 rfl rfl ?_
          refine g_get (pc := 57) rfl foX4_10 (v := .ref (ad 2)) rfl dX4_ways_57 ?_
          refine g_cVV (pc := 60) (st := []) [.ref (ad 2)] rfl rfl moX0_lay lnX4_93 (ctX0_lay ad n 2 sT2 m5) rfl ⟨Nat.le_of_ble_eq_true rfl, Nat.le_of_ble_eq_true rfl⟩ rfl (Nat.le_of_ble_eq_true rfl) dX4_ways_60 (fun r8 m7 => ?_)
          refine g_aload_n (pc := 63) 0 dX4_ways_63 rfl rfl ?_
          refine g_get (pc := 64) rfl foX4_39 (v := .ref (ad 42)) rfl dX4_ways_64 ?_
          refine g_iload_n (pc := 67) 1 dX4_ways_67 rfl rfl ?_
          refine g_iload_n (pc := 68) 2 dX4_ways_68 rfl rfl ?_
          refine g_iload_n (pc := 69) 3 dX4_ways_69 rfl rfl ?_
          refine g_cVJ (pc := 70) (st := []) [.int a1, .int a2, .int a3] rfl rfl moX0_waysBy lnX4_105 (ctX0_waysBy ad n a1 a2 a3 m7) rfl ⟨Nat.le_of_ble_eq_true rfl, Nat.le_of_ble_eq_true rfl⟩ rfl (Nat.le_of_ble_eq_true rfl) dX4_ways_70 (fun r10 m9 => ?_)
          exact g_lreturn (pc := 73) dX4_ways_73 rfl
        · refine g_aload_n (pc := 45) 0 dX4_ways_45 rfl rfl ?_
          refine g_bipush (pc := 46) (-6) dX4_ways_46 (by decide) ?_
          refine g_cVJ (pc := 48) (st := []) [.int (-6)] rfl rfl moX4_refuseLong lnX4_101 (ctX4_refuseLong ad n (-6) m5) rfl ⟨Nat.le_of_ble_eq_true rfl, Nat.le_of_ble_eq_true rfl⟩ rfl (Nat.le_of_ble_eq_true rfl) dX4_ways_48 (fun r12 m11 => ?_)
          exact g_lreturn (pc := 51) dX4_ways_51 rfl
      · refine g_aload_n (pc := 32) 0 dX4_ways_32 rfl rfl ?_
        refine g_bipush (pc := 33) (-4) dX4_ways_33 (by decide) ?_
        refine g_cVJ (pc := 35) (st := []) [.int (-4)] rfl rfl moX4_refuseLong lnX4_101 (ctX4_refuseLong ad n (-4) m5) rfl ⟨Nat.le_of_ble_eq_true rfl, Nat.le_of_ble_eq_true rfl⟩ rfl (Nat.le_of_ble_eq_true rfl) dX4_ways_35 (fun r14 m13 => ?_)
        exact g_lreturn (pc := 38) dX4_ways_38 rfl
    · refine g_aload_n (pc := 22) 0 dX4_ways_22 rfl rfl ?_
      refine g_iconst (pc := 23) (-1) dX4_ways_23 (by decide) ?_
      refine g_cVJ (pc := 24) (st := []) [.int (-1)] rfl rfl moX4_refuseLong lnX4_101 (ctX4_refuseLong ad n (-1) m5) rfl ⟨Nat.le_of_ble_eq_true rfl, Nat.le_of_ble_eq_true rfl⟩ rfl (Nat.le_of_ble_eq_true rfl) dX4_ways_24 (fun r16 m15 => ?_)
      exact g_lreturn (pc := 27) dX4_ways_27 rfl)
-- StopsByLetters.whither(I)I
abbrev kX4_whither : Cfg := (RX4, cX4_whither, 2, (some .int), 4)
theorem dX4_whither_0 : decode cX4_whither 0 = .ok (.aload_n 0, 1) := by decide +kernel
theorem dX4_whither_1 : decode cX4_whither 1 = .ok (.getfield 10, 3) := by decide +kernel
theorem dX4_whither_4 : decode cX4_whither 4 = .ok (.iload_n 1, 1) := by decide +kernel
theorem dX4_whither_5 : decode cX4_whither 5 = .ok (.invokevirtual 67, 3) := by decide +kernel
theorem dX4_whither_8 : decode cX4_whither 8 = .ok (.ifCond .ne 9, 3) := by decide +kernel
theorem dX4_whither_11 : decode cX4_whither 11 = .ok (.aload_n 0, 1) := by decide +kernel
theorem dX4_whither_12 : decode cX4_whither 12 = .ok (.iconst (-1), 1) := by decide +kernel
theorem dX4_whither_13 : decode cX4_whither 13 = .ok (.invokevirtual 51, 3) := by decide +kernel
theorem dX4_whither_16 : decode cX4_whither 16 = .ok (.ireturn, 1) := by decide +kernel
theorem dX4_whither_17 : decode cX4_whither 17 = .ok (.aload_n 0, 1) := by decide +kernel
theorem dX4_whither_18 : decode cX4_whither 18 = .ok (.getfield 39, 3) := by decide +kernel
theorem dX4_whither_21 : decode cX4_whither 21 = .ok (.aload_n 0, 1) := by decide +kernel
theorem dX4_whither_22 : decode cX4_whither 22 = .ok (.getfield 10, 3) := by decide +kernel
theorem dX4_whither_25 : decode cX4_whither 25 = .ok (.invokevirtual 93, 3) := by decide +kernel
theorem dX4_whither_28 : decode cX4_whither 28 = .ok (.aload_n 0, 1) := by decide +kernel
theorem dX4_whither_29 : decode cX4_whither 29 = .ok (.getfield 39, 3) := by decide +kernel
theorem dX4_whither_32 : decode cX4_whither 32 = .ok (.getfield 109, 3) := by decide +kernel
theorem dX4_whither_35 : decode cX4_whither 35 = .ok (.iload_n 1, 1) := by decide +kernel
theorem dX4_whither_36 : decode cX4_whither 36 = .ok (.iaload, 1) := by decide +kernel
theorem dX4_whither_37 : decode cX4_whither 37 = .ok (.ireturn, 1) := by decide +kernel
theorem foX4_109 : Fo 0 RX0 TX0 5 1 RX4 109 := ⟨rfl, by decide, rfl, uwX0, rfl, Or.inr ⟨RX4, nt_in 177 (by decide +kernel) rfl⟩⟩
def fX4_whither (n : Nat) (a1 : Int32) (μ : Mem) : Option (Int32 × Mem) :=
  bd (fX3_has n 2 a1 μ) (fun r2 m1 => if r2 = 0 then bd (fX4_refuse n (-1) m1) (fun r6 m5 => some (r6, m5)) else bd (fX0_lay n 2 m1) (fun r4 m3 => gd (inb a1 8) (some ((m3.1 44 (Int32.toNatClampNeg a1)), m3))))
set_option maxHeartbeats 4000000 in
set_option maxRecDepth 100000 in
theorem ctX4_whither (ad : Nat → Nat) (n : Nat) (a1 : Int32) (μ : Mem) : Ct yX4_whither kX4_whither ad encI [.ref (ad 0), .int a1] μ (fX4_whither n a1 μ) := Ct.of (by decide +kernel) rfl (Nat.le_of_ble_eq_true rfl) (by
  show G kX4_whither ad encI 0 [(0, .ref (ad 0)), (1, .int a1)] [] μ (fX4_whither n a1 μ)
  unfold fX4_whither
  refine g_aload_n (pc := 0) 0 dX4_whither_0 rfl rfl ?_
  refine g_get (pc := 1) rfl foX4_10 (v := .ref (ad 2)) rfl dX4_whither_1 ?_
  refine g_iload_n (pc := 4) 1 dX4_whither_4 rfl rfl ?_
  refine g_cVI (pc := 5) (st := []) [.int a1] rfl rfl moX3_has lnX4_67 (ctX3_has ad n 2 sT2 a1 μ) rfl ⟨Nat.le_of_ble_eq_true rfl, Nat.le_of_ble_eq_true rfl⟩ rfl (Nat.le_of_ble_eq_true rfl) dX4_whither_5 (fun r2 m1 => ?_)
  refine g_if_ne (pc := 8) 17 dX4_whither_8 rfl ?_ ?_
  · refine g_aload_n (pc := 17) 0 dX4_whither_17 rfl rfl ?_
    refine g_get (pc := 18) rfl foX4_39 (v := .ref (ad 42)) rfl dX4_whither_18 ?_
    refine g_aload_n (pc := 21) 0 dX4_whither_21 rfl rfl ?_
    refine g_get (pc := 22) rfl foX4_10 (v := .ref (ad 2)) rfl dX4_whither_22 ?_
    refine g_cVV (pc := 25) (st := []) [.ref (ad 2)] rfl rfl moX0_lay lnX4_93 (ctX0_lay ad n 2 sT2 m1) rfl ⟨Nat.le_of_ble_eq_true rfl, Nat.le_of_ble_eq_true rfl⟩ rfl (Nat.le_of_ble_eq_true rfl) dX4_whither_25 (fun r4 m3 => ?_)
    refine g_aload_n (pc := 28) 0 dX4_whither_28 rfl rfl ?_
    refine g_get (pc := 29) rfl foX4_39 (v := .ref (ad 42)) rfl dX4_whither_29 ?_
    refine g_get (pc := 32) rfl foX4_109 (v := .ref (ad 44)) rfl dX4_whither_32 ?_
    refine g_iload_n (pc := 35) 1 dX4_whither_35 rfl rfl ?_
    refine g_iald (pc := 36) rfl (by decide) dX4_whither_36 ?_
    exact g_ireturn (pc := 37) dX4_whither_37 rfl
  · refine g_aload_n (pc := 11) 0 dX4_whither_11 rfl rfl ?_
    refine g_iconst (pc := 12) (-1) dX4_whither_12 (by decide) ?_
    refine g_cVI (pc := 13) (st := []) [.int (-1)] rfl rfl moX4_refuse lnX4_51 (ctX4_refuse ad n (-1) m1) rfl ⟨Nat.le_of_ble_eq_true rfl, Nat.le_of_ble_eq_true rfl⟩ rfl (Nat.le_of_ble_eq_true rfl) dX4_whither_13 (fun r6 m5 => ?_)
    exact g_ireturn (pc := 16) dX4_whither_16 rfl)
-- StopsByLetters.whence(I)I
abbrev kX4_whence : Cfg := (RX4, cX4_whence, 2, (some .int), 4)
theorem dX4_whence_0 : decode cX4_whence 0 = .ok (.aload_n 0, 1) := by decide +kernel
theorem dX4_whence_1 : decode cX4_whence 1 = .ok (.getfield 10, 3) := by decide +kernel
theorem dX4_whence_4 : decode cX4_whence 4 = .ok (.iload_n 1, 1) := by decide +kernel
theorem dX4_whence_5 : decode cX4_whence 5 = .ok (.invokevirtual 67, 3) := by decide +kernel
theorem dX4_whence_8 : decode cX4_whence 8 = .ok (.ifCond .ne 9, 3) := by decide +kernel
theorem dX4_whence_11 : decode cX4_whence 11 = .ok (.aload_n 0, 1) := by decide +kernel
theorem dX4_whence_12 : decode cX4_whence 12 = .ok (.iconst (-1), 1) := by decide +kernel
theorem dX4_whence_13 : decode cX4_whence 13 = .ok (.invokevirtual 51, 3) := by decide +kernel
theorem dX4_whence_16 : decode cX4_whence 16 = .ok (.ireturn, 1) := by decide +kernel
theorem dX4_whence_17 : decode cX4_whence 17 = .ok (.aload_n 0, 1) := by decide +kernel
theorem dX4_whence_18 : decode cX4_whence 18 = .ok (.getfield 39, 3) := by decide +kernel
theorem dX4_whence_21 : decode cX4_whence 21 = .ok (.aload_n 0, 1) := by decide +kernel
theorem dX4_whence_22 : decode cX4_whence 22 = .ok (.getfield 10, 3) := by decide +kernel
theorem dX4_whence_25 : decode cX4_whence 25 = .ok (.invokevirtual 93, 3) := by decide +kernel
theorem dX4_whence_28 : decode cX4_whence 28 = .ok (.aload_n 0, 1) := by decide +kernel
theorem dX4_whence_29 : decode cX4_whence 29 = .ok (.getfield 39, 3) := by decide +kernel
theorem dX4_whence_32 : decode cX4_whence 32 = .ok (.iload_n 1, 1) := by decide +kernel
theorem dX4_whence_33 : decode cX4_whence 33 = .ok (.invokevirtual 112, 3) := by decide +kernel
theorem dX4_whence_36 : decode cX4_whence 36 = .ok (.ireturn, 1) := by decide +kernel
theorem lnX4_112 : Ln RX4 112 yX0_comers := Or.inr ⟨RX4, nt_in 478 (by decide +kernel) rfl⟩
def fX4_whence (n : Nat) (a1 : Int32) (μ : Mem) : Option (Int32 × Mem) :=
  bd (fX3_has n 2 a1 μ) (fun r2 m1 => if r2 = 0 then bd (fX4_refuse n (-1) m1) (fun r8 m7 => some (r8, m7)) else bd (fX0_lay n 2 m1) (fun r4 m3 => bd (fX0_comers n a1 m3) (fun r6 m5 => some (r6, m5))))
set_option maxHeartbeats 4000000 in
set_option maxRecDepth 100000 in
theorem ctX4_whence (ad : Nat → Nat) (n : Nat) (a1 : Int32) (μ : Mem) : Ct yX4_whence kX4_whence ad encI [.ref (ad 0), .int a1] μ (fX4_whence n a1 μ) := Ct.of (by decide +kernel) rfl (Nat.le_of_ble_eq_true rfl) (by
  show G kX4_whence ad encI 0 [(0, .ref (ad 0)), (1, .int a1)] [] μ (fX4_whence n a1 μ)
  unfold fX4_whence
  refine g_aload_n (pc := 0) 0 dX4_whence_0 rfl rfl ?_
  refine g_get (pc := 1) rfl foX4_10 (v := .ref (ad 2)) rfl dX4_whence_1 ?_
  refine g_iload_n (pc := 4) 1 dX4_whence_4 rfl rfl ?_
  refine g_cVI (pc := 5) (st := []) [.int a1] rfl rfl moX3_has lnX4_67 (ctX3_has ad n 2 sT2 a1 μ) rfl ⟨Nat.le_of_ble_eq_true rfl, Nat.le_of_ble_eq_true rfl⟩ rfl (Nat.le_of_ble_eq_true rfl) dX4_whence_5 (fun r2 m1 => ?_)
  refine g_if_ne (pc := 8) 17 dX4_whence_8 rfl ?_ ?_
  · refine g_aload_n (pc := 17) 0 dX4_whence_17 rfl rfl ?_
    refine g_get (pc := 18) rfl foX4_39 (v := .ref (ad 42)) rfl dX4_whence_18 ?_
    refine g_aload_n (pc := 21) 0 dX4_whence_21 rfl rfl ?_
    refine g_get (pc := 22) rfl foX4_10 (v := .ref (ad 2)) rfl dX4_whence_22 ?_
    refine g_cVV (pc := 25) (st := []) [.ref (ad 2)] rfl rfl moX0_lay lnX4_93 (ctX0_lay ad n 2 sT2 m1) rfl ⟨Nat.le_of_ble_eq_true rfl, Nat.le_of_ble_eq_true rfl⟩ rfl (Nat.le_of_ble_eq_true rfl) dX4_whence_25 (fun r4 m3 => ?_)
    refine g_aload_n (pc := 28) 0 dX4_whence_28 rfl rfl ?_
    refine g_get (pc := 29) rfl foX4_39 (v := .ref (ad 42)) rfl dX4_whence_29 ?_
    refine g_iload_n (pc := 32) 1 dX4_whence_32 rfl rfl ?_
    refine g_cVI (pc := 33) (st := []) [.int a1] rfl rfl moX0_comers lnX4_112 (ctX0_comers ad n a1 m3) rfl ⟨Nat.le_of_ble_eq_true rfl, Nat.le_of_ble_eq_true rfl⟩ rfl (Nat.le_of_ble_eq_true rfl) dX4_whence_33 (fun r6 m5 => ?_)
    exact g_ireturn (pc := 36) dX4_whence_36 rfl
  · refine g_aload_n (pc := 11) 0 dX4_whence_11 rfl rfl ?_
    refine g_iconst (pc := 12) (-1) dX4_whence_12 (by decide) ?_
    refine g_cVI (pc := 13) (st := []) [.int (-1)] rfl rfl moX4_refuse lnX4_51 (ctX4_refuse ad n (-1) m1) rfl ⟨Nat.le_of_ble_eq_true rfl, Nat.le_of_ble_eq_true rfl⟩ rfl (Nat.le_of_ble_eq_true rfl) dX4_whence_13 (fun r8 m7 => ?_)
    exact g_ireturn (pc := 16) dX4_whence_16 rfl)
-- StopsByLetters.blind()I
abbrev kX4_blind : Cfg := (RX4, cX4_blind, 1, (some .int), 4)
theorem dX4_blind_0 : decode cX4_blind 0 = .ok (.aload_n 0, 1) := by decide +kernel
theorem dX4_blind_1 : decode cX4_blind 1 = .ok (.getfield 39, 3) := by decide +kernel
theorem dX4_blind_4 : decode cX4_blind 4 = .ok (.aload_n 0, 1) := by decide +kernel
theorem dX4_blind_5 : decode cX4_blind 5 = .ok (.getfield 10, 3) := by decide +kernel
theorem dX4_blind_8 : decode cX4_blind 8 = .ok (.invokevirtual 93, 3) := by decide +kernel
theorem dX4_blind_11 : decode cX4_blind 11 = .ok (.aload_n 0, 1) := by decide +kernel
theorem dX4_blind_12 : decode cX4_blind 12 = .ok (.getfield 39, 3) := by decide +kernel
theorem dX4_blind_15 : decode cX4_blind 15 = .ok (.invokevirtual 115, 3) := by decide +kernel
theorem dX4_blind_18 : decode cX4_blind 18 = .ok (.ireturn, 1) := by decide +kernel
theorem lnX4_115 : Ln RX4 115 yX0_unvisited := Or.inr ⟨RX4, nt_in 486 (by decide +kernel) rfl⟩
theorem moX0_unvisited : Mv yX0_unvisited kX0_unvisited 0 := ⟨⟨tb_in 489 (by decide +kernel) rfl, tb_in 91 (by decide +kernel) rfl, ⟨by decide, by decide⟩, by decide +kernel⟩, tb_in 488 (by decide +kernel) rfl, tb_in 27 (by decide +kernel) rfl⟩
def fX4_blind (n : Nat) (μ : Mem) : Option (Int32 × Mem) :=
  bd (fX0_lay n 2 μ) (fun r2 m1 => bd (fX0_unvisited n m1) (fun r4 m3 => some (r4, m3)))
set_option maxHeartbeats 4000000 in
set_option maxRecDepth 100000 in
theorem ctX4_blind (ad : Nat → Nat) (n : Nat) (μ : Mem) : Ct yX4_blind kX4_blind ad encI [.ref (ad 0)] μ (fX4_blind n μ) := Ct.of (by decide +kernel) rfl (Nat.le_of_ble_eq_true rfl) (by
  show G kX4_blind ad encI 0 [(0, .ref (ad 0))] [] μ (fX4_blind n μ)
  unfold fX4_blind
  refine g_aload_n (pc := 0) 0 dX4_blind_0 rfl rfl ?_
  refine g_get (pc := 1) rfl foX4_39 (v := .ref (ad 42)) rfl dX4_blind_1 ?_
  refine g_aload_n (pc := 4) 0 dX4_blind_4 rfl rfl ?_
  refine g_get (pc := 5) rfl foX4_10 (v := .ref (ad 2)) rfl dX4_blind_5 ?_
  refine g_cVV (pc := 8) (st := []) [.ref (ad 2)] rfl rfl moX0_lay lnX4_93 (ctX0_lay ad n 2 sT2 μ) rfl ⟨Nat.le_of_ble_eq_true rfl, Nat.le_of_ble_eq_true rfl⟩ rfl (Nat.le_of_ble_eq_true rfl) dX4_blind_8 (fun r2 m1 => ?_)
  refine g_aload_n (pc := 11) 0 dX4_blind_11 rfl rfl ?_
  refine g_get (pc := 12) rfl foX4_39 (v := .ref (ad 42)) rfl dX4_blind_12 ?_
  refine g_cVI (pc := 15) (st := []) [] rfl rfl moX0_unvisited lnX4_115 (ctX0_unvisited ad n m1) rfl ⟨Nat.le_of_ble_eq_true rfl, Nat.le_of_ble_eq_true rfl⟩ rfl (Nat.le_of_ble_eq_true rfl) dX4_blind_15 (fun r4 m3 => ?_)
  exact g_ireturn (pc := 18) dX4_blind_18 rfl)
-- StopsByLetters.dead()I
abbrev kX4_dead : Cfg := (RX4, cX4_dead, 1, (some .int), 4)
theorem dX4_dead_0 : decode cX4_dead 0 = .ok (.aload_n 0, 1) := by decide +kernel
theorem dX4_dead_1 : decode cX4_dead 1 = .ok (.getfield 39, 3) := by decide +kernel
theorem dX4_dead_4 : decode cX4_dead 4 = .ok (.aload_n 0, 1) := by decide +kernel
theorem dX4_dead_5 : decode cX4_dead 5 = .ok (.getfield 10, 3) := by decide +kernel
theorem dX4_dead_8 : decode cX4_dead 8 = .ok (.invokevirtual 93, 3) := by decide +kernel
theorem dX4_dead_11 : decode cX4_dead 11 = .ok (.aload_n 0, 1) := by decide +kernel
theorem dX4_dead_12 : decode cX4_dead 12 = .ok (.getfield 39, 3) := by decide +kernel
theorem dX4_dead_15 : decode cX4_dead 15 = .ok (.invokevirtual 118, 3) := by decide +kernel
theorem dX4_dead_18 : decode cX4_dead 18 = .ok (.ireturn, 1) := by decide +kernel
theorem lnX4_118 : Ln RX4 118 yX0_unleft := Or.inr ⟨RX4, nt_in 494 (by decide +kernel) rfl⟩
theorem moX0_unleft : Mv yX0_unleft kX0_unleft 0 := ⟨⟨tb_in 497 (by decide +kernel) rfl, tb_in 91 (by decide +kernel) rfl, ⟨by decide, by decide⟩, by decide +kernel⟩, tb_in 496 (by decide +kernel) rfl, tb_in 28 (by decide +kernel) rfl⟩
def fX4_dead (n : Nat) (μ : Mem) : Option (Int32 × Mem) :=
  bd (fX0_lay n 2 μ) (fun r2 m1 => bd (fX0_unleft n m1) (fun r4 m3 => some (r4, m3)))
set_option maxHeartbeats 4000000 in
set_option maxRecDepth 100000 in
theorem ctX4_dead (ad : Nat → Nat) (n : Nat) (μ : Mem) : Ct yX4_dead kX4_dead ad encI [.ref (ad 0)] μ (fX4_dead n μ) := Ct.of (by decide +kernel) rfl (Nat.le_of_ble_eq_true rfl) (by
  show G kX4_dead ad encI 0 [(0, .ref (ad 0))] [] μ (fX4_dead n μ)
  unfold fX4_dead
  refine g_aload_n (pc := 0) 0 dX4_dead_0 rfl rfl ?_
  refine g_get (pc := 1) rfl foX4_39 (v := .ref (ad 42)) rfl dX4_dead_1 ?_
  refine g_aload_n (pc := 4) 0 dX4_dead_4 rfl rfl ?_
  refine g_get (pc := 5) rfl foX4_10 (v := .ref (ad 2)) rfl dX4_dead_5 ?_
  refine g_cVV (pc := 8) (st := []) [.ref (ad 2)] rfl rfl moX0_lay lnX4_93 (ctX0_lay ad n 2 sT2 μ) rfl ⟨Nat.le_of_ble_eq_true rfl, Nat.le_of_ble_eq_true rfl⟩ rfl (Nat.le_of_ble_eq_true rfl) dX4_dead_8 (fun r2 m1 => ?_)
  refine g_aload_n (pc := 11) 0 dX4_dead_11 rfl rfl ?_
  refine g_get (pc := 12) rfl foX4_39 (v := .ref (ad 42)) rfl dX4_dead_12 ?_
  refine g_cVI (pc := 15) (st := []) [] rfl rfl moX0_unleft lnX4_118 (ctX0_unleft ad n m1) rfl ⟨Nat.le_of_ble_eq_true rfl, Nat.le_of_ble_eq_true rfl⟩ rfl (Nat.le_of_ble_eq_true rfl) dX4_dead_15 (fun r4 m3 => ?_)
  exact g_ireturn (pc := 18) dX4_dead_18 rfl)
-- StopsByLetters.parts(I)I
abbrev kX4_parts : Cfg := (RX4, cX4_parts, 2, (some .int), 4)
theorem dX4_parts_0 : decode cX4_parts 0 = .ok (.iload_n 1, 1) := by decide +kernel
theorem dX4_parts_1 : decode cX4_parts 1 = .ok (.iconst (-1), 1) := by decide +kernel
theorem dX4_parts_2 : decode cX4_parts 2 = .ok (.if_icmp .eq 20, 3) := by decide +kernel
theorem dX4_parts_5 : decode cX4_parts 5 = .ok (.aload_n 0, 1) := by decide +kernel
theorem dX4_parts_6 : decode cX4_parts 6 = .ok (.getfield 10, 3) := by decide +kernel
theorem dX4_parts_9 : decode cX4_parts 9 = .ok (.iload_n 1, 1) := by decide +kernel
theorem dX4_parts_10 : decode cX4_parts 10 = .ok (.invokevirtual 67, 3) := by decide +kernel
theorem dX4_parts_13 : decode cX4_parts 13 = .ok (.ifCond .ne 9, 3) := by decide +kernel
theorem dX4_parts_16 : decode cX4_parts 16 = .ok (.aload_n 0, 1) := by decide +kernel
theorem dX4_parts_17 : decode cX4_parts 17 = .ok (.iconst (-1), 1) := by decide +kernel
theorem dX4_parts_18 : decode cX4_parts 18 = .ok (.invokevirtual 51, 3) := by decide +kernel
theorem dX4_parts_21 : decode cX4_parts 21 = .ok (.ireturn, 1) := by decide +kernel
theorem dX4_parts_22 : decode cX4_parts 22 = .ok (.aload_n 0, 1) := by decide +kernel
theorem dX4_parts_23 : decode cX4_parts 23 = .ok (.getfield 39, 3) := by decide +kernel
theorem dX4_parts_26 : decode cX4_parts 26 = .ok (.aload_n 0, 1) := by decide +kernel
theorem dX4_parts_27 : decode cX4_parts 27 = .ok (.getfield 10, 3) := by decide +kernel
theorem dX4_parts_30 : decode cX4_parts 30 = .ok (.invokevirtual 93, 3) := by decide +kernel
theorem dX4_parts_33 : decode cX4_parts 33 = .ok (.iload_n 1, 1) := by decide +kernel
theorem dX4_parts_34 : decode cX4_parts 34 = .ok (.iconst (-1), 1) := by decide +kernel
theorem dX4_parts_35 : decode cX4_parts 35 = .ok (.if_icmp .ne 13, 3) := by decide +kernel
theorem dX4_parts_38 : decode cX4_parts 38 = .ok (.aload_n 0, 1) := by decide +kernel
theorem dX4_parts_39 : decode cX4_parts 39 = .ok (.getfield 39, 3) := by decide +kernel
theorem dX4_parts_42 : decode cX4_parts 42 = .ok (.invokevirtual 121, 3) := by decide +kernel
theorem dX4_parts_45 : decode cX4_parts 45 = .ok (.goto 11, 3) := by decide +kernel
theorem dX4_parts_48 : decode cX4_parts 48 = .ok (.aload_n 0, 1) := by decide +kernel
theorem dX4_parts_49 : decode cX4_parts 49 = .ok (.getfield 39, 3) := by decide +kernel
theorem dX4_parts_52 : decode cX4_parts 52 = .ok (.iload_n 1, 1) := by decide +kernel
theorem dX4_parts_53 : decode cX4_parts 53 = .ok (.invokevirtual 124, 3) := by decide +kernel
theorem dX4_parts_56 : decode cX4_parts 56 = .ok (.ireturn, 1) := by decide +kernel
theorem lnX4_124 : Ln RX4 124 yX0_partOf := Or.inr ⟨RX4, nt_in 511 (by decide +kernel) rfl⟩
theorem lnX4_121 : Ln RX4 121 yX0_partsInAll := Or.inr ⟨RX4, nt_in 502 (by decide +kernel) rfl⟩
theorem moX0_partsInAll : Mv yX0_partsInAll kX0_partsInAll 0 := ⟨⟨tb_in 505 (by decide +kernel) rfl, tb_in 91 (by decide +kernel) rfl, ⟨by decide, by decide⟩, by decide +kernel⟩, tb_in 504 (by decide +kernel) rfl, tb_in 29 (by decide +kernel) rfl⟩
def fX4_parts (n : Nat) (a1 : Int32) (μ : Mem) : Option (Int32 × Mem) :=
  bnd (fun (m2 : Mem) => bd (fX0_lay n 2 m2) (fun r4 m3 => if a1 = (-1) then bd (fX0_partsInAll n m3) (fun r8 m7 => some (r8, m7)) else bd (fX0_partOf n a1 m3) (fun r6 m5 => some (r6, m5)))) (fun kb1 => if a1 = (-1) then kb1 μ else bd (fX3_has n 2 a1 μ) (fun r10 m9 => if r10 = 0 then bd (fX4_refuse n (-1) m9) (fun r12 m11 => some (r12, m11)) else kb1 m9))
set_option maxHeartbeats 4000000 in
set_option maxRecDepth 100000 in
theorem ctX4_parts (ad : Nat → Nat) (n : Nat) (a1 : Int32) (μ : Mem) : Ct yX4_parts kX4_parts ad encI [.ref (ad 0), .int a1] μ (fX4_parts n a1 μ) := Ct.of (by decide +kernel) rfl (Nat.le_of_ble_eq_true rfl) (by
  show G kX4_parts ad encI 0 [(0, .ref (ad 0)), (1, .int a1)] [] μ (fX4_parts n a1 μ)
  unfold fX4_parts
  refine g_iload_n (pc := 0) 1 dX4_parts_0 rfl rfl ?_
  refine g_iconst (pc := 1) (-1) dX4_parts_1 (by decide) ?_
  refine g_join (fun kb => ∀ (m2 : Mem), G kX4_parts ad encI 22 [(0, .ref (ad 0)), (1, .int a1)] [] m2 (kb m2)) (fun m2 => ?_) (fun kb1 hkb1 => ?_)
  · refine g_aload_n (pc := 22) 0 dX4_parts_22 rfl rfl ?_
    refine g_get (pc := 23) rfl foX4_39 (v := .ref (ad 42)) rfl dX4_parts_23 ?_
    refine g_aload_n (pc := 26) 0 dX4_parts_26 rfl rfl ?_
    refine g_get (pc := 27) rfl foX4_10 (v := .ref (ad 2)) rfl dX4_parts_27 ?_
    refine g_cVV (pc := 30) (st := []) [.ref (ad 2)] rfl rfl moX0_lay lnX4_93 (ctX0_lay ad n 2 sT2 m2) rfl ⟨Nat.le_of_ble_eq_true rfl, Nat.le_of_ble_eq_true rfl⟩ rfl (Nat.le_of_ble_eq_true rfl) dX4_parts_30 (fun r4 m3 => ?_)
    refine g_iload_n (pc := 33) 1 dX4_parts_33 rfl rfl ?_
    refine g_iconst (pc := 34) (-1) dX4_parts_34 (by decide) ?_
    refine g_icmp_ne (pc := 35) 48 dX4_parts_35 rfl ?_ ?_
    · refine g_aload_n (pc := 48) 0 dX4_parts_48 rfl rfl ?_
      refine g_get (pc := 49) rfl foX4_39 (v := .ref (ad 42)) rfl dX4_parts_49 ?_
      refine g_iload_n (pc := 52) 1 dX4_parts_52 rfl rfl ?_
      refine g_cVI (pc := 53) (st := []) [.int a1] rfl rfl moX0_partOf lnX4_124 (ctX0_partOf ad n a1 m3) rfl ⟨Nat.le_of_ble_eq_true rfl, Nat.le_of_ble_eq_true rfl⟩ rfl (Nat.le_of_ble_eq_true rfl) dX4_parts_53 (fun r6 m5 => ?_)
      exact g_ireturn (pc := 56) dX4_parts_56 rfl
    · refine g_aload_n (pc := 38) 0 dX4_parts_38 rfl rfl ?_
      refine g_get (pc := 39) rfl foX4_39 (v := .ref (ad 42)) rfl dX4_parts_39 ?_
      refine g_cVI (pc := 42) (st := []) [] rfl rfl moX0_partsInAll lnX4_121 (ctX0_partsInAll ad n m3) rfl ⟨Nat.le_of_ble_eq_true rfl, Nat.le_of_ble_eq_true rfl⟩ rfl (Nat.le_of_ble_eq_true rfl) dX4_parts_42 (fun r8 m7 => ?_)
      refine g_goto (pc := 45) 56 dX4_parts_45 rfl ?_
      exact g_ireturn (pc := 56) dX4_parts_56 rfl
  ·
    refine g_icmp_eq (pc := 2) 22 dX4_parts_2 rfl ?_ ?_
    · exact g_sub [0, 1] rfl (hkb1 μ)
    · refine g_aload_n (pc := 5) 0 dX4_parts_5 rfl rfl ?_
      refine g_get (pc := 6) rfl foX4_10 (v := .ref (ad 2)) rfl dX4_parts_6 ?_
      refine g_iload_n (pc := 9) 1 dX4_parts_9 rfl rfl ?_
      refine g_cVI (pc := 10) (st := []) [.int a1] rfl rfl moX3_has lnX4_67 (ctX3_has ad n 2 sT2 a1 μ) rfl ⟨Nat.le_of_ble_eq_true rfl, Nat.le_of_ble_eq_true rfl⟩ rfl (Nat.le_of_ble_eq_true rfl) dX4_parts_10 (fun r10 m9 => ?_)
      refine g_if_ne (pc := 13) 22 dX4_parts_13 rfl ?_ ?_
      · exact g_sub [0, 1] rfl (hkb1 m9)
      · refine g_aload_n (pc := 16) 0 dX4_parts_16 rfl rfl ?_
        refine g_iconst (pc := 17) (-1) dX4_parts_17 (by decide) ?_
        refine g_cVI (pc := 18) (st := []) [.int (-1)] rfl rfl moX4_refuse lnX4_51 (ctX4_refuse ad n (-1) m9) rfl ⟨Nat.le_of_ble_eq_true rfl, Nat.le_of_ble_eq_true rfl⟩ rfl (Nat.le_of_ble_eq_true rfl) dX4_parts_18 (fun r12 m11 => ?_)
        exact g_ireturn (pc := 21) dX4_parts_21 rfl)
-- StopsByLetters.neverIn(LStopsByLetters$Stations;)I
abbrev kX4_neverIn : Cfg := (RX4, cX4_neverIn, 2, (some .int), 4)
theorem dX4_neverIn_0 : decode cX4_neverIn 0 = .ok (.aload_n 0, 1) := by decide +kernel
theorem dX4_neverIn_1 : decode cX4_neverIn 1 = .ok (.getfield 39, 3) := by decide +kernel
theorem dX4_neverIn_4 : decode cX4_neverIn 4 = .ok (.aload_n 1, 1) := by decide +kernel
theorem dX4_neverIn_5 : decode cX4_neverIn 5 = .ok (.invokevirtual 93, 3) := by decide +kernel
theorem dX4_neverIn_8 : decode cX4_neverIn 8 = .ok (.aload_n 0, 1) := by decide +kernel
theorem dX4_neverIn_9 : decode cX4_neverIn 9 = .ok (.getfield 39, 3) := by decide +kernel
theorem dX4_neverIn_12 : decode cX4_neverIn 12 = .ok (.invokevirtual 200, 3) := by decide +kernel
theorem dX4_neverIn_15 : decode cX4_neverIn 15 = .ok (.ireturn, 1) := by decide +kernel
theorem lnX4_200 : Ln RX4 200 yX0_pairsApart := Or.inr ⟨RX4, nt_in 520 (by decide +kernel) rfl⟩
theorem moX0_pairsApart : Mv yX0_pairsApart kX0_pairsApart 0 := ⟨⟨tb_in 523 (by decide +kernel) rfl, tb_in 91 (by decide +kernel) rfl, ⟨by decide, by decide⟩, by decide +kernel⟩, tb_in 522 (by decide +kernel) rfl, tb_in 32 (by decide +kernel) rfl⟩
def fX4_neverIn (n : Nat) (k1 : Nat) (μ : Mem) : Option (Int32 × Mem) :=
  bd (fX0_lay n k1 μ) (fun r2 m1 => bd (fX0_pairsApart n m1) (fun r4 m3 => some (r4, m3)))
set_option maxHeartbeats 4000000 in
set_option maxRecDepth 100000 in
theorem ctX4_neverIn (ad : Nat → Nat) (n : Nat) (k1 : Nat) (h1 : St k1) (μ : Mem) : Ct yX4_neverIn kX4_neverIn ad encI [.ref (ad 0), .ref (ad k1)] μ (fX4_neverIn n k1 μ) := Ct.of (by decide +kernel) rfl (Nat.le_of_ble_eq_true rfl) (by
  show G kX4_neverIn ad encI 0 [(0, .ref (ad 0)), (1, .ref (ad k1))] [] μ (fX4_neverIn n k1 μ)
  unfold fX4_neverIn
  refine g_aload_n (pc := 0) 0 dX4_neverIn_0 rfl rfl ?_
  refine g_get (pc := 1) rfl foX4_39 (v := .ref (ad 42)) rfl dX4_neverIn_1 ?_
  refine g_aload_n (pc := 4) 1 dX4_neverIn_4 rfl rfl ?_
  refine g_cVV (pc := 5) (st := []) [.ref (ad k1)] rfl rfl moX0_lay lnX4_93 (ctX0_lay ad n k1 h1 μ) rfl ⟨Nat.le_of_ble_eq_true rfl, Nat.le_of_ble_eq_true rfl⟩ rfl (Nat.le_of_ble_eq_true rfl) dX4_neverIn_5 (fun r2 m1 => ?_)
  refine g_aload_n (pc := 8) 0 dX4_neverIn_8 rfl rfl ?_
  refine g_get (pc := 9) rfl foX4_39 (v := .ref (ad 42)) rfl dX4_neverIn_9 ?_
  refine g_cVI (pc := 12) (st := []) [] rfl rfl moX0_pairsApart lnX4_200 (ctX0_pairsApart ad n m1) rfl ⟨Nat.le_of_ble_eq_true rfl, Nat.le_of_ble_eq_true rfl⟩ rfl (Nat.le_of_ble_eq_true rfl) dX4_neverIn_12 (fun r4 m3 => ?_)
  exact g_ireturn (pc := 15) dX4_neverIn_15 rfl)
-- StopsByLetters.never()I
abbrev kX4_never : Cfg := (RX4, cX4_never, 1, (some .int), 5)
theorem dX4_never_0 : decode cX4_never 0 = .ok (.aload_n 0, 1) := by decide +kernel
theorem dX4_never_1 : decode cX4_never 1 = .ok (.aload_n 0, 1) := by decide +kernel
theorem dX4_never_2 : decode cX4_never 2 = .ok (.getfield 10, 3) := by decide +kernel
theorem dX4_never_5 : decode cX4_never 5 = .ok (.invokevirtual 127, 3) := by decide +kernel
theorem dX4_never_8 : decode cX4_never 8 = .ok (.ireturn, 1) := by decide +kernel
theorem lnX4_127 : Ln RX4 127 yX4_neverIn := Or.inl (tb_in 516 (by decide +kernel) rfl)
theorem moX4_neverIn : Mv yX4_neverIn kX4_neverIn 1 := ⟨⟨tb_in 519 (by decide +kernel) rfl, tb_in 87 (by decide +kernel) rfl, ⟨by decide, by decide⟩, by decide +kernel⟩, tb_in 518 (by decide +kernel) rfl, tb_in 31 (by decide +kernel) rfl⟩
def fX4_never (n : Nat) (μ : Mem) : Option (Int32 × Mem) :=
  bd (fX4_neverIn n 2 μ) (fun r2 m1 => some (r2, m1))
set_option maxHeartbeats 4000000 in
set_option maxRecDepth 100000 in
theorem ctX4_never (ad : Nat → Nat) (n : Nat) (μ : Mem) : Ct yX4_never kX4_never ad encI [.ref (ad 0)] μ (fX4_never n μ) := Ct.of (by decide +kernel) rfl (Nat.le_of_ble_eq_true rfl) (by
  show G kX4_never ad encI 0 [(0, .ref (ad 0))] [] μ (fX4_never n μ)
  unfold fX4_never
  refine g_aload_n (pc := 0) 0 dX4_never_0 rfl rfl ?_
  refine g_aload_n (pc := 1) 0 dX4_never_1 rfl rfl ?_
  refine g_get (pc := 2) rfl foX4_10 (v := .ref (ad 2)) rfl dX4_never_2 ?_
  refine g_cVI (pc := 5) (st := []) [.ref (ad 2)] rfl rfl moX4_neverIn lnX4_127 (ctX4_neverIn ad n 2 sT2 μ) rfl ⟨Nat.le_of_ble_eq_true rfl, Nat.le_of_ble_eq_true rfl⟩ rfl (Nat.le_of_ble_eq_true rfl) dX4_never_5 (fun r2 m1 => ?_)
  exact g_ireturn (pc := 8) dX4_never_8 rfl)
-- StopsByLetters.refuseMore(I)I
abbrev kX4_refuseMore : Cfg := (RX4, cX4_refuseMore, 2, (some .int), 1)
theorem dX4_refuseMore_0 : decode cX4_refuseMore 0 = .ok (.ldc 197, 2) := by decide +kernel
theorem dX4_refuseMore_2 : decode cX4_refuseMore 2 = .ok (.aload_n 0, 1) := by decide +kernel
theorem dX4_refuseMore_3 : decode cX4_refuseMore 3 = .ok (.iload_n 1, 1) := by decide +kernel
theorem dX4_refuseMore_4 : decode cX4_refuseMore 4 = .ok (.invokevirtual 51, 3) := by decide +kernel
theorem dX4_refuseMore_7 : decode cX4_refuseMore 7 = .ok (.isub, 1) := by decide +kernel
theorem dX4_refuseMore_8 : decode cX4_refuseMore 8 = .ok (.ireturn, 1) := by decide +kernel
theorem cwX4_197 : Cond.constant RX4 197 (1000000000 : Int32) ∈ TB := tb_in 538 (by decide +kernel) rfl
def fX4_refuseMore (n : Nat) (a1 : Int32) (μ : Mem) : Option (Int32 × Mem) :=
  bd (fX4_refuse n a1 μ) (fun r2 m1 => some ((1000000000 - r2), m1))
set_option maxHeartbeats 4000000 in
set_option maxRecDepth 100000 in
theorem ctX4_refuseMore (ad : Nat → Nat) (n : Nat) (a1 : Int32) (μ : Mem) : Ct yX4_refuseMore kX4_refuseMore ad encI [.ref (ad 0), .int a1] μ (fX4_refuseMore n a1 μ) := Ct.of (by decide +kernel) rfl (Nat.le_of_ble_eq_true rfl) (by
  show G kX4_refuseMore ad encI 0 [(0, .ref (ad 0)), (1, .int a1)] [] μ (fX4_refuseMore n a1 μ)
  unfold fX4_refuseMore
  refine g_ldc (pc := 0) dX4_refuseMore_0 cwX4_197 ?_
  refine g_aload_n (pc := 2) 0 dX4_refuseMore_2 rfl rfl ?_
  refine g_iload_n (pc := 3) 1 dX4_refuseMore_3 rfl rfl ?_
  refine g_cVI (pc := 4) (st := [.int 1000000000]) [.int a1] rfl rfl moX4_refuse lnX4_51 (ctX4_refuse ad n a1 μ) rfl ⟨Nat.le_of_ble_eq_true rfl, Nat.le_of_ble_eq_true rfl⟩ rfl (Nat.le_of_ble_eq_true rfl) dX4_refuseMore_4 (fun r2 m1 => ?_)
  refine g_isub (pc := 7) dX4_refuseMore_7 ?_
  exact g_ireturn (pc := 8) dX4_refuseMore_8 rfl)
-- StopsByLetters.more(II)I
abbrev kX4_more : Cfg := (RX4, cX4_more, 3, (some .int), 5)
theorem dX4_more_0 : decode cX4_more 0 = .ok (.aload_n 0, 1) := by decide +kernel
theorem dX4_more_1 : decode cX4_more 1 = .ok (.getfield 10, 3) := by decide +kernel
theorem dX4_more_4 : decode cX4_more 4 = .ok (.iload_n 1, 1) := by decide +kernel
theorem dX4_more_5 : decode cX4_more 5 = .ok (.invokevirtual 67, 3) := by decide +kernel
theorem dX4_more_8 : decode cX4_more 8 = .ok (.ifCond .ne 9, 3) := by decide +kernel
theorem dX4_more_11 : decode cX4_more 11 = .ok (.aload_n 0, 1) := by decide +kernel
theorem dX4_more_12 : decode cX4_more 12 = .ok (.iconst (-1), 1) := by decide +kernel
theorem dX4_more_13 : decode cX4_more 13 = .ok (.invokevirtual 131, 3) := by decide +kernel
theorem dX4_more_16 : decode cX4_more 16 = .ok (.ireturn, 1) := by decide +kernel
theorem dX4_more_17 : decode cX4_more 17 = .ok (.iload_n 2, 1) := by decide +kernel
theorem dX4_more_18 : decode cX4_more 18 = .ok (.invokestatic 87, 3) := by decide +kernel
theorem dX4_more_21 : decode cX4_more 21 = .ok (.ifCond .ne 10, 3) := by decide +kernel
theorem dX4_more_24 : decode cX4_more 24 = .ok (.aload_n 0, 1) := by decide +kernel
theorem dX4_more_25 : decode cX4_more 25 = .ok (.bipush (-2), 2) := by decide +kernel
theorem dX4_more_27 : decode cX4_more 27 = .ok (.invokevirtual 131, 3) := by decide +kernel
theorem dX4_more_30 : decode cX4_more 30 = .ok (.ireturn, 1) := by decide +kernel
theorem dX4_more_31 : decode cX4_more 31 = .ok (.aload_n 0, 1) := by decide +kernel
theorem dX4_more_32 : decode cX4_more 32 = .ok (.getfield 16, 3) := by decide +kernel
theorem dX4_more_35 : decode cX4_more 35 = .ok (.aload_n 0, 1) := by decide +kernel
theorem dX4_more_36 : decode cX4_more 36 = .ok (.getfield 10, 3) := by decide +kernel
theorem dX4_more_39 : decode cX4_more 39 = .ok (.invokevirtual 134, 3) := by decide +kernel
theorem dX4_more_42 : decode cX4_more 42 = .ok (.aload_n 0, 1) := by decide +kernel
theorem dX4_more_43 : decode cX4_more 43 = .ok (.getfield 16, 3) := by decide +kernel
theorem dX4_more_46 : decode cX4_more 46 = .ok (.iload_n 1, 1) := by decide +kernel
theorem dX4_more_47 : decode cX4_more 47 = .ok (.iload_n 2, 1) := by decide +kernel
theorem dX4_more_48 : decode cX4_more 48 = .ok (.invokevirtual 137, 3) := by decide +kernel
theorem dX4_more_51 : decode cX4_more 51 = .ok (.ifCond .ne 10, 3) := by decide +kernel
theorem dX4_more_54 : decode cX4_more 54 = .ok (.aload_n 0, 1) := by decide +kernel
theorem dX4_more_55 : decode cX4_more 55 = .ok (.bipush (-3), 2) := by decide +kernel
theorem dX4_more_57 : decode cX4_more 57 = .ok (.invokevirtual 131, 3) := by decide +kernel
theorem dX4_more_60 : decode cX4_more 60 = .ok (.ireturn, 1) := by decide +kernel
theorem dX4_more_61 : decode cX4_more 61 = .ok (.aload_n 0, 1) := by decide +kernel
theorem dX4_more_62 : decode cX4_more 62 = .ok (.aload_n 0, 1) := by decide +kernel
theorem dX4_more_63 : decode cX4_more 63 = .ok (.getfield 16, 3) := by decide +kernel
theorem dX4_more_66 : decode cX4_more 66 = .ok (.invokevirtual 127, 3) := by decide +kernel
theorem dX4_more_69 : decode cX4_more 69 = .ok (.aload_n 0, 1) := by decide +kernel
theorem dX4_more_70 : decode cX4_more 70 = .ok (.aload_n 0, 1) := by decide +kernel
theorem dX4_more_71 : decode cX4_more 71 = .ok (.getfield 10, 3) := by decide +kernel
theorem dX4_more_74 : decode cX4_more 74 = .ok (.invokevirtual 127, 3) := by decide +kernel
theorem dX4_more_77 : decode cX4_more 77 = .ok (.isub, 1) := by decide +kernel
theorem dX4_more_78 : decode cX4_more 78 = .ok (.ireturn, 1) := by decide +kernel
theorem lnX4_131 : Ln RX4 131 yX4_refuseMore := Or.inl (tb_in 534 (by decide +kernel) rfl)
theorem moX4_refuseMore : Mv yX4_refuseMore kX4_refuseMore 1 := ⟨⟨tb_in 537 (by decide +kernel) rfl, tb_in 87 (by decide +kernel) rfl, ⟨by decide, by decide⟩, by decide +kernel⟩, tb_in 536 (by decide +kernel) rfl, tb_in 33 (by decide +kernel) rfl⟩
theorem lnX4_137 : Ln RX4 137 yX3_change := Or.inr ⟨RX4, nt_in 539 (by decide +kernel) rfl⟩
theorem moX3_change : Mv yX3_change kX3_change 2 := ⟨⟨tb_in 542 (by decide +kernel) rfl, tb_in 88 (by decide +kernel) rfl, ⟨by decide, by decide⟩, by decide +kernel⟩, tb_in 541 (by decide +kernel) rfl, tb_in 34 (by decide +kernel) rfl⟩
def fX4_more (n : Nat) (a1 : Int32) (a2 : Int32) (μ : Mem) : Option (Int32 × Mem) :=
  bd (fX3_has n 2 a1 μ) (fun r2 m1 => if r2 = 0 then bd (fX4_refuseMore n (-1) m1) (fun r18 m17 => some (r18, m17)) else bd (fX4_isChoice n a2 m1) (fun r4 m3 => if r4 = 0 then bd (fX4_refuseMore n (-2) m3) (fun r16 m15 => some (r16, m15)) else bd (fX3_take n 14 2 m3) (fun r6 m5 => bd (fX3_change n 14 a1 a2 m5) (fun r8 m7 => if r8 = 0 then bd (fX4_refuseMore n (-3) m7) (fun r14 m13 => some (r14, m13)) else bd (fX4_neverIn n 14 m7) (fun r10 m9 => bd (fX4_neverIn n 2 m9) (fun r12 m11 => some ((r10 - r12), m11)))))))
set_option maxHeartbeats 4000000 in
set_option maxRecDepth 100000 in
theorem ctX4_more (ad : Nat → Nat) (n : Nat) (a1 : Int32) (a2 : Int32) (μ : Mem) : Ct yX4_more kX4_more ad encI [.ref (ad 0), .int a1, .int a2] μ (fX4_more n a1 a2 μ) := Ct.of (by decide +kernel) rfl (Nat.le_of_ble_eq_true rfl) (by
  show G kX4_more ad encI 0 [(0, .ref (ad 0)), (1, .int a1), (2, .int a2)] [] μ (fX4_more n a1 a2 μ)
  unfold fX4_more
  refine g_aload_n (pc := 0) 0 dX4_more_0 rfl rfl ?_
  refine g_get (pc := 1) rfl foX4_10 (v := .ref (ad 2)) rfl dX4_more_1 ?_
  refine g_iload_n (pc := 4) 1 dX4_more_4 rfl rfl ?_
  refine g_cVI (pc := 5) (st := []) [.int a1] rfl rfl moX3_has lnX4_67 (ctX3_has ad n 2 sT2 a1 μ) rfl ⟨Nat.le_of_ble_eq_true rfl, Nat.le_of_ble_eq_true rfl⟩ rfl (Nat.le_of_ble_eq_true rfl) dX4_more_5 (fun r2 m1 => ?_)
  refine g_if_ne (pc := 8) 17 dX4_more_8 rfl ?_ ?_
  · refine g_iload_n (pc := 17) 2 dX4_more_17 rfl rfl ?_
    refine g_cSI (pc := 18) (st := []) [.int a2] moX4_isChoice lnX4_87 (ctX4_isChoice ad n a2 m1) rfl ⟨Nat.le_of_ble_eq_true rfl, Nat.le_of_ble_eq_true rfl⟩ rfl (Nat.le_of_ble_eq_true rfl) dX4_more_18 (fun r4 m3 => ?_)
    refine g_if_ne (pc := 21) 31 dX4_more_21 rfl ?_ ?_
    · refine g_aload_n (pc := 31) 0 dX4_more_31 rfl rfl ?_
      refine g_get (pc := 32) rfl foX4_16 (v := .ref (ad 14)) rfl dX4_more_32 ?_
      refine g_aload_n (pc := 35) 0 dX4_more_35 rfl rfl ?_
      refine g_get (pc := 36) rfl foX4_10 (v := .ref (ad 2)) rfl dX4_more_36 ?_
      refine g_cVV (pc := 39) (st := []) [.ref (ad 2)] rfl rfl moX3_take lnX4_134 (ctX3_take ad n 14 2 sT14 sT2 m3) rfl ⟨Nat.le_of_ble_eq_true rfl, Nat.le_of_ble_eq_true rfl⟩ rfl (Nat.le_of_ble_eq_true rfl) dX4_more_39 (fun r6 m5 => ?_)
      refine g_aload_n (pc := 42) 0 dX4_more_42 rfl rfl ?_
      refine g_get (pc := 43) rfl foX4_16 (v := .ref (ad 14)) rfl dX4_more_43 ?_
      refine g_iload_n (pc := 46) 1 dX4_more_46 rfl rfl ?_
      refine g_iload_n (pc := 47) 2 dX4_more_47 rfl rfl ?_
      refine g_cVI (pc := 48) (st := []) [.int a1, .int a2] rfl rfl moX3_change lnX4_137 (ctX3_change ad n 14 sT14 a1 a2 m5) rfl ⟨Nat.le_of_ble_eq_true rfl, Nat.le_of_ble_eq_true rfl⟩ rfl (Nat.le_of_ble_eq_true rfl) dX4_more_48 (fun r8 m7 => ?_)
      refine g_if_ne (pc := 51) 61 dX4_more_51 rfl ?_ ?_
      · refine g_aload_n (pc := 61) 0 dX4_more_61 rfl rfl ?_
        refine g_aload_n (pc := 62) 0 dX4_more_62 rfl rfl ?_
        refine g_get (pc := 63) rfl foX4_16 (v := .ref (ad 14)) rfl dX4_more_63 ?_
        refine g_cVI (pc := 66) (st := []) [.ref (ad 14)] rfl rfl moX4_neverIn lnX4_127 (ctX4_neverIn ad n 14 sT14 m7) rfl ⟨Nat.le_of_ble_eq_true rfl, Nat.le_of_ble_eq_true rfl⟩ rfl (Nat.le_of_ble_eq_true rfl) dX4_more_66 (fun r10 m9 => ?_)
        refine g_aload_n (pc := 69) 0 dX4_more_69 rfl rfl ?_
        refine g_aload_n (pc := 70) 0 dX4_more_70 rfl rfl ?_
        refine g_get (pc := 71) rfl foX4_10 (v := .ref (ad 2)) rfl dX4_more_71 ?_
        refine g_cVI (pc := 74) (st := [.int r10]) [.ref (ad 2)] rfl rfl moX4_neverIn lnX4_127 (ctX4_neverIn ad n 2 sT2 m9) rfl ⟨Nat.le_of_ble_eq_true rfl, Nat.le_of_ble_eq_true rfl⟩ rfl (Nat.le_of_ble_eq_true rfl) dX4_more_74 (fun r12 m11 => ?_)
        refine g_isub (pc := 77) dX4_more_77 ?_
        exact g_ireturn (pc := 78) dX4_more_78 rfl
      · refine g_aload_n (pc := 54) 0 dX4_more_54 rfl rfl ?_
        refine g_bipush (pc := 55) (-3) dX4_more_55 (by decide) ?_
        refine g_cVI (pc := 57) (st := []) [.int (-3)] rfl rfl moX4_refuseMore lnX4_131 (ctX4_refuseMore ad n (-3) m7) rfl ⟨Nat.le_of_ble_eq_true rfl, Nat.le_of_ble_eq_true rfl⟩ rfl (Nat.le_of_ble_eq_true rfl) dX4_more_57 (fun r14 m13 => ?_)
        exact g_ireturn (pc := 60) dX4_more_60 rfl
    · refine g_aload_n (pc := 24) 0 dX4_more_24 rfl rfl ?_
      refine g_bipush (pc := 25) (-2) dX4_more_25 (by decide) ?_
      refine g_cVI (pc := 27) (st := []) [.int (-2)] rfl rfl moX4_refuseMore lnX4_131 (ctX4_refuseMore ad n (-2) m3) rfl ⟨Nat.le_of_ble_eq_true rfl, Nat.le_of_ble_eq_true rfl⟩ rfl (Nat.le_of_ble_eq_true rfl) dX4_more_27 (fun r16 m15 => ?_)
      exact g_ireturn (pc := 30) dX4_more_30 rfl
  · refine g_aload_n (pc := 11) 0 dX4_more_11 rfl rfl ?_
    refine g_iconst (pc := 12) (-1) dX4_more_12 (by decide) ?_
    refine g_cVI (pc := 13) (st := []) [.int (-1)] rfl rfl moX4_refuseMore lnX4_131 (ctX4_refuseMore ad n (-1) m1) rfl ⟨Nat.le_of_ble_eq_true rfl, Nat.le_of_ble_eq_true rfl⟩ rfl (Nat.le_of_ble_eq_true rfl) dX4_more_13 (fun r18 m17 => ?_)
    exact g_ireturn (pc := 16) dX4_more_16 rfl)
-- StopsByLetters.worst(I)I
abbrev kX4_worst : Cfg := (RX4, cX4_worst, 7, (some .int), 5)
theorem dX4_worst_0 : decode cX4_worst 0 = .ok (.iload_n 1, 1) := by decide +kernel
theorem dX4_worst_1 : decode cX4_worst 1 = .ok (.invokestatic 87, 3) := by decide +kernel
theorem dX4_worst_4 : decode cX4_worst 4 = .ok (.ifCond .ne 10, 3) := by decide +kernel
theorem dX4_worst_7 : decode cX4_worst 7 = .ok (.aload_n 0, 1) := by decide +kernel
theorem dX4_worst_8 : decode cX4_worst 8 = .ok (.bipush (-2), 2) := by decide +kernel
theorem dX4_worst_10 : decode cX4_worst 10 = .ok (.invokevirtual 51, 3) := by decide +kernel
theorem dX4_worst_13 : decode cX4_worst 13 = .ok (.ireturn, 1) := by decide +kernel
theorem dX4_worst_14 : decode cX4_worst 14 = .ok (.bipush (-9), 2) := by decide +kernel
theorem dX4_worst_16 : decode cX4_worst 16 = .ok (.istore_n 2, 1) := by decide +kernel
theorem dX4_worst_17 : decode cX4_worst 17 = .ok (.iconst 0, 1) := by decide +kernel
theorem dX4_worst_18 : decode cX4_worst 18 = .ok (.istore_n 3, 1) := by decide +kernel
theorem dX4_worst_19 : decode cX4_worst 19 = .ok (.iconst 0, 1) := by decide +kernel
theorem dX4_worst_20 : decode cX4_worst 20 = .ok (.istore 4, 2) := by decide +kernel
theorem dX4_worst_22 : decode cX4_worst 22 = .ok (.iload 4, 2) := by decide +kernel
theorem dX4_worst_24 : decode cX4_worst 24 = .ok (.iconst 2, 1) := by decide +kernel
theorem dX4_worst_25 : decode cX4_worst 25 = .ok (.aload_n 0, 1) := by decide +kernel
theorem dX4_worst_26 : decode cX4_worst 26 = .ok (.getfield 10, 3) := by decide +kernel
theorem dX4_worst_29 : decode cX4_worst 29 = .ok (.getfield 141, 3) := by decide +kernel
theorem dX4_worst_32 : decode cX4_worst 32 = .ok (.imul, 1) := by decide +kernel
theorem dX4_worst_33 : decode cX4_worst 33 = .ok (.if_icmp .ge 113, 3) := by decide +kernel
theorem dX4_worst_36 : decode cX4_worst 36 = .ok (.aload_n 0, 1) := by decide +kernel
theorem dX4_worst_37 : decode cX4_worst 37 = .ok (.getfield 16, 3) := by decide +kernel
theorem dX4_worst_40 : decode cX4_worst 40 = .ok (.aload_n 0, 1) := by decide +kernel
theorem dX4_worst_41 : decode cX4_worst 41 = .ok (.getfield 10, 3) := by decide +kernel
theorem dX4_worst_44 : decode cX4_worst 44 = .ok (.invokevirtual 134, 3) := by decide +kernel
theorem dX4_worst_47 : decode cX4_worst 47 = .ok (.aload_n 0, 1) := by decide +kernel
theorem dX4_worst_48 : decode cX4_worst 48 = .ok (.getfield 16, 3) := by decide +kernel
theorem dX4_worst_51 : decode cX4_worst 51 = .ok (.iload 4, 2) := by decide +kernel
theorem dX4_worst_53 : decode cX4_worst 53 = .ok (.iconst 2, 1) := by decide +kernel
theorem dX4_worst_54 : decode cX4_worst 54 = .ok (.idiv, 1) := by decide +kernel
theorem dX4_worst_55 : decode cX4_worst 55 = .ok (.iload 4, 2) := by decide +kernel
theorem dX4_worst_57 : decode cX4_worst 57 = .ok (.iconst 2, 1) := by decide +kernel
theorem dX4_worst_58 : decode cX4_worst 58 = .ok (.irem, 1) := by decide +kernel
theorem dX4_worst_59 : decode cX4_worst 59 = .ok (.invokevirtual 137, 3) := by decide +kernel
theorem dX4_worst_62 : decode cX4_worst 62 = .ok (.ifCond .ne 6, 3) := by decide +kernel
theorem dX4_worst_65 : decode cX4_worst 65 = .ok (.goto 75, 3) := by decide +kernel
theorem dX4_worst_68 : decode cX4_worst 68 = .ok (.aload_n 0, 1) := by decide +kernel
theorem dX4_worst_69 : decode cX4_worst 69 = .ok (.aload_n 0, 1) := by decide +kernel
theorem dX4_worst_70 : decode cX4_worst 70 = .ok (.getfield 16, 3) := by decide +kernel
theorem dX4_worst_73 : decode cX4_worst 73 = .ok (.invokevirtual 127, 3) := by decide +kernel
theorem dX4_worst_76 : decode cX4_worst 76 = .ok (.istore 5, 2) := by decide +kernel
theorem dX4_worst_78 : decode cX4_worst 78 = .ok (.iload_n 1, 1) := by decide +kernel
theorem dX4_worst_79 : decode cX4_worst 79 = .ok (.iconst 1, 1) := by decide +kernel
theorem dX4_worst_80 : decode cX4_worst 80 = .ok (.if_icmp .ne 17, 3) := by decide +kernel
theorem dX4_worst_83 : decode cX4_worst 83 = .ok (.iload 5, 2) := by decide +kernel
theorem dX4_worst_85 : decode cX4_worst 85 = .ok (.iload_n 3, 1) := by decide +kernel
theorem dX4_worst_86 : decode cX4_worst 86 = .ok (.if_icmp .ge 7, 3) := by decide +kernel
theorem dX4_worst_89 : decode cX4_worst 89 = .ok (.iconst 1, 1) := by decide +kernel
theorem dX4_worst_90 : decode cX4_worst 90 = .ok (.goto 18, 3) := by decide +kernel
theorem dX4_worst_93 : decode cX4_worst 93 = .ok (.iconst 0, 1) := by decide +kernel
theorem dX4_worst_94 : decode cX4_worst 94 = .ok (.goto 14, 3) := by decide +kernel
theorem dX4_worst_97 : decode cX4_worst 97 = .ok (.iload 5, 2) := by decide +kernel
theorem dX4_worst_99 : decode cX4_worst 99 = .ok (.iload_n 3, 1) := by decide +kernel
theorem dX4_worst_100 : decode cX4_worst 100 = .ok (.if_icmp .le 7, 3) := by decide +kernel
theorem dX4_worst_103 : decode cX4_worst 103 = .ok (.iconst 1, 1) := by decide +kernel
theorem dX4_worst_104 : decode cX4_worst 104 = .ok (.goto 4, 3) := by decide +kernel
theorem dX4_worst_107 : decode cX4_worst 107 = .ok (.iconst 0, 1) := by decide +kernel
theorem dX4_worst_108 : decode cX4_worst 108 = .ok (.istore 6, 2) := by decide +kernel
theorem dX4_worst_110 : decode cX4_worst 110 = .ok (.iload_n 2, 1) := by decide +kernel
theorem dX4_worst_111 : decode cX4_worst 111 = .ok (.bipush (-9), 2) := by decide +kernel
theorem dX4_worst_113 : decode cX4_worst 113 = .ok (.if_icmp .eq 11, 3) := by decide +kernel
theorem dX4_worst_116 : decode cX4_worst 116 = .ok (.iload 6, 2) := by decide +kernel
theorem dX4_worst_118 : decode cX4_worst 118 = .ok (.ifCond .ne 6, 3) := by decide +kernel
theorem dX4_worst_121 : decode cX4_worst 121 = .ok (.goto 19, 3) := by decide +kernel
theorem dX4_worst_124 : decode cX4_worst 124 = .ok (.iload 5, 2) := by decide +kernel
theorem dX4_worst_126 : decode cX4_worst 126 = .ok (.istore_n 3, 1) := by decide +kernel
theorem dX4_worst_127 : decode cX4_worst 127 = .ok (.bipush 10, 2) := by decide +kernel
theorem dX4_worst_129 : decode cX4_worst 129 = .ok (.iload 4, 2) := by decide +kernel
theorem dX4_worst_131 : decode cX4_worst 131 = .ok (.iconst 2, 1) := by decide +kernel
theorem dX4_worst_132 : decode cX4_worst 132 = .ok (.idiv, 1) := by decide +kernel
theorem dX4_worst_133 : decode cX4_worst 133 = .ok (.imul, 1) := by decide +kernel
theorem dX4_worst_134 : decode cX4_worst 134 = .ok (.iload 4, 2) := by decide +kernel
theorem dX4_worst_136 : decode cX4_worst 136 = .ok (.iconst 2, 1) := by decide +kernel
theorem dX4_worst_137 : decode cX4_worst 137 = .ok (.irem, 1) := by decide +kernel
theorem dX4_worst_138 : decode cX4_worst 138 = .ok (.iadd, 1) := by decide +kernel
theorem dX4_worst_139 : decode cX4_worst 139 = .ok (.istore_n 2, 1) := by decide +kernel
theorem dX4_worst_140 : decode cX4_worst 140 = .ok (.iinc 4 1, 3) := by decide +kernel
theorem dX4_worst_143 : decode cX4_worst 143 = .ok (.goto (-121), 3) := by decide +kernel
theorem dX4_worst_146 : decode cX4_worst 146 = .ok (.iload_n 2, 1) := by decide +kernel
theorem dX4_worst_147 : decode cX4_worst 147 = .ok (.ireturn, 1) := by decide +kernel
theorem foX4_141 : Fo 3 RX3 TX3 5 3 RX4 141 := ⟨rfl, by decide, rfl, uwX3, rfl, Or.inr ⟨RX4, nt_in 125 (by decide +kernel) rfl⟩⟩
def fX4_worst_L22 (n : Nat) (v1 : Int32) : Nat → Int32 → Int32 → Int32 → Mem → Option (Int32 × Mem)
  | 0, _, _, _, _ => none
  | F + 1, v2, v3, v4, μ => if (2 * (μ.1 2 3)) ≤ v4 then some (v2, μ) else bd (fX3_take n 14 2 μ) (fun r4 m3 => bd (fX3_change n 14 (v4 / 2) (jrem v4 2) m3) (fun r6 m5 => if r6 = 0 then bnd (v4 + 1) (fun x17 => fX4_worst_L22 n v1 F v2 v3 x17 m5) else bd (fX4_neverIn n 14 m5) (fun r8 m7 => bnd (fun (x10 : Int32) (m11 : Mem) => bnd (fun (m13 : Mem) => bnd ((10 * (v4 / 2)) + (jrem v4 2)) (fun x14 => bnd (v4 + 1) (fun x15 => fX4_worst_L22 n v1 F x14 r8 x15 m13))) (fun kb12 => if v2 = (-9) then kb12 m11 else if x10 = 0 then bnd (v4 + 1) (fun x16 => fX4_worst_L22 n v1 F v2 v3 x16 m11) else kb12 m11)) (fun kb9 => if v1 = 1 then if v3 ≤ r8 then kb9 0 m7 else kb9 1 m7 else if r8 ≤ v3 then kb9 0 m7 else kb9 1 m7))))
def fX4_worst (n : Nat) (a1 : Int32) (μ : Mem) : Option (Int32 × Mem) :=
  bd (fX4_isChoice n a1 μ) (fun r2 m1 => if r2 = 0 then bd (fX4_refuse n (-2) m1) (fun r19 m18 => some (r19, m18)) else fX4_worst_L22 n a1 n (-9) 0 0 m1)
set_option maxHeartbeats 4000000 in
set_option maxRecDepth 100000 in
theorem wX4_worst_L22 (ad : Nat → Nat) (n : Nat) (v1 : Int32) : ∀ (F : Nat) (v2 : Int32) (v3 : Int32) (v4 : Int32) (μ : Mem), G kX4_worst ad encI 22 [(0, .ref (ad 0)), (1, .int v1), (2, .int v2), (3, .int v3), (4, .int v4)] [] μ (fX4_worst_L22 n v1 F v2 v3 v4 μ) := by
  intro F
  induction F with
  | zero =>
    intro v2 v3 v4 μ
    exact g_none
  | succ F ih =>
    intro v2 v3 v4 μ
    rw [fX4_worst_L22]
    refine g_iload (pc := 22) 4 dX4_worst_22 rfl ?_
    refine g_iconst (pc := 24) 2 dX4_worst_24 (by decide) ?_
    refine g_aload_n (pc := 25) 0 dX4_worst_25 rfl rfl ?_
    refine g_get (pc := 26) rfl foX4_10 (v := .ref (ad 2)) rfl dX4_worst_26 ?_
    refine g_get (pc := 29) rfl foX4_141 (v := .int (μ.1 2 3)) rfl dX4_worst_29 ?_
    refine g_imul (pc := 32) dX4_worst_32 ?_
    refine g_icmp_ge (pc := 33) 146 dX4_worst_33 rfl ?_ ?_
    · refine g_iload_n (pc := 146) 2 dX4_worst_146 rfl rfl ?_
      exact g_ireturn (pc := 147) dX4_worst_147 rfl
    · refine g_aload_n (pc := 36) 0 dX4_worst_36 rfl rfl ?_
      refine g_get (pc := 37) rfl foX4_16 (v := .ref (ad 14)) rfl dX4_worst_37 ?_
      refine g_aload_n (pc := 40) 0 dX4_worst_40 rfl rfl ?_
      refine g_get (pc := 41) rfl foX4_10 (v := .ref (ad 2)) rfl dX4_worst_41 ?_
      refine g_cVV (pc := 44) (st := []) [.ref (ad 2)] rfl rfl moX3_take lnX4_134 (ctX3_take ad n 14 2 sT14 sT2 μ) rfl ⟨Nat.le_of_ble_eq_true rfl, Nat.le_of_ble_eq_true rfl⟩ rfl (Nat.le_of_ble_eq_true rfl) dX4_worst_44 (fun r4 m3 => ?_)
      refine g_aload_n (pc := 47) 0 dX4_worst_47 rfl rfl ?_
      refine g_get (pc := 48) rfl foX4_16 (v := .ref (ad 14)) rfl dX4_worst_48 ?_
      refine g_iload (pc := 51) 4 dX4_worst_51 rfl ?_
      refine g_iconst (pc := 53) 2 dX4_worst_53 (by decide) ?_
      refine g_idiv (pc := 54) dX4_worst_54 (by decide) ?_
      refine g_iload (pc := 55) 4 dX4_worst_55 rfl ?_
      refine g_iconst (pc := 57) 2 dX4_worst_57 (by decide) ?_
      refine g_irem' (pc := 58) dX4_worst_58 (by decide) ?_
      refine g_cVI (pc := 59) (st := []) [.int (v4 / 2), .int (jrem v4 2)] rfl rfl moX3_change lnX4_137 (ctX3_change ad n 14 sT14 (v4 / 2) (jrem v4 2) m3) rfl ⟨Nat.le_of_ble_eq_true rfl, Nat.le_of_ble_eq_true rfl⟩ rfl (Nat.le_of_ble_eq_true rfl) dX4_worst_59 (fun r6 m5 => ?_)
      refine g_if_ne (pc := 62) 68 dX4_worst_62 rfl ?_ ?_
      · refine g_aload_n (pc := 68) 0 dX4_worst_68 rfl rfl ?_
        refine g_aload_n (pc := 69) 0 dX4_worst_69 rfl rfl ?_
        refine g_get (pc := 70) rfl foX4_16 (v := .ref (ad 14)) rfl dX4_worst_70 ?_
        refine g_cVI (pc := 73) (st := []) [.ref (ad 14)] rfl rfl moX4_neverIn lnX4_127 (ctX4_neverIn ad n 14 sT14 m5) rfl ⟨Nat.le_of_ble_eq_true rfl, Nat.le_of_ble_eq_true rfl⟩ rfl (Nat.le_of_ble_eq_true rfl) dX4_worst_73 (fun r8 m7 => ?_)
        refine g_istore (pc := 76) [(5, .int r8), (0, .ref (ad 0)), (1, .int v1), (2, .int v2), (3, .int v3), (4, .int v4)] dX4_worst_76 (by decide) rfl ?_
        refine g_iload_n (pc := 78) 2 dX4_worst_78 rfl rfl ?_
        refine g_iconst (pc := 79) 1 dX4_worst_79 (by decide) ?_
        refine g_join (fun kb => ∀ (x10 : Int32) (m11 : Mem), G kX4_worst ad encI 108 [(0, .ref (ad 0)), (1, .int v1), (2, .int v2), (3, .int v3), (4, .int v4), (5, .int r8)] [.int x10] m11 (kb x10 m11)) (fun x10 m11 => ?_) (fun kb9 hkb9 => ?_)
        · refine g_istore (pc := 108) [(6, .int x10), (0, .ref (ad 0)), (1, .int v1), (2, .int v2), (3, .int v3), (4, .int v4), (5, .int r8)] dX4_worst_108 (by decide) rfl ?_
          refine g_iload_n (pc := 110) 3 dX4_worst_110 rfl rfl ?_
          refine g_bipush (pc := 111) (-9) dX4_worst_111 (by decide) ?_
          refine g_join (fun kb => ∀ (m13 : Mem), G kX4_worst ad encI 124 [(0, .ref (ad 0)), (1, .int v1), (4, .int v4), (5, .int r8)] [] m13 (kb m13)) (fun m13 => ?_) (fun kb12 hkb12 => ?_)
          · refine g_iload (pc := 124) 3 dX4_worst_124 rfl ?_
            refine g_istore_n (pc := 126) [(3, .int r8), (0, .ref (ad 0)), (1, .int v1), (4, .int v4), (5, .int r8)] dX4_worst_126 rfl (by decide) rfl ?_
            refine g_bipush (pc := 127) 10 dX4_worst_127 (by decide) ?_
            refine g_iload (pc := 129) 3 dX4_worst_129 rfl ?_
            refine g_iconst (pc := 131) 2 dX4_worst_131 (by decide) ?_
            refine g_idiv (pc := 132) dX4_worst_132 (by decide) ?_
            refine g_imul (pc := 133) dX4_worst_133 ?_
            refine g_iload (pc := 134) 3 dX4_worst_134 rfl ?_
            refine g_iconst (pc := 136) 2 dX4_worst_136 (by decide) ?_
            refine g_irem' (pc := 137) dX4_worst_137 (by decide) ?_
            refine g_iadd (pc := 138) dX4_worst_138 ?_
            refine g_istore_nB (pc := 139) (fun x14 => [(2, .int x14), (3, .int r8), (0, .ref (ad 0)), (1, .int v1), (4, .int v4), (5, .int r8)]) dX4_worst_139 rfl (by decide) (fun _ => rfl) (fun x14 => ?_)
            refine g_iincB (pc := 140) 4 1 1 (fun x15 => [(4, .int x15), (2, .int x14), (3, .int r8), (0, .ref (ad 0)), (1, .int v1), (5, .int r8)]) dX4_worst_140 rfl (by decide) (by decide) (fun _ => rfl) (fun x15 => ?_)
            refine g_goto (pc := 143) 22 dX4_worst_143 rfl ?_
            exact g_sub [3, 4, 1, 2, 0] rfl (ih x14 r8 x15 m13)
          ·
            refine g_icmp_eq (pc := 113) 124 dX4_worst_113 rfl ?_ ?_
            · exact g_sub [1, 2, 5, 6] rfl (hkb12 m11)
            · refine g_iload (pc := 116) 0 dX4_worst_116 rfl ?_
              refine g_if_ne (pc := 118) 124 dX4_worst_118 rfl ?_ ?_
              · exact g_sub [1, 2, 5, 6] rfl (hkb12 m11)
              · refine g_goto (pc := 121) 140 dX4_worst_121 rfl ?_
                refine g_iincB (pc := 140) 5 1 1 (fun x16 => [(4, .int x16), (6, .int x10), (0, .ref (ad 0)), (1, .int v1), (2, .int v2), (3, .int v3), (5, .int r8)]) dX4_worst_140 rfl (by decide) (by decide) (fun _ => rfl) (fun x16 => ?_)
                refine g_goto (pc := 143) 22 dX4_worst_143 rfl ?_
                exact g_sub [2, 3, 4, 5, 0] rfl (ih v2 v3 x16 m11)
        ·
          refine g_icmp_ne (pc := 80) 97 dX4_worst_80 rfl ?_ ?_
          · refine g_iload (pc := 97) 0 dX4_worst_97 rfl ?_
            refine g_iload_n (pc := 99) 4 dX4_worst_99 rfl rfl ?_
            refine g_icmp_le (pc := 100) 107 dX4_worst_100 rfl ?_ ?_
            · refine g_iconst (pc := 107) 0 dX4_worst_107 (by decide) ?_
              exact g_sub [1, 2, 3, 4, 5, 0] rfl (hkb9 0 m7)
            · refine g_iconst (pc := 103) 1 dX4_worst_103 (by decide) ?_
              refine g_goto (pc := 104) 108 dX4_worst_104 rfl ?_
              exact g_sub [1, 2, 3, 4, 5, 0] rfl (hkb9 1 m7)
          · refine g_iload (pc := 83) 0 dX4_worst_83 rfl ?_
            refine g_iload_n (pc := 85) 4 dX4_worst_85 rfl rfl ?_
            refine g_icmp_ge (pc := 86) 93 dX4_worst_86 rfl ?_ ?_
            · refine g_iconst (pc := 93) 0 dX4_worst_93 (by decide) ?_
              refine g_goto (pc := 94) 108 dX4_worst_94 rfl ?_
              exact g_sub [1, 2, 3, 4, 5, 0] rfl (hkb9 0 m7)
            · refine g_iconst (pc := 89) 1 dX4_worst_89 (by decide) ?_
              refine g_goto (pc := 90) 108 dX4_worst_90 rfl ?_
              exact g_sub [1, 2, 3, 4, 5, 0] rfl (hkb9 1 m7)
      · refine g_goto (pc := 65) 140 dX4_worst_65 rfl ?_
        refine g_iincB (pc := 140) 4 1 1 (fun x17 => [(4, .int x17), (0, .ref (ad 0)), (1, .int v1), (2, .int v2), (3, .int v3)]) dX4_worst_140 rfl (by decide) (by decide) (fun _ => rfl) (fun x17 => ?_)
        refine g_goto (pc := 143) 22 dX4_worst_143 rfl ?_
        exact g_sub [1, 2, 3, 4, 0] rfl (ih v2 v3 x17 m5)
set_option maxHeartbeats 4000000 in
set_option maxRecDepth 100000 in
theorem ctX4_worst (ad : Nat → Nat) (n : Nat) (a1 : Int32) (μ : Mem) : Ct yX4_worst kX4_worst ad encI [.ref (ad 0), .int a1] μ (fX4_worst n a1 μ) := Ct.of (by decide +kernel) rfl (Nat.le_of_ble_eq_true rfl) (by
  show G kX4_worst ad encI 0 [(0, .ref (ad 0)), (1, .int a1)] [] μ (fX4_worst n a1 μ)
  unfold fX4_worst
  refine g_iload_n (pc := 0) 1 dX4_worst_0 rfl rfl ?_
  refine g_cSI (pc := 1) (st := []) [.int a1] moX4_isChoice lnX4_87 (ctX4_isChoice ad n a1 μ) rfl ⟨Nat.le_of_ble_eq_true rfl, Nat.le_of_ble_eq_true rfl⟩ rfl (Nat.le_of_ble_eq_true rfl) dX4_worst_1 (fun r2 m1 => ?_)
  refine g_if_ne (pc := 4) 14 dX4_worst_4 rfl ?_ ?_
  · refine g_bipush (pc := 14) (-9) dX4_worst_14 (by decide) ?_
    refine g_istore_n (pc := 16) [(2, .int (-9)), (0, .ref (ad 0)), (1, .int a1)] dX4_worst_16 rfl (by decide) rfl ?_
    refine g_iconst (pc := 17) 0 dX4_worst_17 (by decide) ?_
    refine g_istore_n (pc := 18) [(3, .int 0), (2, .int (-9)), (0, .ref (ad 0)), (1, .int a1)] dX4_worst_18 rfl (by decide) rfl ?_
    refine g_iconst (pc := 19) 0 dX4_worst_19 (by decide) ?_
    refine g_istore (pc := 20) [(4, .int 0), (3, .int 0), (2, .int (-9)), (0, .ref (ad 0)), (1, .int a1)] dX4_worst_20 (by decide) rfl ?_
    exact g_sub [3, 4, 2, 1, 0] rfl (wX4_worst_L22 ad n a1 n (-9) 0 0 m1)
  · refine g_aload_n (pc := 7) 0 dX4_worst_7 rfl rfl ?_
    refine g_bipush (pc := 8) (-2) dX4_worst_8 (by decide) ?_
    refine g_cVI (pc := 10) (st := []) [.int (-2)] rfl rfl moX4_refuse lnX4_51 (ctX4_refuse ad n (-2) m1) rfl ⟨Nat.le_of_ble_eq_true rfl, Nat.le_of_ble_eq_true rfl⟩ rfl (Nat.le_of_ble_eq_true rfl) dX4_worst_10 (fun r19 m18 => ?_)
    exact g_ireturn (pc := 13) dX4_worst_13 rfl)
-- StopsByLetters.someChangeJoinsAll()Z
abbrev kX4_someChangeJoinsAll : Cfg := (RX4, cX4_someChangeJoinsAll, 2, (some .boolean), 5)
theorem dX4_someChangeJoinsAll_0 : decode cX4_someChangeJoinsAll 0 = .ok (.iconst 0, 1) := by decide +kernel
theorem dX4_someChangeJoinsAll_1 : decode cX4_someChangeJoinsAll 1 = .ok (.istore_n 1, 1) := by decide +kernel
theorem dX4_someChangeJoinsAll_2 : decode cX4_someChangeJoinsAll 2 = .ok (.iload_n 1, 1) := by decide +kernel
theorem dX4_someChangeJoinsAll_3 : decode cX4_someChangeJoinsAll 3 = .ok (.iconst 2, 1) := by decide +kernel
theorem dX4_someChangeJoinsAll_4 : decode cX4_someChangeJoinsAll 4 = .ok (.aload_n 0, 1) := by decide +kernel
theorem dX4_someChangeJoinsAll_5 : decode cX4_someChangeJoinsAll 5 = .ok (.getfield 10, 3) := by decide +kernel
theorem dX4_someChangeJoinsAll_8 : decode cX4_someChangeJoinsAll 8 = .ok (.getfield 141, 3) := by decide +kernel
theorem dX4_someChangeJoinsAll_11 : decode cX4_someChangeJoinsAll 11 = .ok (.imul, 1) := by decide +kernel
theorem dX4_someChangeJoinsAll_12 : decode cX4_someChangeJoinsAll 12 = .ok (.if_icmp .ge 49, 3) := by decide +kernel
theorem dX4_someChangeJoinsAll_15 : decode cX4_someChangeJoinsAll 15 = .ok (.aload_n 0, 1) := by decide +kernel
theorem dX4_someChangeJoinsAll_16 : decode cX4_someChangeJoinsAll 16 = .ok (.getfield 16, 3) := by decide +kernel
theorem dX4_someChangeJoinsAll_19 : decode cX4_someChangeJoinsAll 19 = .ok (.aload_n 0, 1) := by decide +kernel
theorem dX4_someChangeJoinsAll_20 : decode cX4_someChangeJoinsAll 20 = .ok (.getfield 10, 3) := by decide +kernel
theorem dX4_someChangeJoinsAll_23 : decode cX4_someChangeJoinsAll 23 = .ok (.invokevirtual 134, 3) := by decide +kernel
theorem dX4_someChangeJoinsAll_26 : decode cX4_someChangeJoinsAll 26 = .ok (.aload_n 0, 1) := by decide +kernel
theorem dX4_someChangeJoinsAll_27 : decode cX4_someChangeJoinsAll 27 = .ok (.getfield 16, 3) := by decide +kernel
theorem dX4_someChangeJoinsAll_30 : decode cX4_someChangeJoinsAll 30 = .ok (.iload_n 1, 1) := by decide +kernel
theorem dX4_someChangeJoinsAll_31 : decode cX4_someChangeJoinsAll 31 = .ok (.iconst 2, 1) := by decide +kernel
theorem dX4_someChangeJoinsAll_32 : decode cX4_someChangeJoinsAll 32 = .ok (.idiv, 1) := by decide +kernel
theorem dX4_someChangeJoinsAll_33 : decode cX4_someChangeJoinsAll 33 = .ok (.iload_n 1, 1) := by decide +kernel
theorem dX4_someChangeJoinsAll_34 : decode cX4_someChangeJoinsAll 34 = .ok (.iconst 2, 1) := by decide +kernel
theorem dX4_someChangeJoinsAll_35 : decode cX4_someChangeJoinsAll 35 = .ok (.irem, 1) := by decide +kernel
theorem dX4_someChangeJoinsAll_36 : decode cX4_someChangeJoinsAll 36 = .ok (.invokevirtual 137, 3) := by decide +kernel
theorem dX4_someChangeJoinsAll_39 : decode cX4_someChangeJoinsAll 39 = .ok (.ifCond .eq 16, 3) := by decide +kernel
theorem dX4_someChangeJoinsAll_42 : decode cX4_someChangeJoinsAll 42 = .ok (.aload_n 0, 1) := by decide +kernel
theorem dX4_someChangeJoinsAll_43 : decode cX4_someChangeJoinsAll 43 = .ok (.aload_n 0, 1) := by decide +kernel
theorem dX4_someChangeJoinsAll_44 : decode cX4_someChangeJoinsAll 44 = .ok (.getfield 16, 3) := by decide +kernel
theorem dX4_someChangeJoinsAll_47 : decode cX4_someChangeJoinsAll 47 = .ok (.invokevirtual 127, 3) := by decide +kernel
theorem dX4_someChangeJoinsAll_50 : decode cX4_someChangeJoinsAll 50 = .ok (.ifCond .ne 5, 3) := by decide +kernel
theorem dX4_someChangeJoinsAll_53 : decode cX4_someChangeJoinsAll 53 = .ok (.iconst 1, 1) := by decide +kernel
theorem dX4_someChangeJoinsAll_54 : decode cX4_someChangeJoinsAll 54 = .ok (.ireturn, 1) := by decide +kernel
theorem dX4_someChangeJoinsAll_55 : decode cX4_someChangeJoinsAll 55 = .ok (.iinc 1 1, 3) := by decide +kernel
theorem dX4_someChangeJoinsAll_58 : decode cX4_someChangeJoinsAll 58 = .ok (.goto (-56), 3) := by decide +kernel
theorem dX4_someChangeJoinsAll_61 : decode cX4_someChangeJoinsAll 61 = .ok (.iconst 0, 1) := by decide +kernel
theorem dX4_someChangeJoinsAll_62 : decode cX4_someChangeJoinsAll 62 = .ok (.ireturn, 1) := by decide +kernel
def fX4_someChangeJoinsAll_L2 (n : Nat) : Nat → Int32 → Mem → Option (Int32 × Mem)
  | 0, _, _ => none
  | F + 1, v1, μ => if (2 * (μ.1 2 3)) ≤ v1 then some (0, μ) else bd (fX3_take n 14 2 μ) (fun r2 m1 => bd (fX3_change n 14 (v1 / 2) (jrem v1 2) m1) (fun r4 m3 => if r4 = 0 then bnd (v1 + 1) (fun x5 => fX4_someChangeJoinsAll_L2 n F x5 m3) else bd (fX4_neverIn n 14 m3) (fun r7 m6 => if r7 = 0 then some (1, m6) else bnd (v1 + 1) (fun x8 => fX4_someChangeJoinsAll_L2 n F x8 m6))))
def fX4_someChangeJoinsAll (n : Nat) (μ : Mem) : Option (Int32 × Mem) :=
  fX4_someChangeJoinsAll_L2 n n 0 μ
set_option maxHeartbeats 4000000 in
set_option maxRecDepth 100000 in
theorem wX4_someChangeJoinsAll_L2 (ad : Nat → Nat) (n : Nat) : ∀ (F : Nat) (v1 : Int32) (μ : Mem), G kX4_someChangeJoinsAll ad encI 2 [(0, .ref (ad 0)), (1, .int v1)] [] μ (fX4_someChangeJoinsAll_L2 n F v1 μ) := by
  intro F
  induction F with
  | zero =>
    intro v1 μ
    exact g_none
  | succ F ih =>
    intro v1 μ
    rw [fX4_someChangeJoinsAll_L2]
    refine g_iload_n (pc := 2) 1 dX4_someChangeJoinsAll_2 rfl rfl ?_
    refine g_iconst (pc := 3) 2 dX4_someChangeJoinsAll_3 (by decide) ?_
    refine g_aload_n (pc := 4) 0 dX4_someChangeJoinsAll_4 rfl rfl ?_
    refine g_get (pc := 5) rfl foX4_10 (v := .ref (ad 2)) rfl dX4_someChangeJoinsAll_5 ?_
    refine g_get (pc := 8) rfl foX4_141 (v := .int (μ.1 2 3)) rfl dX4_someChangeJoinsAll_8 ?_
    refine g_imul (pc := 11) dX4_someChangeJoinsAll_11 ?_
    refine g_icmp_ge (pc := 12) 61 dX4_someChangeJoinsAll_12 rfl ?_ ?_
    · refine g_iconst (pc := 61) 0 dX4_someChangeJoinsAll_61 (by decide) ?_
      exact g_zreturn (pc := 62) (by decide) dX4_someChangeJoinsAll_62 rfl
    · refine g_aload_n (pc := 15) 0 dX4_someChangeJoinsAll_15 rfl rfl ?_
      refine g_get (pc := 16) rfl foX4_16 (v := .ref (ad 14)) rfl dX4_someChangeJoinsAll_16 ?_
      refine g_aload_n (pc := 19) 0 dX4_someChangeJoinsAll_19 rfl rfl ?_
      refine g_get (pc := 20) rfl foX4_10 (v := .ref (ad 2)) rfl dX4_someChangeJoinsAll_20 ?_
      refine g_cVV (pc := 23) (st := []) [.ref (ad 2)] rfl rfl moX3_take lnX4_134 (ctX3_take ad n 14 2 sT14 sT2 μ) rfl ⟨Nat.le_of_ble_eq_true rfl, Nat.le_of_ble_eq_true rfl⟩ rfl (Nat.le_of_ble_eq_true rfl) dX4_someChangeJoinsAll_23 (fun r2 m1 => ?_)
      refine g_aload_n (pc := 26) 0 dX4_someChangeJoinsAll_26 rfl rfl ?_
      refine g_get (pc := 27) rfl foX4_16 (v := .ref (ad 14)) rfl dX4_someChangeJoinsAll_27 ?_
      refine g_iload_n (pc := 30) 1 dX4_someChangeJoinsAll_30 rfl rfl ?_
      refine g_iconst (pc := 31) 2 dX4_someChangeJoinsAll_31 (by decide) ?_
      refine g_idiv (pc := 32) dX4_someChangeJoinsAll_32 (by decide) ?_
      refine g_iload_n (pc := 33) 1 dX4_someChangeJoinsAll_33 rfl rfl ?_
      refine g_iconst (pc := 34) 2 dX4_someChangeJoinsAll_34 (by decide) ?_
      refine g_irem' (pc := 35) dX4_someChangeJoinsAll_35 (by decide) ?_
      refine g_cVI (pc := 36) (st := []) [.int (v1 / 2), .int (jrem v1 2)] rfl rfl moX3_change lnX4_137 (ctX3_change ad n 14 sT14 (v1 / 2) (jrem v1 2) m1) rfl ⟨Nat.le_of_ble_eq_true rfl, Nat.le_of_ble_eq_true rfl⟩ rfl (Nat.le_of_ble_eq_true rfl) dX4_someChangeJoinsAll_36 (fun r4 m3 => ?_)
      refine g_if_eq (pc := 39) 55 dX4_someChangeJoinsAll_39 rfl ?_ ?_
      · refine g_iincB (pc := 55) 1 1 1 (fun x5 => [(1, .int x5), (0, .ref (ad 0))]) dX4_someChangeJoinsAll_55 rfl (by decide) (by decide) (fun _ => rfl) (fun x5 => ?_)
        refine g_goto (pc := 58) 2 dX4_someChangeJoinsAll_58 rfl ?_
        exact g_sub [1, 0] rfl (ih x5 m3)
      · refine g_aload_n (pc := 42) 0 dX4_someChangeJoinsAll_42 rfl rfl ?_
        refine g_aload_n (pc := 43) 0 dX4_someChangeJoinsAll_43 rfl rfl ?_
        refine g_get (pc := 44) rfl foX4_16 (v := .ref (ad 14)) rfl dX4_someChangeJoinsAll_44 ?_
        refine g_cVI (pc := 47) (st := []) [.ref (ad 14)] rfl rfl moX4_neverIn lnX4_127 (ctX4_neverIn ad n 14 sT14 m3) rfl ⟨Nat.le_of_ble_eq_true rfl, Nat.le_of_ble_eq_true rfl⟩ rfl (Nat.le_of_ble_eq_true rfl) dX4_someChangeJoinsAll_47 (fun r7 m6 => ?_)
        refine g_if_ne (pc := 50) 55 dX4_someChangeJoinsAll_50 rfl ?_ ?_
        · refine g_iincB (pc := 55) 1 1 1 (fun x8 => [(1, .int x8), (0, .ref (ad 0))]) dX4_someChangeJoinsAll_55 rfl (by decide) (by decide) (fun _ => rfl) (fun x8 => ?_)
          refine g_goto (pc := 58) 2 dX4_someChangeJoinsAll_58 rfl ?_
          exact g_sub [1, 0] rfl (ih x8 m6)
        · refine g_iconst (pc := 53) 1 dX4_someChangeJoinsAll_53 (by decide) ?_
          exact g_zreturn (pc := 54) (by decide) dX4_someChangeJoinsAll_54 rfl
set_option maxHeartbeats 4000000 in
set_option maxRecDepth 100000 in
theorem ctX4_someChangeJoinsAll (ad : Nat → Nat) (n : Nat) (μ : Mem) : Ct yX4_someChangeJoinsAll kX4_someChangeJoinsAll ad encI [.ref (ad 0)] μ (fX4_someChangeJoinsAll n μ) := Ct.of (by decide +kernel) rfl (Nat.le_of_ble_eq_true rfl) (by
  show G kX4_someChangeJoinsAll ad encI 0 [(0, .ref (ad 0))] [] μ (fX4_someChangeJoinsAll n μ)
  unfold fX4_someChangeJoinsAll
  refine g_iconst (pc := 0) 0 dX4_someChangeJoinsAll_0 (by decide) ?_
  refine g_istore_n (pc := 1) [(1, .int 0), (0, .ref (ad 0))] dX4_someChangeJoinsAll_1 rfl (by decide) rfl ?_
  exact g_sub [1, 0] rfl (wX4_someChangeJoinsAll_L2 ad n n 0 μ))
-- StopsByLetters.someTwoChangesJoinAll()Z
abbrev kX4_someTwoChangesJoinAll : Cfg := (RX4, cX4_someTwoChangesJoinAll, 4, (some .boolean), 5)
theorem dX4_someTwoChangesJoinAll_0 : decode cX4_someTwoChangesJoinAll 0 = .ok (.iconst 0, 1) := by decide +kernel
theorem dX4_someTwoChangesJoinAll_1 : decode cX4_someTwoChangesJoinAll 1 = .ok (.istore_n 1, 1) := by decide +kernel
theorem dX4_someTwoChangesJoinAll_2 : decode cX4_someTwoChangesJoinAll 2 = .ok (.iload_n 1, 1) := by decide +kernel
theorem dX4_someTwoChangesJoinAll_3 : decode cX4_someTwoChangesJoinAll 3 = .ok (.iconst 2, 1) := by decide +kernel
theorem dX4_someTwoChangesJoinAll_4 : decode cX4_someTwoChangesJoinAll 4 = .ok (.aload_n 0, 1) := by decide +kernel
theorem dX4_someTwoChangesJoinAll_5 : decode cX4_someTwoChangesJoinAll 5 = .ok (.getfield 10, 3) := by decide +kernel
theorem dX4_someTwoChangesJoinAll_8 : decode cX4_someTwoChangesJoinAll 8 = .ok (.getfield 141, 3) := by decide +kernel
theorem dX4_someTwoChangesJoinAll_11 : decode cX4_someTwoChangesJoinAll 11 = .ok (.imul, 1) := by decide +kernel
theorem dX4_someTwoChangesJoinAll_12 : decode cX4_someTwoChangesJoinAll 12 = .ok (.if_icmp .ge 102, 3) := by decide +kernel
theorem dX4_someTwoChangesJoinAll_15 : decode cX4_someTwoChangesJoinAll 15 = .ok (.iload_n 1, 1) := by decide +kernel
theorem dX4_someTwoChangesJoinAll_16 : decode cX4_someTwoChangesJoinAll 16 = .ok (.iload_n 1, 1) := by decide +kernel
theorem dX4_someTwoChangesJoinAll_17 : decode cX4_someTwoChangesJoinAll 17 = .ok (.iconst 2, 1) := by decide +kernel
theorem dX4_someTwoChangesJoinAll_18 : decode cX4_someTwoChangesJoinAll 18 = .ok (.irem, 1) := by decide +kernel
theorem dX4_someTwoChangesJoinAll_19 : decode cX4_someTwoChangesJoinAll 19 = .ok (.isub, 1) := by decide +kernel
theorem dX4_someTwoChangesJoinAll_20 : decode cX4_someTwoChangesJoinAll 20 = .ok (.iconst 2, 1) := by decide +kernel
theorem dX4_someTwoChangesJoinAll_21 : decode cX4_someTwoChangesJoinAll 21 = .ok (.iadd, 1) := by decide +kernel
theorem dX4_someTwoChangesJoinAll_22 : decode cX4_someTwoChangesJoinAll 22 = .ok (.istore_n 2, 1) := by decide +kernel
theorem dX4_someTwoChangesJoinAll_23 : decode cX4_someTwoChangesJoinAll 23 = .ok (.iload_n 2, 1) := by decide +kernel
theorem dX4_someTwoChangesJoinAll_24 : decode cX4_someTwoChangesJoinAll 24 = .ok (.iconst 2, 1) := by decide +kernel
theorem dX4_someTwoChangesJoinAll_25 : decode cX4_someTwoChangesJoinAll 25 = .ok (.aload_n 0, 1) := by decide +kernel
theorem dX4_someTwoChangesJoinAll_26 : decode cX4_someTwoChangesJoinAll 26 = .ok (.getfield 10, 3) := by decide +kernel
theorem dX4_someTwoChangesJoinAll_29 : decode cX4_someTwoChangesJoinAll 29 = .ok (.getfield 141, 3) := by decide +kernel
theorem dX4_someTwoChangesJoinAll_32 : decode cX4_someTwoChangesJoinAll 32 = .ok (.imul, 1) := by decide +kernel
theorem dX4_someTwoChangesJoinAll_33 : decode cX4_someTwoChangesJoinAll 33 = .ok (.if_icmp .ge 75, 3) := by decide +kernel
theorem dX4_someTwoChangesJoinAll_36 : decode cX4_someTwoChangesJoinAll 36 = .ok (.aload_n 0, 1) := by decide +kernel
theorem dX4_someTwoChangesJoinAll_37 : decode cX4_someTwoChangesJoinAll 37 = .ok (.getfield 16, 3) := by decide +kernel
theorem dX4_someTwoChangesJoinAll_40 : decode cX4_someTwoChangesJoinAll 40 = .ok (.aload_n 0, 1) := by decide +kernel
theorem dX4_someTwoChangesJoinAll_41 : decode cX4_someTwoChangesJoinAll 41 = .ok (.getfield 10, 3) := by decide +kernel
theorem dX4_someTwoChangesJoinAll_44 : decode cX4_someTwoChangesJoinAll 44 = .ok (.invokevirtual 134, 3) := by decide +kernel
theorem dX4_someTwoChangesJoinAll_47 : decode cX4_someTwoChangesJoinAll 47 = .ok (.aload_n 0, 1) := by decide +kernel
theorem dX4_someTwoChangesJoinAll_48 : decode cX4_someTwoChangesJoinAll 48 = .ok (.getfield 16, 3) := by decide +kernel
theorem dX4_someTwoChangesJoinAll_51 : decode cX4_someTwoChangesJoinAll 51 = .ok (.iload_n 1, 1) := by decide +kernel
theorem dX4_someTwoChangesJoinAll_52 : decode cX4_someTwoChangesJoinAll 52 = .ok (.iconst 2, 1) := by decide +kernel
theorem dX4_someTwoChangesJoinAll_53 : decode cX4_someTwoChangesJoinAll 53 = .ok (.idiv, 1) := by decide +kernel
theorem dX4_someTwoChangesJoinAll_54 : decode cX4_someTwoChangesJoinAll 54 = .ok (.iload_n 1, 1) := by decide +kernel
theorem dX4_someTwoChangesJoinAll_55 : decode cX4_someTwoChangesJoinAll 55 = .ok (.iconst 2, 1) := by decide +kernel
theorem dX4_someTwoChangesJoinAll_56 : decode cX4_someTwoChangesJoinAll 56 = .ok (.irem, 1) := by decide +kernel
theorem dX4_someTwoChangesJoinAll_57 : decode cX4_someTwoChangesJoinAll 57 = .ok (.invokevirtual 137, 3) := by decide +kernel
theorem dX4_someTwoChangesJoinAll_60 : decode cX4_someTwoChangesJoinAll 60 = .ok (.ifCond .eq 23, 3) := by decide +kernel
theorem dX4_someTwoChangesJoinAll_63 : decode cX4_someTwoChangesJoinAll 63 = .ok (.aload_n 0, 1) := by decide +kernel
theorem dX4_someTwoChangesJoinAll_64 : decode cX4_someTwoChangesJoinAll 64 = .ok (.getfield 16, 3) := by decide +kernel
theorem dX4_someTwoChangesJoinAll_67 : decode cX4_someTwoChangesJoinAll 67 = .ok (.iload_n 2, 1) := by decide +kernel
theorem dX4_someTwoChangesJoinAll_68 : decode cX4_someTwoChangesJoinAll 68 = .ok (.iconst 2, 1) := by decide +kernel
theorem dX4_someTwoChangesJoinAll_69 : decode cX4_someTwoChangesJoinAll 69 = .ok (.idiv, 1) := by decide +kernel
theorem dX4_someTwoChangesJoinAll_70 : decode cX4_someTwoChangesJoinAll 70 = .ok (.iload_n 2, 1) := by decide +kernel
theorem dX4_someTwoChangesJoinAll_71 : decode cX4_someTwoChangesJoinAll 71 = .ok (.iconst 2, 1) := by decide +kernel
theorem dX4_someTwoChangesJoinAll_72 : decode cX4_someTwoChangesJoinAll 72 = .ok (.irem, 1) := by decide +kernel
theorem dX4_someTwoChangesJoinAll_73 : decode cX4_someTwoChangesJoinAll 73 = .ok (.invokevirtual 137, 3) := by decide +kernel
theorem dX4_someTwoChangesJoinAll_76 : decode cX4_someTwoChangesJoinAll 76 = .ok (.ifCond .eq 7, 3) := by decide +kernel
theorem dX4_someTwoChangesJoinAll_79 : decode cX4_someTwoChangesJoinAll 79 = .ok (.iconst 1, 1) := by decide +kernel
theorem dX4_someTwoChangesJoinAll_80 : decode cX4_someTwoChangesJoinAll 80 = .ok (.goto 4, 3) := by decide +kernel
theorem dX4_someTwoChangesJoinAll_83 : decode cX4_someTwoChangesJoinAll 83 = .ok (.iconst 0, 1) := by decide +kernel
theorem dX4_someTwoChangesJoinAll_84 : decode cX4_someTwoChangesJoinAll 84 = .ok (.istore_n 3, 1) := by decide +kernel
theorem dX4_someTwoChangesJoinAll_85 : decode cX4_someTwoChangesJoinAll 85 = .ok (.iload_n 3, 1) := by decide +kernel
theorem dX4_someTwoChangesJoinAll_86 : decode cX4_someTwoChangesJoinAll 86 = .ok (.ifCond .eq 16, 3) := by decide +kernel
theorem dX4_someTwoChangesJoinAll_89 : decode cX4_someTwoChangesJoinAll 89 = .ok (.aload_n 0, 1) := by decide +kernel
theorem dX4_someTwoChangesJoinAll_90 : decode cX4_someTwoChangesJoinAll 90 = .ok (.aload_n 0, 1) := by decide +kernel
theorem dX4_someTwoChangesJoinAll_91 : decode cX4_someTwoChangesJoinAll 91 = .ok (.getfield 16, 3) := by decide +kernel
theorem dX4_someTwoChangesJoinAll_94 : decode cX4_someTwoChangesJoinAll 94 = .ok (.invokevirtual 127, 3) := by decide +kernel
theorem dX4_someTwoChangesJoinAll_97 : decode cX4_someTwoChangesJoinAll 97 = .ok (.ifCond .ne 5, 3) := by decide +kernel
theorem dX4_someTwoChangesJoinAll_100 : decode cX4_someTwoChangesJoinAll 100 = .ok (.iconst 1, 1) := by decide +kernel
theorem dX4_someTwoChangesJoinAll_101 : decode cX4_someTwoChangesJoinAll 101 = .ok (.ireturn, 1) := by decide +kernel
theorem dX4_someTwoChangesJoinAll_102 : decode cX4_someTwoChangesJoinAll 102 = .ok (.iinc 2 1, 3) := by decide +kernel
theorem dX4_someTwoChangesJoinAll_105 : decode cX4_someTwoChangesJoinAll 105 = .ok (.goto (-82), 3) := by decide +kernel
theorem dX4_someTwoChangesJoinAll_108 : decode cX4_someTwoChangesJoinAll 108 = .ok (.iinc 1 1, 3) := by decide +kernel
theorem dX4_someTwoChangesJoinAll_111 : decode cX4_someTwoChangesJoinAll 111 = .ok (.goto (-109), 3) := by decide +kernel
theorem dX4_someTwoChangesJoinAll_114 : decode cX4_someTwoChangesJoinAll 114 = .ok (.iconst 0, 1) := by decide +kernel
theorem dX4_someTwoChangesJoinAll_115 : decode cX4_someTwoChangesJoinAll 115 = .ok (.ireturn, 1) := by decide +kernel
def fX4_someTwoChangesJoinAll_L23 (n : Nat) (v1 : Int32) (K1 : Mem → Option (Int32 × Mem)) : Nat → Int32 → Mem → Option (Int32 × Mem)
  | 0, _, _ => none
  | F + 1, v2, μ => if (2 * (μ.1 2 3)) ≤ v2 then K1 μ else bd (fX3_take n 14 2 μ) (fun r3 m2 => bd (fX3_change n 14 (v1 / 2) (jrem v1 2) m2) (fun r5 m4 => bnd (fun (x7 : Int32) (m8 : Mem) => if x7 = 0 then bnd (v2 + 1) (fun x9 => fX4_someTwoChangesJoinAll_L23 n v1 K1 F x9 m8) else bd (fX4_neverIn n 14 m8) (fun r11 m10 => if r11 = 0 then some (1, m10) else bnd (v2 + 1) (fun x12 => fX4_someTwoChangesJoinAll_L23 n v1 K1 F x12 m10))) (fun kb6 => bnd (fun (m14 : Mem) => kb6 0 m14) (fun kb13 => if r5 = 0 then kb13 m4 else bd (fX3_change n 14 (v2 / 2) (jrem v2 2) m4) (fun r16 m15 => if r16 = 0 then kb13 m15 else kb6 1 m15)))))
def fX4_someTwoChangesJoinAll_L2 (n : Nat) : Nat → Int32 → Mem → Option (Int32 × Mem)
  | 0, _, _ => none
  | F + 1, v1, μ => if (2 * (μ.1 2 3)) ≤ v1 then some (0, μ) else bnd ((v1 - (jrem v1 2)) + 2) (fun x1 => fX4_someTwoChangesJoinAll_L23 n v1 (fun (m17 : Mem) => bnd (v1 + 1) (fun x18 => fX4_someTwoChangesJoinAll_L2 n F x18 m17)) n x1 μ)
def fX4_someTwoChangesJoinAll (n : Nat) (μ : Mem) : Option (Int32 × Mem) :=
  fX4_someTwoChangesJoinAll_L2 n n 0 μ
set_option maxHeartbeats 4000000 in
set_option maxRecDepth 100000 in
theorem wX4_someTwoChangesJoinAll_L23 (ad : Nat → Nat) (n : Nat) (v1 : Int32) (K1 : Mem → Option (Int32 × Mem)) (hK1 : ∀ (μ : Mem), G kX4_someTwoChangesJoinAll ad encI 108 [(0, .ref (ad 0)), (1, .int v1)] [] μ (K1 μ)) : ∀ (F : Nat) (v2 : Int32) (μ : Mem), G kX4_someTwoChangesJoinAll ad encI 23 [(0, .ref (ad 0)), (1, .int v1), (2, .int v2)] [] μ (fX4_someTwoChangesJoinAll_L23 n v1 K1 F v2 μ) := by
  intro F
  induction F with
  | zero =>
    intro v2 μ
    exact g_none
  | succ F ih =>
    intro v2 μ
    rw [fX4_someTwoChangesJoinAll_L23]
    refine g_iload_n (pc := 23) 2 dX4_someTwoChangesJoinAll_23 rfl rfl ?_
    refine g_iconst (pc := 24) 2 dX4_someTwoChangesJoinAll_24 (by decide) ?_
    refine g_aload_n (pc := 25) 0 dX4_someTwoChangesJoinAll_25 rfl rfl ?_
    refine g_get (pc := 26) rfl foX4_10 (v := .ref (ad 2)) rfl dX4_someTwoChangesJoinAll_26 ?_
    refine g_get (pc := 29) rfl foX4_141 (v := .int (μ.1 2 3)) rfl dX4_someTwoChangesJoinAll_29 ?_
    refine g_imul (pc := 32) dX4_someTwoChangesJoinAll_32 ?_
    refine g_icmp_ge (pc := 33) 108 dX4_someTwoChangesJoinAll_33 rfl ?_ ?_
    · exact g_sub [0, 1] rfl (hK1 μ)
    · refine g_aload_n (pc := 36) 0 dX4_someTwoChangesJoinAll_36 rfl rfl ?_
      refine g_get (pc := 37) rfl foX4_16 (v := .ref (ad 14)) rfl dX4_someTwoChangesJoinAll_37 ?_
      refine g_aload_n (pc := 40) 0 dX4_someTwoChangesJoinAll_40 rfl rfl ?_
      refine g_get (pc := 41) rfl foX4_10 (v := .ref (ad 2)) rfl dX4_someTwoChangesJoinAll_41 ?_
      refine g_cVV (pc := 44) (st := []) [.ref (ad 2)] rfl rfl moX3_take lnX4_134 (ctX3_take ad n 14 2 sT14 sT2 μ) rfl ⟨Nat.le_of_ble_eq_true rfl, Nat.le_of_ble_eq_true rfl⟩ rfl (Nat.le_of_ble_eq_true rfl) dX4_someTwoChangesJoinAll_44 (fun r3 m2 => ?_)
      refine g_aload_n (pc := 47) 0 dX4_someTwoChangesJoinAll_47 rfl rfl ?_
      refine g_get (pc := 48) rfl foX4_16 (v := .ref (ad 14)) rfl dX4_someTwoChangesJoinAll_48 ?_
      refine g_iload_n (pc := 51) 1 dX4_someTwoChangesJoinAll_51 rfl rfl ?_
      refine g_iconst (pc := 52) 2 dX4_someTwoChangesJoinAll_52 (by decide) ?_
      refine g_idiv (pc := 53) dX4_someTwoChangesJoinAll_53 (by decide) ?_
      refine g_iload_n (pc := 54) 1 dX4_someTwoChangesJoinAll_54 rfl rfl ?_
      refine g_iconst (pc := 55) 2 dX4_someTwoChangesJoinAll_55 (by decide) ?_
      refine g_irem' (pc := 56) dX4_someTwoChangesJoinAll_56 (by decide) ?_
      refine g_cVI (pc := 57) (st := []) [.int (v1 / 2), .int (jrem v1 2)] rfl rfl moX3_change lnX4_137 (ctX3_change ad n 14 sT14 (v1 / 2) (jrem v1 2) m2) rfl ⟨Nat.le_of_ble_eq_true rfl, Nat.le_of_ble_eq_true rfl⟩ rfl (Nat.le_of_ble_eq_true rfl) dX4_someTwoChangesJoinAll_57 (fun r5 m4 => ?_)
      refine g_join (fun kb => ∀ (x7 : Int32) (m8 : Mem), G kX4_someTwoChangesJoinAll ad encI 84 [(0, .ref (ad 0)), (1, .int v1), (2, .int v2)] [.int x7] m8 (kb x7 m8)) (fun x7 m8 => ?_) (fun kb6 hkb6 => ?_)
      · refine g_istore_n (pc := 84) [(3, .int x7), (0, .ref (ad 0)), (1, .int v1), (2, .int v2)] dX4_someTwoChangesJoinAll_84 rfl (by decide) rfl ?_
        refine g_iload_n (pc := 85) 0 dX4_someTwoChangesJoinAll_85 rfl rfl ?_
        refine g_if_eq (pc := 86) 102 dX4_someTwoChangesJoinAll_86 rfl ?_ ?_
        · refine g_iincB (pc := 102) 3 1 1 (fun x9 => [(2, .int x9), (3, .int x7), (0, .ref (ad 0)), (1, .int v1)]) dX4_someTwoChangesJoinAll_102 rfl (by decide) (by decide) (fun _ => rfl) (fun x9 => ?_)
          refine g_goto (pc := 105) 23 dX4_someTwoChangesJoinAll_105 rfl ?_
          exact g_sub [2, 3, 0] rfl (ih x9 m8)
        · refine g_aload_n (pc := 89) 1 dX4_someTwoChangesJoinAll_89 rfl rfl ?_
          refine g_aload_n (pc := 90) 1 dX4_someTwoChangesJoinAll_90 rfl rfl ?_
          refine g_get (pc := 91) rfl foX4_16 (v := .ref (ad 14)) rfl dX4_someTwoChangesJoinAll_91 ?_
          refine g_cVI (pc := 94) (st := []) [.ref (ad 14)] rfl rfl moX4_neverIn lnX4_127 (ctX4_neverIn ad n 14 sT14 m8) rfl ⟨Nat.le_of_ble_eq_true rfl, Nat.le_of_ble_eq_true rfl⟩ rfl (Nat.le_of_ble_eq_true rfl) dX4_someTwoChangesJoinAll_94 (fun r11 m10 => ?_)
          refine g_if_ne (pc := 97) 102 dX4_someTwoChangesJoinAll_97 rfl ?_ ?_
          · refine g_iincB (pc := 102) 3 1 1 (fun x12 => [(2, .int x12), (3, .int x7), (0, .ref (ad 0)), (1, .int v1)]) dX4_someTwoChangesJoinAll_102 rfl (by decide) (by decide) (fun _ => rfl) (fun x12 => ?_)
            refine g_goto (pc := 105) 23 dX4_someTwoChangesJoinAll_105 rfl ?_
            exact g_sub [2, 3, 0] rfl (ih x12 m10)
          · refine g_iconst (pc := 100) 1 dX4_someTwoChangesJoinAll_100 (by decide) ?_
            exact g_zreturn (pc := 101) (by decide) dX4_someTwoChangesJoinAll_101 rfl
      ·
        refine g_join (fun kb => ∀ (m14 : Mem), G kX4_someTwoChangesJoinAll ad encI 83 [(0, .ref (ad 0)), (1, .int v1), (2, .int v2)] [] m14 (kb m14)) (fun m14 => ?_) (fun kb13 hkb13 => ?_)
        · refine g_iconst (pc := 83) 0 dX4_someTwoChangesJoinAll_83 (by decide) ?_
          exact g_sub [0, 1, 2] rfl (hkb6 0 m14)
        ·
          refine g_if_eq (pc := 60) 83 dX4_someTwoChangesJoinAll_60 rfl ?_ ?_
          · exact g_sub [0, 1, 2] rfl (hkb13 m4)
          · refine g_aload_n (pc := 63) 0 dX4_someTwoChangesJoinAll_63 rfl rfl ?_
            refine g_get (pc := 64) rfl foX4_16 (v := .ref (ad 14)) rfl dX4_someTwoChangesJoinAll_64 ?_
            refine g_iload_n (pc := 67) 2 dX4_someTwoChangesJoinAll_67 rfl rfl ?_
            refine g_iconst (pc := 68) 2 dX4_someTwoChangesJoinAll_68 (by decide) ?_
            refine g_idiv (pc := 69) dX4_someTwoChangesJoinAll_69 (by decide) ?_
            refine g_iload_n (pc := 70) 2 dX4_someTwoChangesJoinAll_70 rfl rfl ?_
            refine g_iconst (pc := 71) 2 dX4_someTwoChangesJoinAll_71 (by decide) ?_
            refine g_irem' (pc := 72) dX4_someTwoChangesJoinAll_72 (by decide) ?_
            refine g_cVI (pc := 73) (st := []) [.int (v2 / 2), .int (jrem v2 2)] rfl rfl moX3_change lnX4_137 (ctX3_change ad n 14 sT14 (v2 / 2) (jrem v2 2) m4) rfl ⟨Nat.le_of_ble_eq_true rfl, Nat.le_of_ble_eq_true rfl⟩ rfl (Nat.le_of_ble_eq_true rfl) dX4_someTwoChangesJoinAll_73 (fun r16 m15 => ?_)
            refine g_if_eq (pc := 76) 83 dX4_someTwoChangesJoinAll_76 rfl ?_ ?_
            · exact g_sub [0, 1, 2] rfl (hkb13 m15)
            · refine g_iconst (pc := 79) 1 dX4_someTwoChangesJoinAll_79 (by decide) ?_
              refine g_goto (pc := 80) 84 dX4_someTwoChangesJoinAll_80 rfl ?_
              exact g_sub [0, 1, 2] rfl (hkb6 1 m15)
set_option maxHeartbeats 4000000 in
set_option maxRecDepth 100000 in
theorem wX4_someTwoChangesJoinAll_L2 (ad : Nat → Nat) (n : Nat) : ∀ (F : Nat) (v1 : Int32) (μ : Mem), G kX4_someTwoChangesJoinAll ad encI 2 [(0, .ref (ad 0)), (1, .int v1)] [] μ (fX4_someTwoChangesJoinAll_L2 n F v1 μ) := by
  intro F
  induction F with
  | zero =>
    intro v1 μ
    exact g_none
  | succ F ih =>
    intro v1 μ
    rw [fX4_someTwoChangesJoinAll_L2]
    refine g_iload_n (pc := 2) 1 dX4_someTwoChangesJoinAll_2 rfl rfl ?_
    refine g_iconst (pc := 3) 2 dX4_someTwoChangesJoinAll_3 (by decide) ?_
    refine g_aload_n (pc := 4) 0 dX4_someTwoChangesJoinAll_4 rfl rfl ?_
    refine g_get (pc := 5) rfl foX4_10 (v := .ref (ad 2)) rfl dX4_someTwoChangesJoinAll_5 ?_
    refine g_get (pc := 8) rfl foX4_141 (v := .int (μ.1 2 3)) rfl dX4_someTwoChangesJoinAll_8 ?_
    refine g_imul (pc := 11) dX4_someTwoChangesJoinAll_11 ?_
    refine g_icmp_ge (pc := 12) 114 dX4_someTwoChangesJoinAll_12 rfl ?_ ?_
    · refine g_iconst (pc := 114) 0 dX4_someTwoChangesJoinAll_114 (by decide) ?_
      exact g_zreturn (pc := 115) (by decide) dX4_someTwoChangesJoinAll_115 rfl
    · refine g_iload_n (pc := 15) 1 dX4_someTwoChangesJoinAll_15 rfl rfl ?_
      refine g_iload_n (pc := 16) 1 dX4_someTwoChangesJoinAll_16 rfl rfl ?_
      refine g_iconst (pc := 17) 2 dX4_someTwoChangesJoinAll_17 (by decide) ?_
      refine g_irem' (pc := 18) dX4_someTwoChangesJoinAll_18 (by decide) ?_
      refine g_isub (pc := 19) dX4_someTwoChangesJoinAll_19 ?_
      refine g_iconst (pc := 20) 2 dX4_someTwoChangesJoinAll_20 (by decide) ?_
      refine g_iadd (pc := 21) dX4_someTwoChangesJoinAll_21 ?_
      refine g_istore_nB (pc := 22) (fun x1 => [(2, .int x1), (0, .ref (ad 0)), (1, .int v1)]) dX4_someTwoChangesJoinAll_22 rfl (by decide) (fun _ => rfl) (fun x1 => ?_)
      refine g_sub [1, 2, 0] rfl (wX4_someTwoChangesJoinAll_L23 ad n v1 _ (fun m17 => ?_) n x1 μ)
      refine g_iincB (pc := 108) 1 1 1 (fun x18 => [(1, .int x18), (0, .ref (ad 0))]) dX4_someTwoChangesJoinAll_108 rfl (by decide) (by decide) (fun _ => rfl) (fun x18 => ?_)
      refine g_goto (pc := 111) 2 dX4_someTwoChangesJoinAll_111 rfl ?_
      exact g_sub [1, 0] rfl (ih x18 m17)
set_option maxHeartbeats 4000000 in
set_option maxRecDepth 100000 in
theorem ctX4_someTwoChangesJoinAll (ad : Nat → Nat) (n : Nat) (μ : Mem) : Ct yX4_someTwoChangesJoinAll kX4_someTwoChangesJoinAll ad encI [.ref (ad 0)] μ (fX4_someTwoChangesJoinAll n μ) := Ct.of (by decide +kernel) rfl (Nat.le_of_ble_eq_true rfl) (by
  show G kX4_someTwoChangesJoinAll ad encI 0 [(0, .ref (ad 0))] [] μ (fX4_someTwoChangesJoinAll n μ)
  unfold fX4_someTwoChangesJoinAll
  refine g_iconst (pc := 0) 0 dX4_someTwoChangesJoinAll_0 (by decide) ?_
  refine g_istore_n (pc := 1) [(1, .int 0), (0, .ref (ad 0))] dX4_someTwoChangesJoinAll_1 rfl (by decide) rfl ?_
  exact g_sub [1, 0] rfl (wX4_someTwoChangesJoinAll_L2 ad n n 0 μ))
-- StopsByLetters.changed()I
abbrev kX4_changed : Cfg := (RX4, cX4_changed, 1, (some .int), 6)
theorem dX4_changed_0 : decode cX4_changed 0 = .ok (.aload_n 0, 1) := by decide +kernel
theorem dX4_changed_1 : decode cX4_changed 1 = .ok (.aload_n 0, 1) := by decide +kernel
theorem dX4_changed_2 : decode cX4_changed 2 = .ok (.getfield 10, 3) := by decide +kernel
theorem dX4_changed_5 : decode cX4_changed 5 = .ok (.invokevirtual 127, 3) := by decide +kernel
theorem dX4_changed_8 : decode cX4_changed 8 = .ok (.ifCond .ne 5, 3) := by decide +kernel
theorem dX4_changed_11 : decode cX4_changed 11 = .ok (.iconst 0, 1) := by decide +kernel
theorem dX4_changed_12 : decode cX4_changed 12 = .ok (.ireturn, 1) := by decide +kernel
theorem dX4_changed_13 : decode cX4_changed 13 = .ok (.aload_n 0, 1) := by decide +kernel
theorem dX4_changed_14 : decode cX4_changed 14 = .ok (.invokevirtual 144, 3) := by decide +kernel
theorem dX4_changed_17 : decode cX4_changed 17 = .ok (.ifCond .eq 5, 3) := by decide +kernel
theorem dX4_changed_20 : decode cX4_changed 20 = .ok (.iconst 1, 1) := by decide +kernel
theorem dX4_changed_21 : decode cX4_changed 21 = .ok (.ireturn, 1) := by decide +kernel
theorem dX4_changed_22 : decode cX4_changed 22 = .ok (.aload_n 0, 1) := by decide +kernel
theorem dX4_changed_23 : decode cX4_changed 23 = .ok (.invokevirtual 148, 3) := by decide +kernel
theorem dX4_changed_26 : decode cX4_changed 26 = .ok (.ifCond .eq 7, 3) := by decide +kernel
theorem dX4_changed_29 : decode cX4_changed 29 = .ok (.iconst 2, 1) := by decide +kernel
theorem dX4_changed_30 : decode cX4_changed 30 = .ok (.goto 5, 3) := by decide +kernel
theorem dX4_changed_33 : decode cX4_changed 33 = .ok (.bipush (-9), 2) := by decide +kernel
theorem dX4_changed_35 : decode cX4_changed 35 = .ok (.ireturn, 1) := by decide +kernel
theorem lnX4_148 : Ln RX4 148 yX4_someTwoChangesJoinAll := Or.inl (tb_in 555 (by decide +kernel) rfl)
theorem moX4_someTwoChangesJoinAll : Mv yX4_someTwoChangesJoinAll kX4_someTwoChangesJoinAll 0 := ⟨⟨tb_in 558 (by decide +kernel) rfl, tb_in 87 (by decide +kernel) rfl, ⟨by decide, by decide⟩, by decide +kernel⟩, tb_in 557 (by decide +kernel) rfl, tb_in 36 (by decide +kernel) rfl⟩
theorem lnX4_144 : Ln RX4 144 yX4_someChangeJoinsAll := Or.inl (tb_in 551 (by decide +kernel) rfl)
theorem moX4_someChangeJoinsAll : Mv yX4_someChangeJoinsAll kX4_someChangeJoinsAll 0 := ⟨⟨tb_in 554 (by decide +kernel) rfl, tb_in 87 (by decide +kernel) rfl, ⟨by decide, by decide⟩, by decide +kernel⟩, tb_in 553 (by decide +kernel) rfl, tb_in 35 (by decide +kernel) rfl⟩
def fX4_changed (n : Nat) (μ : Mem) : Option (Int32 × Mem) :=
  bd (fX4_neverIn n 2 μ) (fun r2 m1 => if r2 = 0 then some (0, m1) else bd (fX4_someChangeJoinsAll n m1) (fun r4 m3 => if r4 = 0 then bd (fX4_someTwoChangesJoinAll n m3) (fun r6 m5 => if r6 = 0 then some ((-9), m5) else some (2, m5)) else some (1, m3)))
set_option maxHeartbeats 4000000 in
set_option maxRecDepth 100000 in
theorem ctX4_changed (ad : Nat → Nat) (n : Nat) (μ : Mem) : Ct yX4_changed kX4_changed ad encI [.ref (ad 0)] μ (fX4_changed n μ) := Ct.of (by decide +kernel) rfl (Nat.le_of_ble_eq_true rfl) (by
  show G kX4_changed ad encI 0 [(0, .ref (ad 0))] [] μ (fX4_changed n μ)
  unfold fX4_changed
  refine g_aload_n (pc := 0) 0 dX4_changed_0 rfl rfl ?_
  refine g_aload_n (pc := 1) 0 dX4_changed_1 rfl rfl ?_
  refine g_get (pc := 2) rfl foX4_10 (v := .ref (ad 2)) rfl dX4_changed_2 ?_
  refine g_cVI (pc := 5) (st := []) [.ref (ad 2)] rfl rfl moX4_neverIn lnX4_127 (ctX4_neverIn ad n 2 sT2 μ) rfl ⟨Nat.le_of_ble_eq_true rfl, Nat.le_of_ble_eq_true rfl⟩ rfl (Nat.le_of_ble_eq_true rfl) dX4_changed_5 (fun r2 m1 => ?_)
  refine g_if_ne (pc := 8) 13 dX4_changed_8 rfl ?_ ?_
  · refine g_aload_n (pc := 13) 0 dX4_changed_13 rfl rfl ?_
    refine g_cVI (pc := 14) (st := []) [] rfl rfl moX4_someChangeJoinsAll lnX4_144 (ctX4_someChangeJoinsAll ad n m1) rfl ⟨Nat.le_of_ble_eq_true rfl, Nat.le_of_ble_eq_true rfl⟩ rfl (Nat.le_of_ble_eq_true rfl) dX4_changed_14 (fun r4 m3 => ?_)
    refine g_if_eq (pc := 17) 22 dX4_changed_17 rfl ?_ ?_
    · refine g_aload_n (pc := 22) 0 dX4_changed_22 rfl rfl ?_
      refine g_cVI (pc := 23) (st := []) [] rfl rfl moX4_someTwoChangesJoinAll lnX4_148 (ctX4_someTwoChangesJoinAll ad n m3) rfl ⟨Nat.le_of_ble_eq_true rfl, Nat.le_of_ble_eq_true rfl⟩ rfl (Nat.le_of_ble_eq_true rfl) dX4_changed_23 (fun r6 m5 => ?_)
      refine g_if_eq (pc := 26) 33 dX4_changed_26 rfl ?_ ?_
      · refine g_bipush (pc := 33) (-9) dX4_changed_33 (by decide) ?_
        exact g_ireturn (pc := 35) dX4_changed_35 rfl
      · refine g_iconst (pc := 29) 2 dX4_changed_29 (by decide) ?_
        refine g_goto (pc := 30) 35 dX4_changed_30 rfl ?_
        exact g_ireturn (pc := 35) dX4_changed_35 rfl
    · refine g_iconst (pc := 20) 1 dX4_changed_20 (by decide) ?_
      exact g_ireturn (pc := 21) dX4_changed_21 rfl
  · refine g_iconst (pc := 11) 0 dX4_changed_11 (by decide) ?_
    exact g_ireturn (pc := 12) dX4_changed_12 rfl)
