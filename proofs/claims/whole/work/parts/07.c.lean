-- StopsByLettersModel.never()I
abbrev kX5_never : Cfg := (RX5, cX5_never, 1, (some .int), 7)
theorem dX5_never_0 : decode cX5_never 0 = .ok (.aload_n 0, 1) := by decide +kernel
theorem dX5_never_1 : decode cX5_never 1 = .ok (.invokevirtual 175, 3) := by decide +kernel
theorem dX5_never_4 : decode cX5_never 4 = .ok (.ireturn, 1) := by decide +kernel
theorem lnX5_175 : Ln RX5 175 yX5_neverNow := Or.inl (tb_in 931 (by decide +kernel) rfl)
theorem moX5_neverNow : Mv yX5_neverNow kX5_neverNow 0 := ⟨⟨tb_in 934 (by decide +kernel) rfl, tb_in 92 (by decide +kernel) rfl, ⟨by decide, by decide⟩, by decide +kernel⟩, tb_in 933 (by decide +kernel) rfl, tb_in 77 (by decide +kernel) rfl⟩
def fX5_never (n : Nat) (μ : Mem) : Option (Int32 × Mem) :=
  bd (fX5_neverNow n μ) (fun r2 m1 => some (r2, m1))
set_option maxHeartbeats 4000000 in
set_option maxRecDepth 100000 in
theorem ctX5_never (ad : Nat → Nat) (n : Nat) (μ : Mem) : Ct yX5_never kX5_never ad encI [.ref (ad 47)] μ (fX5_never n μ) := Ct.of (by decide +kernel) rfl (Nat.le_of_ble_eq_true rfl) (by
  show G kX5_never ad encI 0 [(0, .ref (ad 47))] [] μ (fX5_never n μ)
  unfold fX5_never
  refine g_aload_n (pc := 0) 0 dX5_never_0 rfl rfl ?_
  refine g_cVI (pc := 1) (st := []) [] rfl rfl moX5_neverNow lnX5_175 (ctX5_neverNow ad n μ) rfl ⟨Nat.le_of_ble_eq_true rfl, Nat.le_of_ble_eq_true rfl⟩ rfl (Nat.le_of_ble_eq_true rfl) dX5_never_1 (fun r2 m1 => ?_)
  exact g_ireturn (pc := 4) dX5_never_4 rfl)
-- StopsByLettersModel.canBe(II)Z
abbrev kX5_canBe : Cfg := (RX5, cX5_canBe, 3, (some .boolean), 0)
theorem dX5_canBe_0 : decode cX5_canBe 0 = .ok (.iload_n 2, 1) := by decide +kernel
theorem dX5_canBe_1 : decode cX5_canBe 1 = .ok (.iconst 1, 1) := by decide +kernel
theorem dX5_canBe_2 : decode cX5_canBe 2 = .ok (.if_icmp .eq 13, 3) := by decide +kernel
theorem dX5_canBe_5 : decode cX5_canBe 5 = .ok (.aload_n 0, 1) := by decide +kernel
theorem dX5_canBe_6 : decode cX5_canBe 6 = .ok (.getfield 16, 3) := by decide +kernel
theorem dX5_canBe_9 : decode cX5_canBe 9 = .ok (.iload_n 1, 1) := by decide +kernel
theorem dX5_canBe_10 : decode cX5_canBe 10 = .ok (.iaload, 1) := by decide +kernel
theorem dX5_canBe_11 : decode cX5_canBe 11 = .ok (.iconst 1, 1) := by decide +kernel
theorem dX5_canBe_12 : decode cX5_canBe 12 = .ok (.if_icmp .le 7, 3) := by decide +kernel
theorem dX5_canBe_15 : decode cX5_canBe 15 = .ok (.iconst 1, 1) := by decide +kernel
theorem dX5_canBe_16 : decode cX5_canBe 16 = .ok (.goto 4, 3) := by decide +kernel
theorem dX5_canBe_19 : decode cX5_canBe 19 = .ok (.iconst 0, 1) := by decide +kernel
theorem dX5_canBe_20 : decode cX5_canBe 20 = .ok (.ireturn, 1) := by decide +kernel
def fX5_canBe (n : Nat) (a1 : Int32) (a2 : Int32) (μ : Mem) : Option (Int32 × Mem) :=
  if a2 = 1 then some (1, μ) else gd (inb a1 9) (if (μ.1 50 (Int32.toNatClampNeg a1)) ≤ 1 then some (0, μ) else some (1, μ))
set_option maxHeartbeats 4000000 in
set_option maxRecDepth 100000 in
theorem ctX5_canBe (ad : Nat → Nat) (n : Nat) (a1 : Int32) (a2 : Int32) (μ : Mem) : Ct yX5_canBe kX5_canBe ad encI [.ref (ad 47), .int a1, .int a2] μ (fX5_canBe n a1 a2 μ) := Ct.of (by decide +kernel) rfl (Nat.le_of_ble_eq_true rfl) (by
  show G kX5_canBe ad encI 0 [(0, .ref (ad 47)), (1, .int a1), (2, .int a2)] [] μ (fX5_canBe n a1 a2 μ)
  unfold fX5_canBe
  refine g_iload_n (pc := 0) 2 dX5_canBe_0 rfl rfl ?_
  refine g_iconst (pc := 1) 1 dX5_canBe_1 (by decide) ?_
  refine g_icmp_eq (pc := 2) 15 dX5_canBe_2 rfl ?_ ?_
  · refine g_iconst (pc := 15) 1 dX5_canBe_15 (by decide) ?_
    refine g_goto (pc := 16) 20 dX5_canBe_16 rfl ?_
    exact g_zreturn (pc := 20) (by decide) dX5_canBe_20 rfl
  · refine g_aload_n (pc := 5) 0 dX5_canBe_5 rfl rfl ?_
    refine g_get (pc := 6) rfl foX5_16 (v := .ref (ad 50)) rfl dX5_canBe_6 ?_
    refine g_iload_n (pc := 9) 1 dX5_canBe_9 rfl rfl ?_
    refine g_iald (pc := 10) rfl (by decide) dX5_canBe_10 ?_
    refine g_iconst (pc := 11) 1 dX5_canBe_11 (by decide) ?_
    refine g_icmp_le (pc := 12) 19 dX5_canBe_12 rfl ?_ ?_
    · refine g_iconst (pc := 19) 0 dX5_canBe_19 (by decide) ?_
      exact g_zreturn (pc := 20) (by decide) dX5_canBe_20 rfl
    · refine g_iconst (pc := 15) 1 dX5_canBe_15 (by decide) ?_
      refine g_goto (pc := 16) 20 dX5_canBe_16 rfl ?_
      exact g_zreturn (pc := 20) (by decide) dX5_canBe_20 rfl)
-- StopsByLettersModel.changes(II)V
abbrev kX5_changes : Cfg := (RX5, cX5_changes, 3, none, 0)
theorem dX5_changes_0 : decode cX5_changes 0 = .ok (.iload_n 2, 1) := by decide +kernel
theorem dX5_changes_1 : decode cX5_changes 1 = .ok (.iconst 1, 1) := by decide +kernel
theorem dX5_changes_2 : decode cX5_changes 2 = .ok (.if_icmp .ne 20, 3) := by decide +kernel
theorem dX5_changes_5 : decode cX5_changes 5 = .ok (.aload_n 0, 1) := by decide +kernel
theorem dX5_changes_6 : decode cX5_changes 6 = .ok (.getfield 13, 3) := by decide +kernel
theorem dX5_changes_9 : decode cX5_changes 9 = .ok (.bipush 10, 2) := by decide +kernel
theorem dX5_changes_11 : decode cX5_changes 11 = .ok (.iload_n 1, 1) := by decide +kernel
theorem dX5_changes_12 : decode cX5_changes 12 = .ok (.imul, 1) := by decide +kernel
theorem dX5_changes_13 : decode cX5_changes 13 = .ok (.aload_n 0, 1) := by decide +kernel
theorem dX5_changes_14 : decode cX5_changes 14 = .ok (.getfield 16, 3) := by decide +kernel
theorem dX5_changes_17 : decode cX5_changes 17 = .ok (.iload_n 1, 1) := by decide +kernel
theorem dX5_changes_18 : decode cX5_changes 18 = .ok (.iaload, 1) := by decide +kernel
theorem dX5_changes_19 : decode cX5_changes 19 = .ok (.iadd, 1) := by decide +kernel
theorem dX5_changes_20 : decode cX5_changes 20 = .ok (.iconst 0, 1) := by decide +kernel
theorem dX5_changes_21 : decode cX5_changes 21 = .ok (.iastore, 1) := by decide +kernel
theorem dX5_changes_22 : decode cX5_changes 22 = .ok (.aload_n 0, 1) := by decide +kernel
theorem dX5_changes_23 : decode cX5_changes 23 = .ok (.getfield 16, 3) := by decide +kernel
theorem dX5_changes_26 : decode cX5_changes 26 = .ok (.iload_n 1, 1) := by decide +kernel
theorem dX5_changes_27 : decode cX5_changes 27 = .ok (.dup2, 1) := by decide +kernel
theorem dX5_changes_28 : decode cX5_changes 28 = .ok (.iaload, 1) := by decide +kernel
theorem dX5_changes_29 : decode cX5_changes 29 = .ok (.iconst 2, 1) := by decide +kernel
theorem dX5_changes_30 : decode cX5_changes 30 = .ok (.iload_n 2, 1) := by decide +kernel
theorem dX5_changes_31 : decode cX5_changes 31 = .ok (.imul, 1) := by decide +kernel
theorem dX5_changes_32 : decode cX5_changes 32 = .ok (.iconst 1, 1) := by decide +kernel
theorem dX5_changes_33 : decode cX5_changes 33 = .ok (.isub, 1) := by decide +kernel
theorem dX5_changes_34 : decode cX5_changes 34 = .ok (.iadd, 1) := by decide +kernel
theorem dX5_changes_35 : decode cX5_changes 35 = .ok (.iastore, 1) := by decide +kernel
theorem dX5_changes_36 : decode cX5_changes 36 = .ok (.return_, 1) := by decide +kernel
def fX5_changes (n : Nat) (a1 : Int32) (a2 : Int32) (μ : Mem) : Option (Unit × Mem) :=
  bnd (fun (m2 : Mem) => gd (inb a1 9) (gd (inb a1 9) (bnd (setI m2 50 (Int32.toNatClampNeg a1) ((m2.1 50 (Int32.toNatClampNeg a1)) + ((2 * a2) - 1))) (fun m3 => some ((), m3))))) (fun kb1 => if a2 = 1 then gd (inb a1 9) (gd (inb ((10 * a1) + (μ.1 50 (Int32.toNatClampNeg a1))) 90) (bnd (setI μ 49 (Int32.toNatClampNeg ((10 * a1) + (μ.1 50 (Int32.toNatClampNeg a1)))) 0) (fun m4 => kb1 m4))) else kb1 μ)
set_option maxHeartbeats 4000000 in
set_option maxRecDepth 100000 in
theorem ctX5_changes (ad : Nat → Nat) (n : Nat) (a1 : Int32) (a2 : Int32) (μ : Mem) : Ct yX5_changes kX5_changes ad encV [.ref (ad 47), .int a1, .int a2] μ (fX5_changes n a1 a2 μ) := Ct.of (by decide +kernel) rfl (Nat.le_of_ble_eq_true rfl) (by
  show G kX5_changes ad encV 0 [(0, .ref (ad 47)), (1, .int a1), (2, .int a2)] [] μ (fX5_changes n a1 a2 μ)
  unfold fX5_changes
  refine g_iload_n (pc := 0) 2 dX5_changes_0 rfl rfl ?_
  refine g_iconst (pc := 1) 1 dX5_changes_1 (by decide) ?_
  refine g_join (fun kb => ∀ (m2 : Mem), G kX5_changes ad encV 22 [(0, .ref (ad 47)), (1, .int a1), (2, .int a2)] [] m2 (kb m2)) (fun m2 => ?_) (fun kb1 hkb1 => ?_)
  · refine g_aload_n (pc := 22) 0 dX5_changes_22 rfl rfl ?_
    refine g_get (pc := 23) rfl foX5_16 (v := .ref (ad 50)) rfl dX5_changes_23 ?_
    refine g_iload_n (pc := 26) 1 dX5_changes_26 rfl rfl ?_
    refine g_dup2 (pc := 27) dX5_changes_27 rfl rfl ?_
    refine g_iald (pc := 28) rfl (by decide) dX5_changes_28 ?_
    refine g_iconst (pc := 29) 2 dX5_changes_29 (by decide) ?_
    refine g_iload_n (pc := 30) 2 dX5_changes_30 rfl rfl ?_
    refine g_imul (pc := 31) dX5_changes_31 ?_
    refine g_iconst (pc := 32) 1 dX5_changes_32 (by decide) ?_
    refine g_isub (pc := 33) dX5_changes_33 ?_
    refine g_iadd (pc := 34) dX5_changes_34 ?_
    refine g_iast (pc := 35) rfl (by decide) dX5_changes_35 (fun m3 => ?_)
    exact g_return (pc := 36) dX5_changes_36 rfl
  ·
    refine g_icmp_ne (pc := 2) 22 dX5_changes_2 rfl ?_ ?_
    · exact g_sub [0, 1, 2] rfl (hkb1 μ)
    · refine g_aload_n (pc := 5) 0 dX5_changes_5 rfl rfl ?_
      refine g_get (pc := 6) rfl foX5_13 (v := .ref (ad 49)) rfl dX5_changes_6 ?_
      refine g_bipush (pc := 9) 10 dX5_changes_9 (by decide) ?_
      refine g_iload_n (pc := 11) 1 dX5_changes_11 rfl rfl ?_
      refine g_imul (pc := 12) dX5_changes_12 ?_
      refine g_aload_n (pc := 13) 0 dX5_changes_13 rfl rfl ?_
      refine g_get (pc := 14) rfl foX5_16 (v := .ref (ad 50)) rfl dX5_changes_14 ?_
      refine g_iload_n (pc := 17) 1 dX5_changes_17 rfl rfl ?_
      refine g_iald (pc := 18) rfl (by decide) dX5_changes_18 ?_
      refine g_iadd (pc := 19) dX5_changes_19 ?_
      refine g_iconst (pc := 20) 0 dX5_changes_20 (by decide) ?_
      refine g_iast (pc := 21) rfl (by decide) dX5_changes_21 (fun m4 => ?_)
      exact g_sub [0, 1, 2] rfl (hkb1 m4))
-- StopsByLettersModel.more(II)I
abbrev kX5_more : Cfg := (RX5, cX5_more, 5, (some .int), 7)
theorem dX5_more_0 : decode cX5_more 0 = .ok (.aload_n 0, 1) := by decide +kernel
theorem dX5_more_1 : decode cX5_more 1 = .ok (.iload_n 1, 1) := by decide +kernel
theorem dX5_more_2 : decode cX5_more 2 = .ok (.invokevirtual 100, 3) := by decide +kernel
theorem dX5_more_5 : decode cX5_more 5 = .ok (.ifCond .ne 9, 3) := by decide +kernel
theorem dX5_more_8 : decode cX5_more 8 = .ok (.aload_n 0, 1) := by decide +kernel
theorem dX5_more_9 : decode cX5_more 9 = .ok (.iconst (-1), 1) := by decide +kernel
theorem dX5_more_10 : decode cX5_more 10 = .ok (.invokevirtual 178, 3) := by decide +kernel
theorem dX5_more_13 : decode cX5_more 13 = .ok (.ireturn, 1) := by decide +kernel
theorem dX5_more_14 : decode cX5_more 14 = .ok (.iload_n 2, 1) := by decide +kernel
theorem dX5_more_15 : decode cX5_more 15 = .ok (.iconst 0, 1) := by decide +kernel
theorem dX5_more_16 : decode cX5_more 16 = .ok (.iconst 1, 1) := by decide +kernel
theorem dX5_more_17 : decode cX5_more 17 = .ok (.invokestatic 81, 3) := by decide +kernel
theorem dX5_more_20 : decode cX5_more 20 = .ok (.ifCond .ne 10, 3) := by decide +kernel
theorem dX5_more_23 : decode cX5_more 23 = .ok (.aload_n 0, 1) := by decide +kernel
theorem dX5_more_24 : decode cX5_more 24 = .ok (.bipush (-2), 2) := by decide +kernel
theorem dX5_more_26 : decode cX5_more 26 = .ok (.invokevirtual 178, 3) := by decide +kernel
theorem dX5_more_29 : decode cX5_more 29 = .ok (.ireturn, 1) := by decide +kernel
theorem dX5_more_30 : decode cX5_more 30 = .ok (.aload_n 0, 1) := by decide +kernel
theorem dX5_more_31 : decode cX5_more 31 = .ok (.iload_n 1, 1) := by decide +kernel
theorem dX5_more_32 : decode cX5_more 32 = .ok (.iload_n 2, 1) := by decide +kernel
theorem dX5_more_33 : decode cX5_more 33 = .ok (.invokevirtual 181, 3) := by decide +kernel
theorem dX5_more_36 : decode cX5_more 36 = .ok (.ifCond .ne 10, 3) := by decide +kernel
theorem dX5_more_39 : decode cX5_more 39 = .ok (.aload_n 0, 1) := by decide +kernel
theorem dX5_more_40 : decode cX5_more 40 = .ok (.bipush (-3), 2) := by decide +kernel
theorem dX5_more_42 : decode cX5_more 42 = .ok (.invokevirtual 178, 3) := by decide +kernel
theorem dX5_more_45 : decode cX5_more 45 = .ok (.ireturn, 1) := by decide +kernel
theorem dX5_more_46 : decode cX5_more 46 = .ok (.aload_n 0, 1) := by decide +kernel
theorem dX5_more_47 : decode cX5_more 47 = .ok (.invokevirtual 175, 3) := by decide +kernel
theorem dX5_more_50 : decode cX5_more 50 = .ok (.istore_n 3, 1) := by decide +kernel
theorem dX5_more_51 : decode cX5_more 51 = .ok (.aload_n 0, 1) := by decide +kernel
theorem dX5_more_52 : decode cX5_more 52 = .ok (.iconst 1, 1) := by decide +kernel
theorem dX5_more_53 : decode cX5_more 53 = .ok (.iconst 1, 1) := by decide +kernel
theorem dX5_more_54 : decode cX5_more 54 = .ok (.invokevirtual 109, 3) := by decide +kernel
theorem dX5_more_57 : decode cX5_more 57 = .ok (.aload_n 0, 1) := by decide +kernel
theorem dX5_more_58 : decode cX5_more 58 = .ok (.iload_n 1, 1) := by decide +kernel
theorem dX5_more_59 : decode cX5_more 59 = .ok (.iload_n 2, 1) := by decide +kernel
theorem dX5_more_60 : decode cX5_more 60 = .ok (.invokevirtual 185, 3) := by decide +kernel
theorem dX5_more_63 : decode cX5_more 63 = .ok (.aload_n 0, 1) := by decide +kernel
theorem dX5_more_64 : decode cX5_more 64 = .ok (.invokevirtual 175, 3) := by decide +kernel
theorem dX5_more_67 : decode cX5_more 67 = .ok (.iload_n 3, 1) := by decide +kernel
theorem dX5_more_68 : decode cX5_more 68 = .ok (.isub, 1) := by decide +kernel
theorem dX5_more_69 : decode cX5_more 69 = .ok (.istore 4, 2) := by decide +kernel
theorem dX5_more_71 : decode cX5_more 71 = .ok (.aload_n 0, 1) := by decide +kernel
theorem dX5_more_72 : decode cX5_more 72 = .ok (.iconst 1, 1) := by decide +kernel
theorem dX5_more_73 : decode cX5_more 73 = .ok (.iconst 0, 1) := by decide +kernel
theorem dX5_more_74 : decode cX5_more 74 = .ok (.invokevirtual 109, 3) := by decide +kernel
theorem dX5_more_77 : decode cX5_more 77 = .ok (.iload 4, 2) := by decide +kernel
theorem dX5_more_79 : decode cX5_more 79 = .ok (.ireturn, 1) := by decide +kernel
theorem lnX5_185 : Ln RX5 185 yX5_changes := Or.inl (tb_in 948 (by decide +kernel) rfl)
theorem moX5_changes : Mv yX5_changes kX5_changes 2 := ⟨⟨tb_in 951 (by decide +kernel) rfl, tb_in 92 (by decide +kernel) rfl, ⟨by decide, by decide⟩, by decide +kernel⟩, tb_in 950 (by decide +kernel) rfl, tb_in 80 (by decide +kernel) rfl⟩
theorem lnX5_178 : Ln RX5 178 yX5_lower := Or.inl (tb_in 939 (by decide +kernel) rfl)
theorem moX5_lower : Mv yX5_lower kX5_lower 1 := ⟨⟨tb_in 942 (by decide +kernel) rfl, tb_in 92 (by decide +kernel) rfl, ⟨by decide, by decide⟩, by decide +kernel⟩, tb_in 941 (by decide +kernel) rfl, tb_in 78 (by decide +kernel) rfl⟩
theorem lnX5_181 : Ln RX5 181 yX5_canBe := Or.inl (tb_in 944 (by decide +kernel) rfl)
theorem moX5_canBe : Mv yX5_canBe kX5_canBe 2 := ⟨⟨tb_in 947 (by decide +kernel) rfl, tb_in 92 (by decide +kernel) rfl, ⟨by decide, by decide⟩, by decide +kernel⟩, tb_in 946 (by decide +kernel) rfl, tb_in 79 (by decide +kernel) rfl⟩
def fX5_more (n : Nat) (a1 : Int32) (a2 : Int32) (μ : Mem) : Option (Int32 × Mem) :=
  bd (fX5_isStation n a1 μ) (fun r2 m1 => if r2 = 0 then bd (fX5_lower n (-1) m1) (fun r23 m22 => some (r23, m22)) else bd (fX5_isIn n a2 0 1 m1) (fun r4 m3 => if r4 = 0 then bd (fX5_lower n (-2) m3) (fun r21 m20 => some (r21, m20)) else bd (fX5_canBe n a1 a2 m3) (fun r6 m5 => if r6 = 0 then bd (fX5_lower n (-3) m5) (fun r19 m18 => some (r19, m18)) else bd (fX5_neverNow n m5) (fun r8 m7 => bd (fX5_passesAll n 1 1 m7) (fun r10 m9 => bd (fX5_changes n a1 a2 m9) (fun r12 m11 => bd (fX5_neverNow n m11) (fun r14 m13 => bnd (r14 - r8) (fun x15 => bd (fX5_passesAll n 1 0 m13) (fun r17 m16 => some (x15, m16))))))))))
set_option maxHeartbeats 4000000 in
set_option maxRecDepth 100000 in
theorem ctX5_more (ad : Nat → Nat) (n : Nat) (a1 : Int32) (a2 : Int32) (μ : Mem) : Ct yX5_more kX5_more ad encI [.ref (ad 47), .int a1, .int a2] μ (fX5_more n a1 a2 μ) := Ct.of (by decide +kernel) rfl (Nat.le_of_ble_eq_true rfl) (by
  show G kX5_more ad encI 0 [(0, .ref (ad 47)), (1, .int a1), (2, .int a2)] [] μ (fX5_more n a1 a2 μ)
  unfold fX5_more
  refine g_aload_n (pc := 0) 0 dX5_more_0 rfl rfl ?_
  refine g_iload_n (pc := 1) 1 dX5_more_1 rfl rfl ?_
  refine g_cVI (pc := 2) (st := []) [.int a1] rfl rfl moX5_isStation lnX5_100 (ctX5_isStation ad n a1 μ) rfl ⟨Nat.le_of_ble_eq_true rfl, Nat.le_of_ble_eq_true rfl⟩ rfl (Nat.le_of_ble_eq_true rfl) dX5_more_2 (fun r2 m1 => ?_)
  refine g_if_ne (pc := 5) 14 dX5_more_5 rfl ?_ ?_
  · refine g_iload_n (pc := 14) 2 dX5_more_14 rfl rfl ?_
    refine g_iconst (pc := 15) 0 dX5_more_15 (by decide) ?_
    refine g_iconst (pc := 16) 1 dX5_more_16 (by decide) ?_
    refine g_cSI (pc := 17) (st := []) [.int a2, .int 0, .int 1] moX5_isIn lnX5_81 (ctX5_isIn ad n a2 0 1 m1) rfl ⟨Nat.le_of_ble_eq_true rfl, Nat.le_of_ble_eq_true rfl⟩ rfl (Nat.le_of_ble_eq_true rfl) dX5_more_17 (fun r4 m3 => ?_)
    refine g_if_ne (pc := 20) 30 dX5_more_20 rfl ?_ ?_
    · refine g_aload_n (pc := 30) 0 dX5_more_30 rfl rfl ?_
      refine g_iload_n (pc := 31) 1 dX5_more_31 rfl rfl ?_
      refine g_iload_n (pc := 32) 2 dX5_more_32 rfl rfl ?_
      refine g_cVI (pc := 33) (st := []) [.int a1, .int a2] rfl rfl moX5_canBe lnX5_181 (ctX5_canBe ad n a1 a2 m3) rfl ⟨Nat.le_of_ble_eq_true rfl, Nat.le_of_ble_eq_true rfl⟩ rfl (Nat.le_of_ble_eq_true rfl) dX5_more_33 (fun r6 m5 => ?_)
      refine g_if_ne (pc := 36) 46 dX5_more_36 rfl ?_ ?_
      · refine g_aload_n (pc := 46) 0 dX5_more_46 rfl rfl ?_
        refine g_cVI (pc := 47) (st := []) [] rfl rfl moX5_neverNow lnX5_175 (ctX5_neverNow ad n m5) rfl ⟨Nat.le_of_ble_eq_true rfl, Nat.le_of_ble_eq_true rfl⟩ rfl (Nat.le_of_ble_eq_true rfl) dX5_more_47 (fun r8 m7 => ?_)
        refine g_istore_n (pc := 50) [(3, .int r8), (0, .ref (ad 47)), (1, .int a1), (2, .int a2)] dX5_more_50 rfl (by decide) rfl ?_
        refine g_aload_n (pc := 51) 1 dX5_more_51 rfl rfl ?_
        refine g_iconst (pc := 52) 1 dX5_more_52 (by decide) ?_
        refine g_iconst (pc := 53) 1 dX5_more_53 (by decide) ?_
        refine g_cVV (pc := 54) (st := []) [.int 1, .int 1] rfl rfl moX5_passesAll lnX5_109 (ctX5_passesAll ad n 1 1 m7) rfl ⟨Nat.le_of_ble_eq_true rfl, Nat.le_of_ble_eq_true rfl⟩ rfl (Nat.le_of_ble_eq_true rfl) dX5_more_54 (fun r10 m9 => ?_)
        refine g_aload_n (pc := 57) 1 dX5_more_57 rfl rfl ?_
        refine g_iload_n (pc := 58) 2 dX5_more_58 rfl rfl ?_
        refine g_iload_n (pc := 59) 3 dX5_more_59 rfl rfl ?_
        refine g_cVV (pc := 60) (st := []) [.int a1, .int a2] rfl rfl moX5_changes lnX5_185 (ctX5_changes ad n a1 a2 m9) rfl ⟨Nat.le_of_ble_eq_true rfl, Nat.le_of_ble_eq_true rfl⟩ rfl (Nat.le_of_ble_eq_true rfl) dX5_more_60 (fun r12 m11 => ?_)
        refine g_aload_n (pc := 63) 1 dX5_more_63 rfl rfl ?_
        refine g_cVI (pc := 64) (st := []) [] rfl rfl moX5_neverNow lnX5_175 (ctX5_neverNow ad n m11) rfl ⟨Nat.le_of_ble_eq_true rfl, Nat.le_of_ble_eq_true rfl⟩ rfl (Nat.le_of_ble_eq_true rfl) dX5_more_64 (fun r14 m13 => ?_)
        refine g_iload_n (pc := 67) 0 dX5_more_67 rfl rfl ?_
        refine g_isub (pc := 68) dX5_more_68 ?_
        refine g_istoreB (pc := 69) (fun x15 => [(4, .int x15), (3, .int r8), (0, .ref (ad 47)), (1, .int a1), (2, .int a2)]) dX5_more_69 (by decide) (fun _ => rfl) (fun x15 => ?_)
        refine g_aload_n (pc := 71) 2 dX5_more_71 rfl rfl ?_
        refine g_iconst (pc := 72) 1 dX5_more_72 (by decide) ?_
        refine g_iconst (pc := 73) 0 dX5_more_73 (by decide) ?_
        refine g_cVV (pc := 74) (st := []) [.int 1, .int 0] rfl rfl moX5_passesAll lnX5_109 (ctX5_passesAll ad n 1 0 m13) rfl ⟨Nat.le_of_ble_eq_true rfl, Nat.le_of_ble_eq_true rfl⟩ rfl (Nat.le_of_ble_eq_true rfl) dX5_more_74 (fun r17 m16 => ?_)
        refine g_iload (pc := 77) 0 dX5_more_77 rfl ?_
        exact g_ireturn (pc := 79) dX5_more_79 rfl
      · refine g_aload_n (pc := 39) 0 dX5_more_39 rfl rfl ?_
        refine g_bipush (pc := 40) (-3) dX5_more_40 (by decide) ?_
        refine g_cVI (pc := 42) (st := []) [.int (-3)] rfl rfl moX5_lower lnX5_178 (ctX5_lower ad n (-3) m5) rfl ⟨Nat.le_of_ble_eq_true rfl, Nat.le_of_ble_eq_true rfl⟩ rfl (Nat.le_of_ble_eq_true rfl) dX5_more_42 (fun r19 m18 => ?_)
        exact g_ireturn (pc := 45) dX5_more_45 rfl
    · refine g_aload_n (pc := 23) 0 dX5_more_23 rfl rfl ?_
      refine g_bipush (pc := 24) (-2) dX5_more_24 (by decide) ?_
      refine g_cVI (pc := 26) (st := []) [.int (-2)] rfl rfl moX5_lower lnX5_178 (ctX5_lower ad n (-2) m3) rfl ⟨Nat.le_of_ble_eq_true rfl, Nat.le_of_ble_eq_true rfl⟩ rfl (Nat.le_of_ble_eq_true rfl) dX5_more_26 (fun r21 m20 => ?_)
      exact g_ireturn (pc := 29) dX5_more_29 rfl
  · refine g_aload_n (pc := 8) 0 dX5_more_8 rfl rfl ?_
    refine g_iconst (pc := 9) (-1) dX5_more_9 (by decide) ?_
    refine g_cVI (pc := 10) (st := []) [.int (-1)] rfl rfl moX5_lower lnX5_178 (ctX5_lower ad n (-1) m1) rfl ⟨Nat.le_of_ble_eq_true rfl, Nat.le_of_ble_eq_true rfl⟩ rfl (Nat.le_of_ble_eq_true rfl) dX5_more_10 (fun r23 m22 => ?_)
    exact g_ireturn (pc := 13) dX5_more_13 rfl)
-- StopsByLettersModel.worst(I)I
abbrev kX5_worst : Cfg := (RX5, cX5_worst, 6, (some .int), 7)
theorem dX5_worst_0 : decode cX5_worst 0 = .ok (.iload_n 1, 1) := by decide +kernel
theorem dX5_worst_1 : decode cX5_worst 1 = .ok (.iconst 0, 1) := by decide +kernel
theorem dX5_worst_2 : decode cX5_worst 2 = .ok (.iconst 1, 1) := by decide +kernel
theorem dX5_worst_3 : decode cX5_worst 3 = .ok (.invokestatic 81, 3) := by decide +kernel
theorem dX5_worst_6 : decode cX5_worst 6 = .ok (.ifCond .ne 10, 3) := by decide +kernel
theorem dX5_worst_9 : decode cX5_worst 9 = .ok (.aload_n 0, 1) := by decide +kernel
theorem dX5_worst_10 : decode cX5_worst 10 = .ok (.bipush (-2), 2) := by decide +kernel
theorem dX5_worst_12 : decode cX5_worst 12 = .ok (.invokevirtual 67, 3) := by decide +kernel
theorem dX5_worst_15 : decode cX5_worst 15 = .ok (.ireturn, 1) := by decide +kernel
theorem dX5_worst_16 : decode cX5_worst 16 = .ok (.bipush (-9), 2) := by decide +kernel
theorem dX5_worst_18 : decode cX5_worst 18 = .ok (.istore_n 2, 1) := by decide +kernel
theorem dX5_worst_19 : decode cX5_worst 19 = .ok (.iconst 0, 1) := by decide +kernel
theorem dX5_worst_20 : decode cX5_worst 20 = .ok (.istore_n 3, 1) := by decide +kernel
theorem dX5_worst_21 : decode cX5_worst 21 = .ok (.iconst 0, 1) := by decide +kernel
theorem dX5_worst_22 : decode cX5_worst 22 = .ok (.istore 4, 2) := by decide +kernel
theorem dX5_worst_24 : decode cX5_worst 24 = .ok (.iload 4, 2) := by decide +kernel
theorem dX5_worst_26 : decode cX5_worst 26 = .ok (.iconst 2, 1) := by decide +kernel
theorem dX5_worst_27 : decode cX5_worst 27 = .ok (.aload_n 0, 1) := by decide +kernel
theorem dX5_worst_28 : decode cX5_worst 28 = .ok (.getfield 56, 3) := by decide +kernel
theorem dX5_worst_31 : decode cX5_worst 31 = .ok (.imul, 1) := by decide +kernel
theorem dX5_worst_32 : decode cX5_worst 32 = .ok (.if_icmp .ge 100, 3) := by decide +kernel
theorem dX5_worst_35 : decode cX5_worst 35 = .ok (.aload_n 0, 1) := by decide +kernel
theorem dX5_worst_36 : decode cX5_worst 36 = .ok (.iload 4, 2) := by decide +kernel
theorem dX5_worst_38 : decode cX5_worst 38 = .ok (.iconst 2, 1) := by decide +kernel
theorem dX5_worst_39 : decode cX5_worst 39 = .ok (.idiv, 1) := by decide +kernel
theorem dX5_worst_40 : decode cX5_worst 40 = .ok (.iload 4, 2) := by decide +kernel
theorem dX5_worst_42 : decode cX5_worst 42 = .ok (.iconst 2, 1) := by decide +kernel
theorem dX5_worst_43 : decode cX5_worst 43 = .ok (.irem, 1) := by decide +kernel
theorem dX5_worst_44 : decode cX5_worst 44 = .ok (.invokevirtual 181, 3) := by decide +kernel
theorem dX5_worst_47 : decode cX5_worst 47 = .ok (.ifCond .ne 6, 3) := by decide +kernel
theorem dX5_worst_50 : decode cX5_worst 50 = .ok (.goto 76, 3) := by decide +kernel
theorem dX5_worst_53 : decode cX5_worst 53 = .ok (.aload_n 0, 1) := by decide +kernel
theorem dX5_worst_54 : decode cX5_worst 54 = .ok (.iconst 1, 1) := by decide +kernel
theorem dX5_worst_55 : decode cX5_worst 55 = .ok (.iconst 1, 1) := by decide +kernel
theorem dX5_worst_56 : decode cX5_worst 56 = .ok (.invokevirtual 109, 3) := by decide +kernel
theorem dX5_worst_59 : decode cX5_worst 59 = .ok (.aload_n 0, 1) := by decide +kernel
theorem dX5_worst_60 : decode cX5_worst 60 = .ok (.iload 4, 2) := by decide +kernel
theorem dX5_worst_62 : decode cX5_worst 62 = .ok (.iconst 2, 1) := by decide +kernel
theorem dX5_worst_63 : decode cX5_worst 63 = .ok (.idiv, 1) := by decide +kernel
theorem dX5_worst_64 : decode cX5_worst 64 = .ok (.iload 4, 2) := by decide +kernel
theorem dX5_worst_66 : decode cX5_worst 66 = .ok (.iconst 2, 1) := by decide +kernel
theorem dX5_worst_67 : decode cX5_worst 67 = .ok (.irem, 1) := by decide +kernel
theorem dX5_worst_68 : decode cX5_worst 68 = .ok (.invokevirtual 185, 3) := by decide +kernel
theorem dX5_worst_71 : decode cX5_worst 71 = .ok (.aload_n 0, 1) := by decide +kernel
theorem dX5_worst_72 : decode cX5_worst 72 = .ok (.invokevirtual 175, 3) := by decide +kernel
theorem dX5_worst_75 : decode cX5_worst 75 = .ok (.istore 5, 2) := by decide +kernel
theorem dX5_worst_77 : decode cX5_worst 77 = .ok (.aload_n 0, 1) := by decide +kernel
theorem dX5_worst_78 : decode cX5_worst 78 = .ok (.iconst 1, 1) := by decide +kernel
theorem dX5_worst_79 : decode cX5_worst 79 = .ok (.iconst 0, 1) := by decide +kernel
theorem dX5_worst_80 : decode cX5_worst 80 = .ok (.invokevirtual 109, 3) := by decide +kernel
theorem dX5_worst_83 : decode cX5_worst 83 = .ok (.iload_n 2, 1) := by decide +kernel
theorem dX5_worst_84 : decode cX5_worst 84 = .ok (.ifCond .lt 26, 3) := by decide +kernel
theorem dX5_worst_87 : decode cX5_worst 87 = .ok (.iload_n 1, 1) := by decide +kernel
theorem dX5_worst_88 : decode cX5_worst 88 = .ok (.iconst 1, 1) := by decide +kernel
theorem dX5_worst_89 : decode cX5_worst 89 = .ok (.if_icmp .ne 12, 3) := by decide +kernel
theorem dX5_worst_92 : decode cX5_worst 92 = .ok (.iload 5, 2) := by decide +kernel
theorem dX5_worst_94 : decode cX5_worst 94 = .ok (.iload_n 3, 1) := by decide +kernel
theorem dX5_worst_95 : decode cX5_worst 95 = .ok (.if_icmp .lt 15, 3) := by decide +kernel
theorem dX5_worst_98 : decode cX5_worst 98 = .ok (.goto 28, 3) := by decide +kernel
theorem dX5_worst_101 : decode cX5_worst 101 = .ok (.iload 5, 2) := by decide +kernel
theorem dX5_worst_103 : decode cX5_worst 103 = .ok (.iload_n 3, 1) := by decide +kernel
theorem dX5_worst_104 : decode cX5_worst 104 = .ok (.if_icmp .gt 6, 3) := by decide +kernel
theorem dX5_worst_107 : decode cX5_worst 107 = .ok (.goto 19, 3) := by decide +kernel
theorem dX5_worst_110 : decode cX5_worst 110 = .ok (.iload 4, 2) := by decide +kernel
theorem dX5_worst_112 : decode cX5_worst 112 = .ok (.iconst 2, 1) := by decide +kernel
theorem dX5_worst_113 : decode cX5_worst 113 = .ok (.idiv, 1) := by decide +kernel
theorem dX5_worst_114 : decode cX5_worst 114 = .ok (.bipush 10, 2) := by decide +kernel
theorem dX5_worst_116 : decode cX5_worst 116 = .ok (.imul, 1) := by decide +kernel
theorem dX5_worst_117 : decode cX5_worst 117 = .ok (.iload 4, 2) := by decide +kernel
theorem dX5_worst_119 : decode cX5_worst 119 = .ok (.iconst 2, 1) := by decide +kernel
theorem dX5_worst_120 : decode cX5_worst 120 = .ok (.irem, 1) := by decide +kernel
theorem dX5_worst_121 : decode cX5_worst 121 = .ok (.iadd, 1) := by decide +kernel
theorem dX5_worst_122 : decode cX5_worst 122 = .ok (.istore_n 2, 1) := by decide +kernel
theorem dX5_worst_123 : decode cX5_worst 123 = .ok (.iload 5, 2) := by decide +kernel
theorem dX5_worst_125 : decode cX5_worst 125 = .ok (.istore_n 3, 1) := by decide +kernel
theorem dX5_worst_126 : decode cX5_worst 126 = .ok (.iinc 4 1, 3) := by decide +kernel
theorem dX5_worst_129 : decode cX5_worst 129 = .ok (.goto (-105), 3) := by decide +kernel
theorem dX5_worst_132 : decode cX5_worst 132 = .ok (.iload_n 2, 1) := by decide +kernel
theorem dX5_worst_133 : decode cX5_worst 133 = .ok (.ireturn, 1) := by decide +kernel
def fX5_worst_L24 (n : Nat) (v1 : Int32) : Nat → Int32 → Int32 → Int32 → Mem → Option (Int32 × Mem)
  | 0, _, _, _, _ => none
  | F + 1, v2, v3, v4, μ => if (2 * (μ.1 47 4)) ≤ v4 then some (v2, μ) else bd (fX5_canBe n (v4 / 2) (jrem v4 2) μ) (fun r4 m3 => if r4 = 0 then bnd (v4 + 1) (fun x19 => fX5_worst_L24 n v1 F v2 v3 x19 m3) else bd (fX5_passesAll n 1 1 m3) (fun r6 m5 => bd (fX5_changes n (v4 / 2) (jrem v4 2) m5) (fun r8 m7 => bd (fX5_neverNow n m7) (fun r10 m9 => bd (fX5_passesAll n 1 0 m9) (fun r12 m11 => bnd (fun (m14 : Mem) => bnd (((v4 / 2) * 10) + (jrem v4 2)) (fun x15 => bnd (v4 + 1) (fun x16 => fX5_worst_L24 n v1 F x15 r10 x16 m14))) (fun kb13 => if v2 < 0 then kb13 m11 else if v1 = 1 then if r10 < v3 then kb13 m11 else bnd (v4 + 1) (fun x18 => fX5_worst_L24 n v1 F v2 v3 x18 m11) else if v3 < r10 then kb13 m11 else bnd (v4 + 1) (fun x17 => fX5_worst_L24 n v1 F v2 v3 x17 m11)))))))
def fX5_worst (n : Nat) (a1 : Int32) (μ : Mem) : Option (Int32 × Mem) :=
  bd (fX5_isIn n a1 0 1 μ) (fun r2 m1 => if r2 = 0 then bd (fX5_no n (-2) m1) (fun r21 m20 => some (r21, m20)) else fX5_worst_L24 n a1 n (-9) 0 0 m1)
set_option maxHeartbeats 4000000 in
set_option maxRecDepth 100000 in
theorem wX5_worst_L24 (ad : Nat → Nat) (n : Nat) (v1 : Int32) : ∀ (F : Nat) (v2 : Int32) (v3 : Int32) (v4 : Int32) (μ : Mem), G kX5_worst ad encI 24 [(0, .ref (ad 47)), (1, .int v1), (2, .int v2), (3, .int v3), (4, .int v4)] [] μ (fX5_worst_L24 n v1 F v2 v3 v4 μ) := by
  intro F
  induction F with
  | zero =>
    intro v2 v3 v4 μ
    exact g_none
  | succ F ih =>
    intro v2 v3 v4 μ
    rw [fX5_worst_L24]
    refine g_iload (pc := 24) 4 dX5_worst_24 rfl ?_
    refine g_iconst (pc := 26) 2 dX5_worst_26 (by decide) ?_
    refine g_aload_n (pc := 27) 0 dX5_worst_27 rfl rfl ?_
    refine g_get (pc := 28) rfl foX5_56 (v := .int (μ.1 47 4)) rfl dX5_worst_28 ?_
    refine g_imul (pc := 31) dX5_worst_31 ?_
    refine g_icmp_ge (pc := 32) 132 dX5_worst_32 rfl ?_ ?_
    · refine g_iload_n (pc := 132) 2 dX5_worst_132 rfl rfl ?_
      exact g_ireturn (pc := 133) dX5_worst_133 rfl
    · refine g_aload_n (pc := 35) 0 dX5_worst_35 rfl rfl ?_
      refine g_iload (pc := 36) 4 dX5_worst_36 rfl ?_
      refine g_iconst (pc := 38) 2 dX5_worst_38 (by decide) ?_
      refine g_idiv (pc := 39) dX5_worst_39 (by decide) ?_
      refine g_iload (pc := 40) 4 dX5_worst_40 rfl ?_
      refine g_iconst (pc := 42) 2 dX5_worst_42 (by decide) ?_
      refine g_irem' (pc := 43) dX5_worst_43 (by decide) ?_
      refine g_cVI (pc := 44) (st := []) [.int (v4 / 2), .int (jrem v4 2)] rfl rfl moX5_canBe lnX5_181 (ctX5_canBe ad n (v4 / 2) (jrem v4 2) μ) rfl ⟨Nat.le_of_ble_eq_true rfl, Nat.le_of_ble_eq_true rfl⟩ rfl (Nat.le_of_ble_eq_true rfl) dX5_worst_44 (fun r4 m3 => ?_)
      refine g_if_ne (pc := 47) 53 dX5_worst_47 rfl ?_ ?_
      · refine g_aload_n (pc := 53) 0 dX5_worst_53 rfl rfl ?_
        refine g_iconst (pc := 54) 1 dX5_worst_54 (by decide) ?_
        refine g_iconst (pc := 55) 1 dX5_worst_55 (by decide) ?_
        refine g_cVV (pc := 56) (st := []) [.int 1, .int 1] rfl rfl moX5_passesAll lnX5_109 (ctX5_passesAll ad n 1 1 m3) rfl ⟨Nat.le_of_ble_eq_true rfl, Nat.le_of_ble_eq_true rfl⟩ rfl (Nat.le_of_ble_eq_true rfl) dX5_worst_56 (fun r6 m5 => ?_)
        refine g_aload_n (pc := 59) 0 dX5_worst_59 rfl rfl ?_
        refine g_iload (pc := 60) 4 dX5_worst_60 rfl ?_
        refine g_iconst (pc := 62) 2 dX5_worst_62 (by decide) ?_
        refine g_idiv (pc := 63) dX5_worst_63 (by decide) ?_
        refine g_iload (pc := 64) 4 dX5_worst_64 rfl ?_
        refine g_iconst (pc := 66) 2 dX5_worst_66 (by decide) ?_
        refine g_irem' (pc := 67) dX5_worst_67 (by decide) ?_
        refine g_cVV (pc := 68) (st := []) [.int (v4 / 2), .int (jrem v4 2)] rfl rfl moX5_changes lnX5_185 (ctX5_changes ad n (v4 / 2) (jrem v4 2) m5) rfl ⟨Nat.le_of_ble_eq_true rfl, Nat.le_of_ble_eq_true rfl⟩ rfl (Nat.le_of_ble_eq_true rfl) dX5_worst_68 (fun r8 m7 => ?_)
        refine g_aload_n (pc := 71) 0 dX5_worst_71 rfl rfl ?_
        refine g_cVI (pc := 72) (st := []) [] rfl rfl moX5_neverNow lnX5_175 (ctX5_neverNow ad n m7) rfl ⟨Nat.le_of_ble_eq_true rfl, Nat.le_of_ble_eq_true rfl⟩ rfl (Nat.le_of_ble_eq_true rfl) dX5_worst_72 (fun r10 m9 => ?_)
        refine g_istore (pc := 75) [(5, .int r10), (0, .ref (ad 47)), (1, .int v1), (2, .int v2), (3, .int v3), (4, .int v4)] dX5_worst_75 (by decide) rfl ?_
        refine g_aload_n (pc := 77) 1 dX5_worst_77 rfl rfl ?_
        refine g_iconst (pc := 78) 1 dX5_worst_78 (by decide) ?_
        refine g_iconst (pc := 79) 0 dX5_worst_79 (by decide) ?_
        refine g_cVV (pc := 80) (st := []) [.int 1, .int 0] rfl rfl moX5_passesAll lnX5_109 (ctX5_passesAll ad n 1 0 m9) rfl ⟨Nat.le_of_ble_eq_true rfl, Nat.le_of_ble_eq_true rfl⟩ rfl (Nat.le_of_ble_eq_true rfl) dX5_worst_80 (fun r12 m11 => ?_)
        refine g_iload_n (pc := 83) 3 dX5_worst_83 rfl rfl ?_
        refine g_join (fun kb => ∀ (m14 : Mem), G kX5_worst ad encI 110 [(0, .ref (ad 47)), (1, .int v1), (4, .int v4), (5, .int r10)] [] m14 (kb m14)) (fun m14 => ?_) (fun kb13 hkb13 => ?_)
        · refine g_iload (pc := 110) 2 dX5_worst_110 rfl ?_
          refine g_iconst (pc := 112) 2 dX5_worst_112 (by decide) ?_
          refine g_idiv (pc := 113) dX5_worst_113 (by decide) ?_
          refine g_bipush (pc := 114) 10 dX5_worst_114 (by decide) ?_
          refine g_imul (pc := 116) dX5_worst_116 ?_
          refine g_iload (pc := 117) 2 dX5_worst_117 rfl ?_
          refine g_iconst (pc := 119) 2 dX5_worst_119 (by decide) ?_
          refine g_irem' (pc := 120) dX5_worst_120 (by decide) ?_
          refine g_iadd (pc := 121) dX5_worst_121 ?_
          refine g_istore_nB (pc := 122) (fun x15 => [(2, .int x15), (0, .ref (ad 47)), (1, .int v1), (4, .int v4), (5, .int r10)]) dX5_worst_122 rfl (by decide) (fun _ => rfl) (fun x15 => ?_)
          refine g_iload (pc := 123) 4 dX5_worst_123 rfl ?_
          refine g_istore_n (pc := 125) [(3, .int r10), (2, .int x15), (0, .ref (ad 47)), (1, .int v1), (4, .int v4), (5, .int r10)] dX5_worst_125 rfl (by decide) rfl ?_
          refine g_iincB (pc := 126) 4 1 1 (fun x16 => [(4, .int x16), (3, .int r10), (2, .int x15), (0, .ref (ad 47)), (1, .int v1), (5, .int r10)]) dX5_worst_126 rfl (by decide) (by decide) (fun _ => rfl) (fun x16 => ?_)
          refine g_goto (pc := 129) 24 dX5_worst_129 rfl ?_
          exact g_sub [3, 4, 2, 1, 0] rfl (ih x15 r10 x16 m14)
        ·
          refine g_if_lt (pc := 84) 110 dX5_worst_84 rfl ?_ ?_
          · exact g_sub [1, 2, 5, 0] rfl (hkb13 m11)
          · refine g_iload_n (pc := 87) 2 dX5_worst_87 rfl rfl ?_
            refine g_iconst (pc := 88) 1 dX5_worst_88 (by decide) ?_
            refine g_icmp_ne (pc := 89) 101 dX5_worst_89 rfl ?_ ?_
            · refine g_iload (pc := 101) 0 dX5_worst_101 rfl ?_
              refine g_iload_n (pc := 103) 4 dX5_worst_103 rfl rfl ?_
              refine g_icmp_gt (pc := 104) 110 dX5_worst_104 rfl ?_ ?_
              · exact g_sub [1, 2, 5, 0] rfl (hkb13 m11)
              · refine g_goto (pc := 107) 126 dX5_worst_107 rfl ?_
                refine g_iincB (pc := 126) 5 1 1 (fun x17 => [(4, .int x17), (5, .int r10), (0, .ref (ad 47)), (1, .int v1), (2, .int v2), (3, .int v3)]) dX5_worst_126 rfl (by decide) (by decide) (fun _ => rfl) (fun x17 => ?_)
                refine g_goto (pc := 129) 24 dX5_worst_129 rfl ?_
                exact g_sub [2, 3, 4, 5, 0] rfl (ih v2 v3 x17 m11)
            · refine g_iload (pc := 92) 0 dX5_worst_92 rfl ?_
              refine g_iload_n (pc := 94) 4 dX5_worst_94 rfl rfl ?_
              refine g_icmp_lt (pc := 95) 110 dX5_worst_95 rfl ?_ ?_
              · exact g_sub [1, 2, 5, 0] rfl (hkb13 m11)
              · refine g_goto (pc := 98) 126 dX5_worst_98 rfl ?_
                refine g_iincB (pc := 126) 5 1 1 (fun x18 => [(4, .int x18), (5, .int r10), (0, .ref (ad 47)), (1, .int v1), (2, .int v2), (3, .int v3)]) dX5_worst_126 rfl (by decide) (by decide) (fun _ => rfl) (fun x18 => ?_)
                refine g_goto (pc := 129) 24 dX5_worst_129 rfl ?_
                exact g_sub [2, 3, 4, 5, 0] rfl (ih v2 v3 x18 m11)
      · refine g_goto (pc := 50) 126 dX5_worst_50 rfl ?_
        refine g_iincB (pc := 126) 4 1 1 (fun x19 => [(4, .int x19), (0, .ref (ad 47)), (1, .int v1), (2, .int v2), (3, .int v3)]) dX5_worst_126 rfl (by decide) (by decide) (fun _ => rfl) (fun x19 => ?_)
        refine g_goto (pc := 129) 24 dX5_worst_129 rfl ?_
        exact g_sub [1, 2, 3, 4, 0] rfl (ih v2 v3 x19 m3)
set_option maxHeartbeats 4000000 in
set_option maxRecDepth 100000 in
theorem ctX5_worst (ad : Nat → Nat) (n : Nat) (a1 : Int32) (μ : Mem) : Ct yX5_worst kX5_worst ad encI [.ref (ad 47), .int a1] μ (fX5_worst n a1 μ) := Ct.of (by decide +kernel) rfl (Nat.le_of_ble_eq_true rfl) (by
  show G kX5_worst ad encI 0 [(0, .ref (ad 47)), (1, .int a1)] [] μ (fX5_worst n a1 μ)
  unfold fX5_worst
  refine g_iload_n (pc := 0) 1 dX5_worst_0 rfl rfl ?_
  refine g_iconst (pc := 1) 0 dX5_worst_1 (by decide) ?_
  refine g_iconst (pc := 2) 1 dX5_worst_2 (by decide) ?_
  refine g_cSI (pc := 3) (st := []) [.int a1, .int 0, .int 1] moX5_isIn lnX5_81 (ctX5_isIn ad n a1 0 1 μ) rfl ⟨Nat.le_of_ble_eq_true rfl, Nat.le_of_ble_eq_true rfl⟩ rfl (Nat.le_of_ble_eq_true rfl) dX5_worst_3 (fun r2 m1 => ?_)
  refine g_if_ne (pc := 6) 16 dX5_worst_6 rfl ?_ ?_
  · refine g_bipush (pc := 16) (-9) dX5_worst_16 (by decide) ?_
    refine g_istore_n (pc := 18) [(2, .int (-9)), (0, .ref (ad 47)), (1, .int a1)] dX5_worst_18 rfl (by decide) rfl ?_
    refine g_iconst (pc := 19) 0 dX5_worst_19 (by decide) ?_
    refine g_istore_n (pc := 20) [(3, .int 0), (2, .int (-9)), (0, .ref (ad 47)), (1, .int a1)] dX5_worst_20 rfl (by decide) rfl ?_
    refine g_iconst (pc := 21) 0 dX5_worst_21 (by decide) ?_
    refine g_istore (pc := 22) [(4, .int 0), (3, .int 0), (2, .int (-9)), (0, .ref (ad 47)), (1, .int a1)] dX5_worst_22 (by decide) rfl ?_
    exact g_sub [3, 4, 2, 1, 0] rfl (wX5_worst_L24 ad n a1 n (-9) 0 0 m1)
  · refine g_aload_n (pc := 9) 0 dX5_worst_9 rfl rfl ?_
    refine g_bipush (pc := 10) (-2) dX5_worst_10 (by decide) ?_
    refine g_cVI (pc := 12) (st := []) [.int (-2)] rfl rfl moX5_no lnX5_67 (ctX5_no ad n (-2) m1) rfl ⟨Nat.le_of_ble_eq_true rfl, Nat.le_of_ble_eq_true rfl⟩ rfl (Nat.le_of_ble_eq_true rfl) dX5_worst_12 (fun r21 m20 => ?_)
    exact g_ireturn (pc := 15) dX5_worst_15 rfl)
-- StopsByLettersModel.changed()I
abbrev kX5_changed : Cfg := (RX5, cX5_changed, 5, (some .int), 7)
theorem dX5_changed_0 : decode cX5_changed 0 = .ok (.aload_n 0, 1) := by decide +kernel
theorem dX5_changed_1 : decode cX5_changed 1 = .ok (.invokevirtual 175, 3) := by decide +kernel
theorem dX5_changed_4 : decode cX5_changed 4 = .ok (.ifCond .ne 5, 3) := by decide +kernel
theorem dX5_changed_7 : decode cX5_changed 7 = .ok (.iconst 0, 1) := by decide +kernel
theorem dX5_changed_8 : decode cX5_changed 8 = .ok (.ireturn, 1) := by decide +kernel
theorem dX5_changed_9 : decode cX5_changed 9 = .ok (.bipush (-9), 2) := by decide +kernel
theorem dX5_changed_11 : decode cX5_changed 11 = .ok (.istore_n 1, 1) := by decide +kernel
theorem dX5_changed_12 : decode cX5_changed 12 = .ok (.aload_n 0, 1) := by decide +kernel
theorem dX5_changed_13 : decode cX5_changed 13 = .ok (.iconst 1, 1) := by decide +kernel
theorem dX5_changed_14 : decode cX5_changed 14 = .ok (.iconst 1, 1) := by decide +kernel
theorem dX5_changed_15 : decode cX5_changed 15 = .ok (.invokevirtual 109, 3) := by decide +kernel
theorem dX5_changed_18 : decode cX5_changed 18 = .ok (.iconst 0, 1) := by decide +kernel
theorem dX5_changed_19 : decode cX5_changed 19 = .ok (.istore_n 2, 1) := by decide +kernel
theorem dX5_changed_20 : decode cX5_changed 20 = .ok (.iload_n 2, 1) := by decide +kernel
theorem dX5_changed_21 : decode cX5_changed 21 = .ok (.iconst 2, 1) := by decide +kernel
theorem dX5_changed_22 : decode cX5_changed 22 = .ok (.aload_n 0, 1) := by decide +kernel
theorem dX5_changed_23 : decode cX5_changed 23 = .ok (.getfield 56, 3) := by decide +kernel
theorem dX5_changed_26 : decode cX5_changed 26 = .ok (.imul, 1) := by decide +kernel
theorem dX5_changed_27 : decode cX5_changed 27 = .ok (.if_icmp .ge 136, 3) := by decide +kernel
theorem dX5_changed_30 : decode cX5_changed 30 = .ok (.iload_n 2, 1) := by decide +kernel
theorem dX5_changed_31 : decode cX5_changed 31 = .ok (.istore_n 3, 1) := by decide +kernel
theorem dX5_changed_32 : decode cX5_changed 32 = .ok (.iload_n 3, 1) := by decide +kernel
theorem dX5_changed_33 : decode cX5_changed 33 = .ok (.iconst 2, 1) := by decide +kernel
theorem dX5_changed_34 : decode cX5_changed 34 = .ok (.aload_n 0, 1) := by decide +kernel
theorem dX5_changed_35 : decode cX5_changed 35 = .ok (.getfield 56, 3) := by decide +kernel
theorem dX5_changed_38 : decode cX5_changed 38 = .ok (.imul, 1) := by decide +kernel
theorem dX5_changed_39 : decode cX5_changed 39 = .ok (.if_icmp .ge 118, 3) := by decide +kernel
theorem dX5_changed_42 : decode cX5_changed 42 = .ok (.iload_n 3, 1) := by decide +kernel
theorem dX5_changed_43 : decode cX5_changed 43 = .ok (.iload_n 2, 1) := by decide +kernel
theorem dX5_changed_44 : decode cX5_changed 44 = .ok (.if_icmp .ne 7, 3) := by decide +kernel
theorem dX5_changed_47 : decode cX5_changed 47 = .ok (.iconst 1, 1) := by decide +kernel
theorem dX5_changed_48 : decode cX5_changed 48 = .ok (.goto 4, 3) := by decide +kernel
theorem dX5_changed_51 : decode cX5_changed 51 = .ok (.iconst 0, 1) := by decide +kernel
theorem dX5_changed_52 : decode cX5_changed 52 = .ok (.istore 4, 2) := by decide +kernel
theorem dX5_changed_54 : decode cX5_changed 54 = .ok (.iload 4, 2) := by decide +kernel
theorem dX5_changed_56 : decode cX5_changed 56 = .ok (.ifCond .ne 12, 3) := by decide +kernel
theorem dX5_changed_59 : decode cX5_changed 59 = .ok (.iload_n 3, 1) := by decide +kernel
theorem dX5_changed_60 : decode cX5_changed 60 = .ok (.iconst 2, 1) := by decide +kernel
theorem dX5_changed_61 : decode cX5_changed 61 = .ok (.idiv, 1) := by decide +kernel
theorem dX5_changed_62 : decode cX5_changed 62 = .ok (.iload_n 2, 1) := by decide +kernel
theorem dX5_changed_63 : decode cX5_changed 63 = .ok (.iconst 2, 1) := by decide +kernel
theorem dX5_changed_64 : decode cX5_changed 64 = .ok (.idiv, 1) := by decide +kernel
theorem dX5_changed_65 : decode cX5_changed 65 = .ok (.if_icmp .eq 86, 3) := by decide +kernel
theorem dX5_changed_68 : decode cX5_changed 68 = .ok (.aload_n 0, 1) := by decide +kernel
theorem dX5_changed_69 : decode cX5_changed 69 = .ok (.iload_n 2, 1) := by decide +kernel
theorem dX5_changed_70 : decode cX5_changed 70 = .ok (.iconst 2, 1) := by decide +kernel
theorem dX5_changed_71 : decode cX5_changed 71 = .ok (.idiv, 1) := by decide +kernel
theorem dX5_changed_72 : decode cX5_changed 72 = .ok (.iload_n 2, 1) := by decide +kernel
theorem dX5_changed_73 : decode cX5_changed 73 = .ok (.iconst 2, 1) := by decide +kernel
theorem dX5_changed_74 : decode cX5_changed 74 = .ok (.irem, 1) := by decide +kernel
theorem dX5_changed_75 : decode cX5_changed 75 = .ok (.invokevirtual 181, 3) := by decide +kernel
theorem dX5_changed_78 : decode cX5_changed 78 = .ok (.ifCond .eq 73, 3) := by decide +kernel
theorem dX5_changed_81 : decode cX5_changed 81 = .ok (.aload_n 0, 1) := by decide +kernel
theorem dX5_changed_82 : decode cX5_changed 82 = .ok (.iload_n 3, 1) := by decide +kernel
theorem dX5_changed_83 : decode cX5_changed 83 = .ok (.iconst 2, 1) := by decide +kernel
theorem dX5_changed_84 : decode cX5_changed 84 = .ok (.idiv, 1) := by decide +kernel
theorem dX5_changed_85 : decode cX5_changed 85 = .ok (.iload_n 3, 1) := by decide +kernel
theorem dX5_changed_86 : decode cX5_changed 86 = .ok (.iconst 2, 1) := by decide +kernel
theorem dX5_changed_87 : decode cX5_changed 87 = .ok (.irem, 1) := by decide +kernel
theorem dX5_changed_88 : decode cX5_changed 88 = .ok (.invokevirtual 181, 3) := by decide +kernel
theorem dX5_changed_91 : decode cX5_changed 91 = .ok (.ifCond .eq 60, 3) := by decide +kernel
theorem dX5_changed_94 : decode cX5_changed 94 = .ok (.iload_n 1, 1) := by decide +kernel
theorem dX5_changed_95 : decode cX5_changed 95 = .ok (.iconst 1, 1) := by decide +kernel
theorem dX5_changed_96 : decode cX5_changed 96 = .ok (.if_icmp .ne 6, 3) := by decide +kernel
theorem dX5_changed_99 : decode cX5_changed 99 = .ok (.goto 52, 3) := by decide +kernel
theorem dX5_changed_102 : decode cX5_changed 102 = .ok (.aload_n 0, 1) := by decide +kernel
theorem dX5_changed_103 : decode cX5_changed 103 = .ok (.iload_n 2, 1) := by decide +kernel
theorem dX5_changed_104 : decode cX5_changed 104 = .ok (.iconst 2, 1) := by decide +kernel
theorem dX5_changed_105 : decode cX5_changed 105 = .ok (.idiv, 1) := by decide +kernel
theorem dX5_changed_106 : decode cX5_changed 106 = .ok (.iload_n 2, 1) := by decide +kernel
theorem dX5_changed_107 : decode cX5_changed 107 = .ok (.iconst 2, 1) := by decide +kernel
theorem dX5_changed_108 : decode cX5_changed 108 = .ok (.irem, 1) := by decide +kernel
theorem dX5_changed_109 : decode cX5_changed 109 = .ok (.invokevirtual 185, 3) := by decide +kernel
theorem dX5_changed_112 : decode cX5_changed 112 = .ok (.iload 4, 2) := by decide +kernel
theorem dX5_changed_114 : decode cX5_changed 114 = .ok (.ifCond .ne 13, 3) := by decide +kernel
theorem dX5_changed_117 : decode cX5_changed 117 = .ok (.aload_n 0, 1) := by decide +kernel
theorem dX5_changed_118 : decode cX5_changed 118 = .ok (.iload_n 3, 1) := by decide +kernel
theorem dX5_changed_119 : decode cX5_changed 119 = .ok (.iconst 2, 1) := by decide +kernel
theorem dX5_changed_120 : decode cX5_changed 120 = .ok (.idiv, 1) := by decide +kernel
theorem dX5_changed_121 : decode cX5_changed 121 = .ok (.iload_n 3, 1) := by decide +kernel
theorem dX5_changed_122 : decode cX5_changed 122 = .ok (.iconst 2, 1) := by decide +kernel
theorem dX5_changed_123 : decode cX5_changed 123 = .ok (.irem, 1) := by decide +kernel
theorem dX5_changed_124 : decode cX5_changed 124 = .ok (.invokevirtual 185, 3) := by decide +kernel
theorem dX5_changed_127 : decode cX5_changed 127 = .ok (.aload_n 0, 1) := by decide +kernel
theorem dX5_changed_128 : decode cX5_changed 128 = .ok (.invokevirtual 175, 3) := by decide +kernel
theorem dX5_changed_131 : decode cX5_changed 131 = .ok (.ifCond .ne 14, 3) := by decide +kernel
theorem dX5_changed_134 : decode cX5_changed 134 = .ok (.iload 4, 2) := by decide +kernel
theorem dX5_changed_136 : decode cX5_changed 136 = .ok (.ifCond .eq 7, 3) := by decide +kernel
theorem dX5_changed_139 : decode cX5_changed 139 = .ok (.iconst 1, 1) := by decide +kernel
theorem dX5_changed_140 : decode cX5_changed 140 = .ok (.goto 4, 3) := by decide +kernel
theorem dX5_changed_143 : decode cX5_changed 143 = .ok (.iconst 2, 1) := by decide +kernel
theorem dX5_changed_144 : decode cX5_changed 144 = .ok (.istore_n 1, 1) := by decide +kernel
theorem dX5_changed_145 : decode cX5_changed 145 = .ok (.aload_n 0, 1) := by decide +kernel
theorem dX5_changed_146 : decode cX5_changed 146 = .ok (.iconst 1, 1) := by decide +kernel
theorem dX5_changed_147 : decode cX5_changed 147 = .ok (.iconst 0, 1) := by decide +kernel
theorem dX5_changed_148 : decode cX5_changed 148 = .ok (.invokevirtual 109, 3) := by decide +kernel
theorem dX5_changed_151 : decode cX5_changed 151 = .ok (.iinc 3 1, 3) := by decide +kernel
theorem dX5_changed_154 : decode cX5_changed 154 = .ok (.goto (-122), 3) := by decide +kernel
theorem dX5_changed_157 : decode cX5_changed 157 = .ok (.iinc 2 1, 3) := by decide +kernel
theorem dX5_changed_160 : decode cX5_changed 160 = .ok (.goto (-140), 3) := by decide +kernel
theorem dX5_changed_163 : decode cX5_changed 163 = .ok (.iload_n 1, 1) := by decide +kernel
theorem dX5_changed_164 : decode cX5_changed 164 = .ok (.ireturn, 1) := by decide +kernel
def fX5_changed_L32 (n : Nat) (v2 : Int32) (K1 : Int32 → Mem → Option (Int32 × Mem)) : Nat → Int32 → Int32 → Mem → Option (Int32 × Mem)
  | 0, _, _, _ => none
  | F + 1, v1, v3, μ => if (2 * (μ.1 47 4)) ≤ v3 then K1 v1 μ else bnd (fun (x6 : Int32) (m7 : Mem) => bnd (fun (m9 : Mem) => bd (fX5_canBe n (v2 / 2) (jrem v2 2) m9) (fun r11 m10 => if r11 = 0 then bnd (v3 + 1) (fun x12 => fX5_changed_L32 n v2 K1 F v1 x12 m10) else bd (fX5_canBe n (v3 / 2) (jrem v3 2) m10) (fun r14 m13 => if r14 = 0 then bnd (v3 + 1) (fun x15 => fX5_changed_L32 n v2 K1 F v1 x15 m13) else if v1 = 1 then bnd (v3 + 1) (fun x33 => fX5_changed_L32 n v2 K1 F v1 x33 m13) else bd (fX5_changes n (v2 / 2) (jrem v2 2) m13) (fun r17 m16 => bnd (fun (m19 : Mem) => bd (fX5_neverNow n m19) (fun r21 m20 => bnd (fun (x23 : Int32) (m24 : Mem) => bd (fX5_passesAll n 1 0 m24) (fun r26 m25 => bnd (v3 + 1) (fun x27 => fX5_changed_L32 n v2 K1 F x23 x27 m25))) (fun kb22 => if r21 = 0 then bnd (fun (x29 : Int32) (m30 : Mem) => kb22 x29 m30) (fun kb28 => if x6 = 0 then kb28 2 m20 else kb28 1 m20) else kb22 v1 m20))) (fun kb18 => if x6 = 0 then bd (fX5_changes n (v3 / 2) (jrem v3 2) m16) (fun r32 m31 => kb18 m31) else kb18 m16))))) (fun kb8 => if x6 = 0 then if (v3 / 2) = (v2 / 2) then bnd (v3 + 1) (fun x34 => fX5_changed_L32 n v2 K1 F v1 x34 m7) else kb8 m7 else kb8 m7)) (fun kb5 => if v3 = v2 then kb5 1 μ else kb5 0 μ)
def fX5_changed_L20 (n : Nat) : Nat → Int32 → Int32 → Mem → Option (Int32 × Mem)
  | 0, _, _, _ => none
  | F + 1, v1, v2, μ => if (2 * (μ.1 47 4)) ≤ v2 then some (v1, μ) else fX5_changed_L32 n v2 (fun (x35 : Int32) (m36 : Mem) => bnd (v2 + 1) (fun x37 => fX5_changed_L20 n F x35 x37 m36)) n v1 v2 μ
def fX5_changed (n : Nat) (μ : Mem) : Option (Int32 × Mem) :=
  bd (fX5_neverNow n μ) (fun r2 m1 => if r2 = 0 then some (0, m1) else bd (fX5_passesAll n 1 1 m1) (fun r4 m3 => fX5_changed_L20 n n (-9) 0 m3))
set_option maxHeartbeats 4000000 in
set_option maxRecDepth 100000 in
theorem wX5_changed_L32 (ad : Nat → Nat) (n : Nat) (v2 : Int32) (K1 : Int32 → Mem → Option (Int32 × Mem)) (hK1 : ∀ (u1 : Int32) (μ : Mem), G kX5_changed ad encI 157 [(0, .ref (ad 47)), (1, .int u1), (2, .int v2)] [] μ (K1 u1 μ)) : ∀ (F : Nat) (v1 : Int32) (v3 : Int32) (μ : Mem), G kX5_changed ad encI 32 [(0, .ref (ad 47)), (1, .int v1), (2, .int v2), (3, .int v3)] [] μ (fX5_changed_L32 n v2 K1 F v1 v3 μ) := by
  intro F
  induction F with
  | zero =>
    intro v1 v3 μ
    exact g_none
  | succ F ih =>
    intro v1 v3 μ
    rw [fX5_changed_L32]
    refine g_iload_n (pc := 32) 3 dX5_changed_32 rfl rfl ?_
    refine g_iconst (pc := 33) 2 dX5_changed_33 (by decide) ?_
    refine g_aload_n (pc := 34) 0 dX5_changed_34 rfl rfl ?_
    refine g_get (pc := 35) rfl foX5_56 (v := .int (μ.1 47 4)) rfl dX5_changed_35 ?_
    refine g_imul (pc := 38) dX5_changed_38 ?_
    refine g_icmp_ge (pc := 39) 157 dX5_changed_39 rfl ?_ ?_
    · exact g_sub [0, 1, 2] rfl (hK1 v1 μ)
    · refine g_iload_n (pc := 42) 3 dX5_changed_42 rfl rfl ?_
      refine g_iload_n (pc := 43) 2 dX5_changed_43 rfl rfl ?_
      refine g_join (fun kb => ∀ (x6 : Int32) (m7 : Mem), G kX5_changed ad encI 52 [(0, .ref (ad 47)), (1, .int v1), (2, .int v2), (3, .int v3)] [.int x6] m7 (kb x6 m7)) (fun x6 m7 => ?_) (fun kb5 hkb5 => ?_)
      · refine g_istore (pc := 52) [(4, .int x6), (0, .ref (ad 47)), (1, .int v1), (2, .int v2), (3, .int v3)] dX5_changed_52 (by decide) rfl ?_
        refine g_iload (pc := 54) 0 dX5_changed_54 rfl ?_
        refine g_join (fun kb => ∀ (m9 : Mem), G kX5_changed ad encI 68 [(0, .ref (ad 47)), (1, .int v1), (2, .int v2), (3, .int v3), (4, .int x6)] [] m9 (kb m9)) (fun m9 => ?_) (fun kb8 hkb8 => ?_)
        · refine g_aload_n (pc := 68) 0 dX5_changed_68 rfl rfl ?_
          refine g_iload_n (pc := 69) 2 dX5_changed_69 rfl rfl ?_
          refine g_iconst (pc := 70) 2 dX5_changed_70 (by decide) ?_
          refine g_idiv (pc := 71) dX5_changed_71 (by decide) ?_
          refine g_iload_n (pc := 72) 2 dX5_changed_72 rfl rfl ?_
          refine g_iconst (pc := 73) 2 dX5_changed_73 (by decide) ?_
          refine g_irem' (pc := 74) dX5_changed_74 (by decide) ?_
          refine g_cVI (pc := 75) (st := []) [.int (v2 / 2), .int (jrem v2 2)] rfl rfl moX5_canBe lnX5_181 (ctX5_canBe ad n (v2 / 2) (jrem v2 2) m9) rfl ⟨Nat.le_of_ble_eq_true rfl, Nat.le_of_ble_eq_true rfl⟩ rfl (Nat.le_of_ble_eq_true rfl) dX5_changed_75 (fun r11 m10 => ?_)
          refine g_if_eq (pc := 78) 151 dX5_changed_78 rfl ?_ ?_
          · refine g_iincB (pc := 151) 3 1 1 (fun x12 => [(3, .int x12), (0, .ref (ad 47)), (1, .int v1), (2, .int v2), (4, .int x6)]) dX5_changed_151 rfl (by decide) (by decide) (fun _ => rfl) (fun x12 => ?_)
            refine g_goto (pc := 154) 32 dX5_changed_154 rfl ?_
            exact g_sub [1, 2, 3, 0] rfl (ih v1 x12 m10)
          · refine g_aload_n (pc := 81) 0 dX5_changed_81 rfl rfl ?_
            refine g_iload_n (pc := 82) 3 dX5_changed_82 rfl rfl ?_
            refine g_iconst (pc := 83) 2 dX5_changed_83 (by decide) ?_
            refine g_idiv (pc := 84) dX5_changed_84 (by decide) ?_
            refine g_iload_n (pc := 85) 3 dX5_changed_85 rfl rfl ?_
            refine g_iconst (pc := 86) 2 dX5_changed_86 (by decide) ?_
            refine g_irem' (pc := 87) dX5_changed_87 (by decide) ?_
            refine g_cVI (pc := 88) (st := []) [.int (v3 / 2), .int (jrem v3 2)] rfl rfl moX5_canBe lnX5_181 (ctX5_canBe ad n (v3 / 2) (jrem v3 2) m10) rfl ⟨Nat.le_of_ble_eq_true rfl, Nat.le_of_ble_eq_true rfl⟩ rfl (Nat.le_of_ble_eq_true rfl) dX5_changed_88 (fun r14 m13 => ?_)
            refine g_if_eq (pc := 91) 151 dX5_changed_91 rfl ?_ ?_
            · refine g_iincB (pc := 151) 3 1 1 (fun x15 => [(3, .int x15), (0, .ref (ad 47)), (1, .int v1), (2, .int v2), (4, .int x6)]) dX5_changed_151 rfl (by decide) (by decide) (fun _ => rfl) (fun x15 => ?_)
              refine g_goto (pc := 154) 32 dX5_changed_154 rfl ?_
              exact g_sub [1, 2, 3, 0] rfl (ih v1 x15 m13)
            · refine g_iload_n (pc := 94) 1 dX5_changed_94 rfl rfl ?_
              refine g_iconst (pc := 95) 1 dX5_changed_95 (by decide) ?_
              refine g_icmp_ne (pc := 96) 102 dX5_changed_96 rfl ?_ ?_
              · refine g_aload_n (pc := 102) 0 dX5_changed_102 rfl rfl ?_
                refine g_iload_n (pc := 103) 2 dX5_changed_103 rfl rfl ?_
                refine g_iconst (pc := 104) 2 dX5_changed_104 (by decide) ?_
                refine g_idiv (pc := 105) dX5_changed_105 (by decide) ?_
                refine g_iload_n (pc := 106) 2 dX5_changed_106 rfl rfl ?_
                refine g_iconst (pc := 107) 2 dX5_changed_107 (by decide) ?_
                refine g_irem' (pc := 108) dX5_changed_108 (by decide) ?_
                refine g_cVV (pc := 109) (st := []) [.int (v2 / 2), .int (jrem v2 2)] rfl rfl moX5_changes lnX5_185 (ctX5_changes ad n (v2 / 2) (jrem v2 2) m13) rfl ⟨Nat.le_of_ble_eq_true rfl, Nat.le_of_ble_eq_true rfl⟩ rfl (Nat.le_of_ble_eq_true rfl) dX5_changed_109 (fun r17 m16 => ?_)
                refine g_iload (pc := 112) 4 dX5_changed_112 rfl ?_
                refine g_join (fun kb => ∀ (m19 : Mem), G kX5_changed ad encI 127 [(0, .ref (ad 47)), (1, .int v1), (2, .int v2), (3, .int v3), (4, .int x6)] [] m19 (kb m19)) (fun m19 => ?_) (fun kb18 hkb18 => ?_)
                · refine g_aload_n (pc := 127) 0 dX5_changed_127 rfl rfl ?_
                  refine g_cVI (pc := 128) (st := []) [] rfl rfl moX5_neverNow lnX5_175 (ctX5_neverNow ad n m19) rfl ⟨Nat.le_of_ble_eq_true rfl, Nat.le_of_ble_eq_true rfl⟩ rfl (Nat.le_of_ble_eq_true rfl) dX5_changed_128 (fun r21 m20 => ?_)
                  refine g_join (fun kb => ∀ (x23 : Int32) (m24 : Mem), G kX5_changed ad encI 145 [(0, .ref (ad 47)), (1, .int x23), (2, .int v2), (3, .int v3)] [] m24 (kb x23 m24)) (fun x23 m24 => ?_) (fun kb22 hkb22 => ?_)
                  · refine g_aload_n (pc := 145) 0 dX5_changed_145 rfl rfl ?_
                    refine g_iconst (pc := 146) 1 dX5_changed_146 (by decide) ?_
                    refine g_iconst (pc := 147) 0 dX5_changed_147 (by decide) ?_
                    refine g_cVV (pc := 148) (st := []) [.int 1, .int 0] rfl rfl moX5_passesAll lnX5_109 (ctX5_passesAll ad n 1 0 m24) rfl ⟨Nat.le_of_ble_eq_true rfl, Nat.le_of_ble_eq_true rfl⟩ rfl (Nat.le_of_ble_eq_true rfl) dX5_changed_148 (fun r26 m25 => ?_)
                    refine g_iincB (pc := 151) 3 1 1 (fun x27 => [(3, .int x27), (0, .ref (ad 47)), (1, .int x23), (2, .int v2)]) dX5_changed_151 rfl (by decide) (by decide) (fun _ => rfl) (fun x27 => ?_)
                    refine g_goto (pc := 154) 32 dX5_changed_154 rfl ?_
                    exact g_sub [1, 2, 3, 0] rfl (ih x23 x27 m25)
                  ·
                    refine g_if_ne (pc := 131) 145 dX5_changed_131 rfl ?_ ?_
                    · exact g_sub [0, 1, 2, 3] rfl (hkb22 v1 m20)
                    · refine g_iload (pc := 134) 4 dX5_changed_134 rfl ?_
                      refine g_join (fun kb => ∀ (x29 : Int32) (m30 : Mem), G kX5_changed ad encI 144 [(0, .ref (ad 47)), (2, .int v2), (3, .int v3)] [.int x29] m30 (kb x29 m30)) (fun x29 m30 => ?_) (fun kb28 hkb28 => ?_)
                      · refine g_istore_n (pc := 144) [(1, .int x29), (0, .ref (ad 47)), (2, .int v2), (3, .int v3)] dX5_changed_144 rfl (by decide) rfl ?_
                        exact g_sub [1, 0, 2, 3] rfl (hkb22 x29 m30)
                      ·
                        refine g_if_eq (pc := 136) 143 dX5_changed_136 rfl ?_ ?_
                        · refine g_iconst (pc := 143) 2 dX5_changed_143 (by decide) ?_
                          exact g_sub [0, 2, 3] rfl (hkb28 2 m20)
                        · refine g_iconst (pc := 139) 1 dX5_changed_139 (by decide) ?_
                          refine g_goto (pc := 140) 144 dX5_changed_140 rfl ?_
                          exact g_sub [0, 2, 3] rfl (hkb28 1 m20)
                ·
                  refine g_if_ne (pc := 114) 127 dX5_changed_114 rfl ?_ ?_
                  · exact g_sub [0, 1, 2, 3, 4] rfl (hkb18 m16)
                  · refine g_aload_n (pc := 117) 0 dX5_changed_117 rfl rfl ?_
                    refine g_iload_n (pc := 118) 3 dX5_changed_118 rfl rfl ?_
                    refine g_iconst (pc := 119) 2 dX5_changed_119 (by decide) ?_
                    refine g_idiv (pc := 120) dX5_changed_120 (by decide) ?_
                    refine g_iload_n (pc := 121) 3 dX5_changed_121 rfl rfl ?_
                    refine g_iconst (pc := 122) 2 dX5_changed_122 (by decide) ?_
                    refine g_irem' (pc := 123) dX5_changed_123 (by decide) ?_
                    refine g_cVV (pc := 124) (st := []) [.int (v3 / 2), .int (jrem v3 2)] rfl rfl moX5_changes lnX5_185 (ctX5_changes ad n (v3 / 2) (jrem v3 2) m16) rfl ⟨Nat.le_of_ble_eq_true rfl, Nat.le_of_ble_eq_true rfl⟩ rfl (Nat.le_of_ble_eq_true rfl) dX5_changed_124 (fun r32 m31 => ?_)
                    exact g_sub [0, 1, 2, 3, 4] rfl (hkb18 m31)
              · refine g_goto (pc := 99) 151 dX5_changed_99 rfl ?_
                refine g_iincB (pc := 151) 3 1 1 (fun x33 => [(3, .int x33), (0, .ref (ad 47)), (1, .int v1), (2, .int v2), (4, .int x6)]) dX5_changed_151 rfl (by decide) (by decide) (fun _ => rfl) (fun x33 => ?_)
                refine g_goto (pc := 154) 32 dX5_changed_154 rfl ?_
                exact g_sub [1, 2, 3, 0] rfl (ih v1 x33 m13)
        ·
          refine g_if_ne (pc := 56) 68 dX5_changed_56 rfl ?_ ?_
          · exact g_sub [1, 2, 3, 4, 0] rfl (hkb8 m7)
          · refine g_iload_n (pc := 59) 4 dX5_changed_59 rfl rfl ?_
            refine g_iconst (pc := 60) 2 dX5_changed_60 (by decide) ?_
            refine g_idiv (pc := 61) dX5_changed_61 (by decide) ?_
            refine g_iload_n (pc := 62) 3 dX5_changed_62 rfl rfl ?_
            refine g_iconst (pc := 63) 2 dX5_changed_63 (by decide) ?_
            refine g_idiv (pc := 64) dX5_changed_64 (by decide) ?_
            refine g_icmp_eq (pc := 65) 151 dX5_changed_65 rfl ?_ ?_
            · refine g_iincB (pc := 151) 4 1 1 (fun x34 => [(3, .int x34), (4, .int x6), (0, .ref (ad 47)), (1, .int v1), (2, .int v2)]) dX5_changed_151 rfl (by decide) (by decide) (fun _ => rfl) (fun x34 => ?_)
              refine g_goto (pc := 154) 32 dX5_changed_154 rfl ?_
              exact g_sub [2, 3, 4, 0] rfl (ih v1 x34 m7)
            · exact g_sub [1, 2, 3, 4, 0] rfl (hkb8 m7)
      ·
        refine g_icmp_ne (pc := 44) 51 dX5_changed_44 rfl ?_ ?_
        · refine g_iconst (pc := 51) 0 dX5_changed_51 (by decide) ?_
          exact g_sub [0, 1, 2, 3] rfl (hkb5 0 μ)
        · refine g_iconst (pc := 47) 1 dX5_changed_47 (by decide) ?_
          refine g_goto (pc := 48) 52 dX5_changed_48 rfl ?_
          exact g_sub [0, 1, 2, 3] rfl (hkb5 1 μ)
set_option maxHeartbeats 4000000 in
set_option maxRecDepth 100000 in
theorem wX5_changed_L20 (ad : Nat → Nat) (n : Nat) : ∀ (F : Nat) (v1 : Int32) (v2 : Int32) (μ : Mem), G kX5_changed ad encI 20 [(0, .ref (ad 47)), (1, .int v1), (2, .int v2)] [] μ (fX5_changed_L20 n F v1 v2 μ) := by
  intro F
  induction F with
  | zero =>
    intro v1 v2 μ
    exact g_none
  | succ F ih =>
    intro v1 v2 μ
    rw [fX5_changed_L20]
    refine g_iload_n (pc := 20) 2 dX5_changed_20 rfl rfl ?_
    refine g_iconst (pc := 21) 2 dX5_changed_21 (by decide) ?_
    refine g_aload_n (pc := 22) 0 dX5_changed_22 rfl rfl ?_
    refine g_get (pc := 23) rfl foX5_56 (v := .int (μ.1 47 4)) rfl dX5_changed_23 ?_
    refine g_imul (pc := 26) dX5_changed_26 ?_
    refine g_icmp_ge (pc := 27) 163 dX5_changed_27 rfl ?_ ?_
    · refine g_iload_n (pc := 163) 1 dX5_changed_163 rfl rfl ?_
      exact g_ireturn (pc := 164) dX5_changed_164 rfl
    · refine g_iload_n (pc := 30) 2 dX5_changed_30 rfl rfl ?_
      refine g_istore_n (pc := 31) [(3, .int v2), (0, .ref (ad 47)), (1, .int v1), (2, .int v2)] dX5_changed_31 rfl (by decide) rfl ?_
      refine g_sub [1, 2, 3, 0] rfl (wX5_changed_L32 ad n v2 _ (fun x35 m36 => ?_) n v1 v2 μ)
      refine g_iincB (pc := 157) 2 1 1 (fun x37 => [(2, .int x37), (0, .ref (ad 47)), (1, .int x35)]) dX5_changed_157 rfl (by decide) (by decide) (fun _ => rfl) (fun x37 => ?_)
      refine g_goto (pc := 160) 20 dX5_changed_160 rfl ?_
      exact g_sub [1, 2, 0] rfl (ih x35 x37 m36)
set_option maxHeartbeats 4000000 in
set_option maxRecDepth 100000 in
theorem ctX5_changed (ad : Nat → Nat) (n : Nat) (μ : Mem) : Ct yX5_changed kX5_changed ad encI [.ref (ad 47)] μ (fX5_changed n μ) := Ct.of (by decide +kernel) rfl (Nat.le_of_ble_eq_true rfl) (by
  show G kX5_changed ad encI 0 [(0, .ref (ad 47))] [] μ (fX5_changed n μ)
  unfold fX5_changed
  refine g_aload_n (pc := 0) 0 dX5_changed_0 rfl rfl ?_
  refine g_cVI (pc := 1) (st := []) [] rfl rfl moX5_neverNow lnX5_175 (ctX5_neverNow ad n μ) rfl ⟨Nat.le_of_ble_eq_true rfl, Nat.le_of_ble_eq_true rfl⟩ rfl (Nat.le_of_ble_eq_true rfl) dX5_changed_1 (fun r2 m1 => ?_)
  refine g_if_ne (pc := 4) 9 dX5_changed_4 rfl ?_ ?_
  · refine g_bipush (pc := 9) (-9) dX5_changed_9 (by decide) ?_
    refine g_istore_n (pc := 11) [(1, .int (-9)), (0, .ref (ad 47))] dX5_changed_11 rfl (by decide) rfl ?_
    refine g_aload_n (pc := 12) 1 dX5_changed_12 rfl rfl ?_
    refine g_iconst (pc := 13) 1 dX5_changed_13 (by decide) ?_
    refine g_iconst (pc := 14) 1 dX5_changed_14 (by decide) ?_
    refine g_cVV (pc := 15) (st := []) [.int 1, .int 1] rfl rfl moX5_passesAll lnX5_109 (ctX5_passesAll ad n 1 1 m1) rfl ⟨Nat.le_of_ble_eq_true rfl, Nat.le_of_ble_eq_true rfl⟩ rfl (Nat.le_of_ble_eq_true rfl) dX5_changed_15 (fun r4 m3 => ?_)
    refine g_iconst (pc := 18) 0 dX5_changed_18 (by decide) ?_
    refine g_istore_n (pc := 19) [(2, .int 0), (1, .int (-9)), (0, .ref (ad 47))] dX5_changed_19 rfl (by decide) rfl ?_
    exact g_sub [2, 1, 0] rfl (wX5_changed_L20 ad n n (-9) 0 m3)
  · refine g_iconst (pc := 7) 0 dX5_changed_7 (by decide) ?_
    exact g_ireturn (pc := 8) dX5_changed_8 rfl)
-- StopsByLettersModel.divisor(JJ)J
abbrev kX5_divisor : Cfg := (RX5, cX5_divisor, 10, (some .long), 0)
theorem dX5_divisor_0 : decode cX5_divisor 0 = .ok (.lload_n 0, 1) := by decide +kernel
theorem dX5_divisor_1 : decode cX5_divisor 1 = .ok (.lstore 4, 2) := by decide +kernel
theorem dX5_divisor_3 : decode cX5_divisor 3 = .ok (.lload_n 2, 1) := by decide +kernel
theorem dX5_divisor_4 : decode cX5_divisor 4 = .ok (.lstore 6, 2) := by decide +kernel
theorem dX5_divisor_6 : decode cX5_divisor 6 = .ok (.lload 6, 2) := by decide +kernel
theorem dX5_divisor_8 : decode cX5_divisor 8 = .ok (.lconst 0, 1) := by decide +kernel
theorem dX5_divisor_9 : decode cX5_divisor 9 = .ok (.lcmp, 1) := by decide +kernel
theorem dX5_divisor_10 : decode cX5_divisor 10 = .ok (.ifCond .eq 21, 3) := by decide +kernel
theorem dX5_divisor_13 : decode cX5_divisor 13 = .ok (.lload 4, 2) := by decide +kernel
theorem dX5_divisor_15 : decode cX5_divisor 15 = .ok (.lload 6, 2) := by decide +kernel
theorem dX5_divisor_17 : decode cX5_divisor 17 = .ok (.lrem, 1) := by decide +kernel
theorem dX5_divisor_18 : decode cX5_divisor 18 = .ok (.lstore 8, 2) := by decide +kernel
theorem dX5_divisor_20 : decode cX5_divisor 20 = .ok (.lload 6, 2) := by decide +kernel
theorem dX5_divisor_22 : decode cX5_divisor 22 = .ok (.lstore 4, 2) := by decide +kernel
theorem dX5_divisor_24 : decode cX5_divisor 24 = .ok (.lload 8, 2) := by decide +kernel
theorem dX5_divisor_26 : decode cX5_divisor 26 = .ok (.lstore 6, 2) := by decide +kernel
theorem dX5_divisor_28 : decode cX5_divisor 28 = .ok (.goto (-22), 3) := by decide +kernel
theorem dX5_divisor_31 : decode cX5_divisor 31 = .ok (.lload 4, 2) := by decide +kernel
theorem dX5_divisor_33 : decode cX5_divisor 33 = .ok (.lreturn, 1) := by decide +kernel
def fX5_divisor_L6 (n : Nat) : Nat → Int64 → Int64 → Mem → Option (Int64 × Mem)
  | 0, _, _, _ => none
  | F + 1, v4, v6, μ => if (lg_cmp v6 0) = 0 then some (v4, μ) else gd (nzL v6) (bnd (jremL v4 v6) (fun x1 => fX5_divisor_L6 n F v6 x1 μ))
def fX5_divisor (n : Nat) (a0 : Int64) (a2 : Int64) (μ : Mem) : Option (Int64 × Mem) :=
  fX5_divisor_L6 n n a0 a2 μ
set_option maxHeartbeats 4000000 in
set_option maxRecDepth 100000 in
theorem wX5_divisor_L6 (ad : Nat → Nat) (n : Nat) : ∀ (F : Nat) (v4 : Int64) (v6 : Int64) (μ : Mem), G kX5_divisor ad encJ 6 [(4, .long v4), (6, .long v6)] [] μ (fX5_divisor_L6 n F v4 v6 μ) := by
  intro F
  induction F with
  | zero =>
    intro v4 v6 μ
    exact g_none
  | succ F ih =>
    intro v4 v6 μ
    rw [fX5_divisor_L6]
    refine g_lload (pc := 6) 1 dX5_divisor_6 rfl ?_
    refine g_lconst (pc := 8) 0 dX5_divisor_8 (by decide) ?_
    refine g_lcmp (pc := 9) dX5_divisor_9 ?_
    refine g_if_eq (pc := 10) 31 dX5_divisor_10 rfl ?_ ?_
    · refine g_lload (pc := 31) 0 dX5_divisor_31 rfl ?_
      exact g_lreturn (pc := 33) dX5_divisor_33 rfl
    · refine g_lload (pc := 13) 0 dX5_divisor_13 rfl ?_
      refine g_lload (pc := 15) 1 dX5_divisor_15 rfl ?_
      refine g_lremG (pc := 17) dX5_divisor_17 ?_
      refine g_lstoreB (pc := 18) (fun x1 => [(8, .long x1), (4, .long v4), (6, .long v6)]) dX5_divisor_18 (by decide) (fun _ => rfl) (fun x1 => ?_)
      refine g_lload (pc := 20) 2 dX5_divisor_20 rfl ?_
      refine g_lstore (pc := 22) [(4, .long v6), (8, .long x1), (6, .long v6)] dX5_divisor_22 (by decide) rfl ?_
      refine g_lload (pc := 24) 1 dX5_divisor_24 rfl ?_
      refine g_lstore (pc := 26) [(6, .long x1), (4, .long v6), (8, .long x1)] dX5_divisor_26 (by decide) rfl ?_
      refine g_goto (pc := 28) 6 dX5_divisor_28 rfl ?_
      exact g_sub [1, 0] rfl (ih v6 x1 μ)
set_option maxHeartbeats 4000000 in
set_option maxRecDepth 100000 in
theorem ctX5_divisor (ad : Nat → Nat) (n : Nat) (a0 : Int64) (a2 : Int64) (μ : Mem) : Ct yX5_divisor kX5_divisor ad encJ [.long a0, .long a2] μ (fX5_divisor n a0 a2 μ) := Ct.of (by decide +kernel) rfl (Nat.le_of_ble_eq_true rfl) (by
  show G kX5_divisor ad encJ 0 [(0, .long a0), (2, .long a2)] [] μ (fX5_divisor n a0 a2 μ)
  unfold fX5_divisor
  refine g_lload_n (pc := 0) 0 dX5_divisor_0 rfl rfl ?_
  refine g_lstore (pc := 1) [(4, .long a0), (0, .long a0), (2, .long a2)] dX5_divisor_1 (by decide) rfl ?_
  refine g_lload_n (pc := 3) 2 dX5_divisor_3 rfl rfl ?_
  refine g_lstore (pc := 4) [(6, .long a2), (4, .long a0), (0, .long a0), (2, .long a2)] dX5_divisor_4 (by decide) rfl ?_
  exact g_sub [1, 0] rfl (wX5_divisor_L6 ad n n a0 a2 μ))
-- StopsByLettersModel.luck(IIII)J
abbrev kX5_luck : Cfg := (RX5, cX5_luck, 10, (some .long), 5)
theorem dX5_luck_0 : decode cX5_luck 0 = .ok (.aload_n 0, 1) := by decide +kernel
theorem dX5_luck_1 : decode cX5_luck 1 = .ok (.iload_n 1, 1) := by decide +kernel
theorem dX5_luck_2 : decode cX5_luck 2 = .ok (.invokevirtual 100, 3) := by decide +kernel
theorem dX5_luck_5 : decode cX5_luck 5 = .ok (.ifCond .eq 11, 3) := by decide +kernel
theorem dX5_luck_8 : decode cX5_luck 8 = .ok (.aload_n 0, 1) := by decide +kernel
theorem dX5_luck_9 : decode cX5_luck 9 = .ok (.iload_n 2, 1) := by decide +kernel
theorem dX5_luck_10 : decode cX5_luck 10 = .ok (.invokevirtual 100, 3) := by decide +kernel
theorem dX5_luck_13 : decode cX5_luck 13 = .ok (.ifCond .ne 9, 3) := by decide +kernel
theorem dX5_luck_16 : decode cX5_luck 16 = .ok (.aload_n 0, 1) := by decide +kernel
theorem dX5_luck_17 : decode cX5_luck 17 = .ok (.iconst (-1), 1) := by decide +kernel
theorem dX5_luck_18 : decode cX5_luck 18 = .ok (.invokevirtual 157, 3) := by decide +kernel
theorem dX5_luck_21 : decode cX5_luck 21 = .ok (.lreturn, 1) := by decide +kernel
theorem dX5_luck_22 : decode cX5_luck 22 = .ok (.iload_n 3, 1) := by decide +kernel
theorem dX5_luck_23 : decode cX5_luck 23 = .ok (.iconst 0, 1) := by decide +kernel
theorem dX5_luck_24 : decode cX5_luck 24 = .ok (.bipush 8, 2) := by decide +kernel
theorem dX5_luck_26 : decode cX5_luck 26 = .ok (.invokestatic 60, 3) := by decide +kernel
theorem dX5_luck_29 : decode cX5_luck 29 = .ok (.istore 5, 2) := by decide +kernel
theorem dX5_luck_31 : decode cX5_luck 31 = .ok (.iload 5, 2) := by decide +kernel
theorem dX5_luck_33 : decode cX5_luck 33 = .ok (.ifCond .ne 17, 3) := by decide +kernel
theorem dX5_luck_36 : decode cX5_luck 36 = .ok (.iload 4, 2) := by decide +kernel
theorem dX5_luck_38 : decode cX5_luck 38 = .ok (.iconst 0, 1) := by decide +kernel
theorem dX5_luck_39 : decode cX5_luck 39 = .ok (.iconst 1, 1) := by decide +kernel
theorem dX5_luck_40 : decode cX5_luck 40 = .ok (.invokestatic 81, 3) := by decide +kernel
theorem dX5_luck_43 : decode cX5_luck 43 = .ok (.ifCond .ne 7, 3) := by decide +kernel
theorem dX5_luck_46 : decode cX5_luck 46 = .ok (.bipush (-2), 2) := by decide +kernel
theorem dX5_luck_48 : decode cX5_luck 48 = .ok (.istore 5, 2) := by decide +kernel
theorem dX5_luck_50 : decode cX5_luck 50 = .ok (.iload 5, 2) := by decide +kernel
theorem dX5_luck_52 : decode cX5_luck 52 = .ok (.ifCond .eq 10, 3) := by decide +kernel
theorem dX5_luck_55 : decode cX5_luck 55 = .ok (.aload_n 0, 1) := by decide +kernel
theorem dX5_luck_56 : decode cX5_luck 56 = .ok (.iload 5, 2) := by decide +kernel
theorem dX5_luck_58 : decode cX5_luck 58 = .ok (.invokevirtual 157, 3) := by decide +kernel
theorem dX5_luck_61 : decode cX5_luck 61 = .ok (.lreturn, 1) := by decide +kernel
theorem dX5_luck_62 : decode cX5_luck 62 = .ok (.aload_n 0, 1) := by decide +kernel
theorem dX5_luck_63 : decode cX5_luck 63 = .ok (.iload_n 1, 1) := by decide +kernel
theorem dX5_luck_64 : decode cX5_luck 64 = .ok (.invokevirtual 161, 3) := by decide +kernel
theorem dX5_luck_67 : decode cX5_luck 67 = .ok (.iconst 0, 1) := by decide +kernel
theorem dX5_luck_68 : decode cX5_luck 68 = .ok (.istore 6, 2) := by decide +kernel
theorem dX5_luck_70 : decode cX5_luck 70 = .ok (.iload 6, 2) := by decide +kernel
theorem dX5_luck_72 : decode cX5_luck 72 = .ok (.iload_n 3, 1) := by decide +kernel
theorem dX5_luck_73 : decode cX5_luck 73 = .ok (.if_icmp .ge 14, 3) := by decide +kernel
theorem dX5_luck_76 : decode cX5_luck 76 = .ok (.aload_n 0, 1) := by decide +kernel
theorem dX5_luck_77 : decode cX5_luck 77 = .ok (.iconst 1, 1) := by decide +kernel
theorem dX5_luck_78 : decode cX5_luck 78 = .ok (.invokevirtual 165, 3) := by decide +kernel
theorem dX5_luck_81 : decode cX5_luck 81 = .ok (.iinc 6 1, 3) := by decide +kernel
theorem dX5_luck_84 : decode cX5_luck 84 = .ok (.goto (-14), 3) := by decide +kernel
theorem dX5_luck_87 : decode cX5_luck 87 = .ok (.aload_n 0, 1) := by decide +kernel
theorem dX5_luck_88 : decode cX5_luck 88 = .ok (.getfield 43, 3) := by decide +kernel
theorem dX5_luck_91 : decode cX5_luck 91 = .ok (.iload_n 2, 1) := by decide +kernel
theorem dX5_luck_92 : decode cX5_luck 92 = .ok (.laload, 1) := by decide +kernel
theorem dX5_luck_93 : decode cX5_luck 93 = .ok (.lstore 6, 2) := by decide +kernel
theorem dX5_luck_95 : decode cX5_luck 95 = .ok (.lconst 1, 1) := by decide +kernel
theorem dX5_luck_96 : decode cX5_luck 96 = .ok (.iload_n 3, 1) := by decide +kernel
theorem dX5_luck_97 : decode cX5_luck 97 = .ok (.lshl, 1) := by decide +kernel
theorem dX5_luck_98 : decode cX5_luck 98 = .ok (.lstore 8, 2) := by decide +kernel
theorem dX5_luck_100 : decode cX5_luck 100 = .ok (.iload 4, 2) := by decide +kernel
theorem dX5_luck_102 : decode cX5_luck 102 = .ok (.ifCond .ne 8, 3) := by decide +kernel
theorem dX5_luck_105 : decode cX5_luck 105 = .ok (.lload 6, 2) := by decide +kernel
theorem dX5_luck_107 : decode cX5_luck 107 = .ok (.goto 5, 3) := by decide +kernel
theorem dX5_luck_110 : decode cX5_luck 110 = .ok (.lload 8, 2) := by decide +kernel
theorem dX5_luck_112 : decode cX5_luck 112 = .ok (.lload 6, 2) := by decide +kernel
theorem dX5_luck_114 : decode cX5_luck 114 = .ok (.lload 8, 2) := by decide +kernel
theorem dX5_luck_116 : decode cX5_luck 116 = .ok (.invokestatic 188, 3) := by decide +kernel
theorem dX5_luck_119 : decode cX5_luck 119 = .ok (.ldiv, 1) := by decide +kernel
theorem dX5_luck_120 : decode cX5_luck 120 = .ok (.lreturn, 1) := by decide +kernel
def fX5_luck_L70 (n : Nat) (v2 : Int32) (v3 : Int32) (v4 : Int32) (K1 : Mem → Option (Int64 × Mem)) : Nat → Int32 → Mem → Option (Int64 × Mem)
  | 0, _, _ => none
  | F + 1, v6, μ => if v3 ≤ v6 then K1 μ else bd (fX5_goesWays n 1 μ) (fun r15 m14 => bnd (v6 + 1) (fun x16 => fX5_luck_L70 n v2 v3 v4 K1 F x16 m14))
theorem lnX5_188 : Ln RX5 188 yX5_divisor := Or.inl (tb_in 964 (by decide +kernel) rfl)
theorem moX5_divisor : Ms yX5_divisor kX5_divisor 2 := ⟨⟨tb_in 966 (by decide +kernel) rfl, tb_in 92 (by decide +kernel) rfl, ⟨by decide, by decide⟩, by decide +kernel⟩, tb_in 965 (by decide +kernel) rfl⟩
def fX5_luck (n : Nat) (a1 : Int32) (a2 : Int32) (a3 : Int32) (a4 : Int32) (μ : Mem) : Option (Int64 × Mem) :=
  bd (fX5_isStation n a1 μ) (fun r2 m1 => if r2 = 0 then bd (fX5_lowest n (-1) m1) (fun r4 m3 => some (r4, m3)) else bd (fX5_isStation n a2 m1) (fun r6 m5 => if r6 = 0 then bd (fX5_lowest n (-1) m5) (fun r29 m28 => some (r29, m28)) else bd (fX5_bound n a3 0 8 m5) (fun r8 m7 => bnd (fun (x10 : Int32) (m11 : Mem) => if x10 = 0 then bd (fX5_beginsAt n a1 m11) (fun r13 m12 => fX5_luck_L70 n a2 a3 a4 (fun (m17 : Mem) => gd (inb a2 9) (bnd (m17.2 59 (Int32.toNatClampNeg a2)) (fun x18 => bnd (jlshl 1 a3) (fun x19 => if a4 = 0 then bd (fX5_divisor n x18 x19 m17) (fun r23 m22 => gd (nzL r23) (some ((x18 / r23), m22))) else bd (fX5_divisor n x18 x19 m17) (fun r21 m20 => gd (nzL r21) (some ((x19 / r21), m20))))))) n 0 m12) else bd (fX5_lowest n x10 m11) (fun r25 m24 => some (r25, m24))) (fun kb9 => if r8 = 0 then bd (fX5_isIn n a4 0 1 m7) (fun r27 m26 => if r27 = 0 then kb9 (-2) m26 else kb9 r8 m26) else kb9 r8 m7))))
set_option maxHeartbeats 4000000 in
set_option maxRecDepth 100000 in
theorem wX5_luck_L70 (ad : Nat → Nat) (n : Nat) (v2 : Int32) (v3 : Int32) (v4 : Int32) (K1 : Mem → Option (Int64 × Mem)) (hK1 : ∀ (μ : Mem), G kX5_luck ad encJ 87 [(0, .ref (ad 47)), (2, .int v2), (3, .int v3), (4, .int v4)] [] μ (K1 μ)) : ∀ (F : Nat) (v6 : Int32) (μ : Mem), G kX5_luck ad encJ 70 [(0, .ref (ad 47)), (2, .int v2), (3, .int v3), (4, .int v4), (6, .int v6)] [] μ (fX5_luck_L70 n v2 v3 v4 K1 F v6 μ) := by
  intro F
  induction F with
  | zero =>
    intro v6 μ
    exact g_none
  | succ F ih =>
    intro v6 μ
    rw [fX5_luck_L70]
    refine g_iload (pc := 70) 4 dX5_luck_70 rfl ?_
    refine g_iload_n (pc := 72) 2 dX5_luck_72 rfl rfl ?_
    refine g_icmp_ge (pc := 73) 87 dX5_luck_73 rfl ?_ ?_
    · exact g_sub [0, 1, 2, 3] rfl (hK1 μ)
    · refine g_aload_n (pc := 76) 0 dX5_luck_76 rfl rfl ?_
      refine g_iconst (pc := 77) 1 dX5_luck_77 (by decide) ?_
      refine g_cVV (pc := 78) (st := []) [.int 1] rfl rfl moX5_goesWays lnX5_165 (ctX5_goesWays ad n 1 μ) rfl ⟨Nat.le_of_ble_eq_true rfl, Nat.le_of_ble_eq_true rfl⟩ rfl (Nat.le_of_ble_eq_true rfl) dX5_luck_78 (fun r15 m14 => ?_)
      refine g_iincB (pc := 81) 4 1 1 (fun x16 => [(6, .int x16), (0, .ref (ad 47)), (2, .int v2), (3, .int v3), (4, .int v4)]) dX5_luck_81 rfl (by decide) (by decide) (fun _ => rfl) (fun x16 => ?_)
      refine g_goto (pc := 84) 70 dX5_luck_84 rfl ?_
      exact g_sub [1, 2, 3, 4, 0] rfl (ih x16 m14)
set_option maxHeartbeats 4000000 in
set_option maxRecDepth 100000 in
theorem ctX5_luck (ad : Nat → Nat) (n : Nat) (a1 : Int32) (a2 : Int32) (a3 : Int32) (a4 : Int32) (μ : Mem) : Ct yX5_luck kX5_luck ad encJ [.ref (ad 47), .int a1, .int a2, .int a3, .int a4] μ (fX5_luck n a1 a2 a3 a4 μ) := Ct.of (by decide +kernel) rfl (Nat.le_of_ble_eq_true rfl) (by
  show G kX5_luck ad encJ 0 [(0, .ref (ad 47)), (1, .int a1), (2, .int a2), (3, .int a3), (4, .int a4)] [] μ (fX5_luck n a1 a2 a3 a4 μ)
  unfold fX5_luck
  refine g_aload_n (pc := 0) 0 dX5_luck_0 rfl rfl ?_
  refine g_iload_n (pc := 1) 1 dX5_luck_1 rfl rfl ?_
  refine g_cVI (pc := 2) (st := []) [.int a1] rfl rfl moX5_isStation lnX5_100 (ctX5_isStation ad n a1 μ) rfl ⟨Nat.le_of_ble_eq_true rfl, Nat.le_of_ble_eq_true rfl⟩ rfl (Nat.le_of_ble_eq_true rfl) dX5_luck_2 (fun r2 m1 => ?_)
  refine g_if_eq (pc := 5) 16 dX5_luck_5 rfl ?_ ?_
  · refine g_aload_n (pc := 16) 0 dX5_luck_16 rfl rfl ?_
    refine g_iconst (pc := 17) (-1) dX5_luck_17 (by decide) ?_
    refine g_cVJ (pc := 18) (st := []) [.int (-1)] rfl rfl moX5_lowest lnX5_157 (ctX5_lowest ad n (-1) m1) rfl ⟨Nat.le_of_ble_eq_true rfl, Nat.le_of_ble_eq_true rfl⟩ rfl (Nat.le_of_ble_eq_true rfl) dX5_luck_18 (fun r4 m3 => ?_)
    exact g_lreturn (pc := 21) dX5_luck_21 rfl
  · refine g_aload_n (pc := 8) 0 dX5_luck_8 rfl rfl ?_
    refine g_iload_n (pc := 9) 2 dX5_luck_9 rfl rfl ?_
    refine g_cVI (pc := 10) (st := []) [.int a2] rfl rfl moX5_isStation lnX5_100 (ctX5_isStation ad n a2 m1) rfl ⟨Nat.le_of_ble_eq_true rfl, Nat.le_of_ble_eq_true rfl⟩ rfl (Nat.le_of_ble_eq_true rfl) dX5_luck_10 (fun r6 m5 => ?_)
    refine g_if_ne (pc := 13) 22 dX5_luck_13 rfl ?_ ?_
    · refine g_iload_n (pc := 22) 3 dX5_luck_22 rfl rfl ?_
      refine g_iconst (pc := 23) 0 dX5_luck_23 (by decide) ?_
      refine g_bipush (pc := 24) 8 dX5_luck_24 (by decide) ?_
      refine g_cSI (pc := 26) (st := []) [.int a3, .int 0, .int 8] moX5_bound lnX5_60 (ctX5_bound ad n a3 0 8 m5) rfl ⟨Nat.le_of_ble_eq_true rfl, Nat.le_of_ble_eq_true rfl⟩ rfl (Nat.le_of_ble_eq_true rfl) dX5_luck_26 (fun r8 m7 => ?_)
      refine g_istore (pc := 29) [(5, .int r8), (0, .ref (ad 47)), (1, .int a1), (2, .int a2), (3, .int a3), (4, .int a4)] dX5_luck_29 (by decide) rfl ?_
      refine g_iload (pc := 31) 0 dX5_luck_31 rfl ?_
      refine g_join (fun kb => ∀ (x10 : Int32) (m11 : Mem), G kX5_luck ad encJ 50 [(0, .ref (ad 47)), (1, .int a1), (2, .int a2), (3, .int a3), (4, .int a4), (5, .int x10)] [] m11 (kb x10 m11)) (fun x10 m11 => ?_) (fun kb9 hkb9 => ?_)
      · refine g_iload (pc := 50) 5 dX5_luck_50 rfl ?_
        refine g_if_eq (pc := 52) 62 dX5_luck_52 rfl ?_ ?_
        · refine g_aload_n (pc := 62) 0 dX5_luck_62 rfl rfl ?_
          refine g_iload_n (pc := 63) 1 dX5_luck_63 rfl rfl ?_
          refine g_cVV (pc := 64) (st := []) [.int a1] rfl rfl moX5_beginsAt lnX5_161 (ctX5_beginsAt ad n a1 m11) rfl ⟨Nat.le_of_ble_eq_true rfl, Nat.le_of_ble_eq_true rfl⟩ rfl (Nat.le_of_ble_eq_true rfl) dX5_luck_64 (fun r13 m12 => ?_)
          refine g_iconst (pc := 67) 0 dX5_luck_67 (by decide) ?_
          refine g_istore (pc := 68) [(6, .int 0), (0, .ref (ad 47)), (1, .int a1), (2, .int a2), (3, .int a3), (4, .int a4), (5, .int x10)] dX5_luck_68 (by decide) rfl ?_
          refine g_sub [1, 3, 4, 5, 0] rfl (wX5_luck_L70 ad n a2 a3 a4 _ (fun m17 => ?_) n 0 m12)
          refine g_aload_n (pc := 87) 0 dX5_luck_87 rfl rfl ?_
          refine g_get (pc := 88) rfl foX5_43 (v := .ref (ad 59)) rfl dX5_luck_88 ?_
          refine g_iload_n (pc := 91) 1 dX5_luck_91 rfl rfl ?_
          refine g_lald (pc := 92) rfl dX5_luck_92 ?_
          refine g_lstoreB (pc := 93) (fun x18 => [(6, .long x18), (0, .ref (ad 47)), (2, .int a2), (3, .int a3), (4, .int a4)]) dX5_luck_93 (by decide) (fun _ => rfl) (fun x18 => ?_)
          refine g_lconst (pc := 95) 1 dX5_luck_95 (by decide) ?_
          refine g_iload_n (pc := 96) 3 dX5_luck_96 rfl rfl ?_
          refine g_lshl' (pc := 97) dX5_luck_97 ?_
          refine g_lstoreB (pc := 98) (fun x19 => [(8, .long x19), (6, .long x18), (0, .ref (ad 47)), (2, .int a2), (3, .int a3), (4, .int a4)]) dX5_luck_98 (by decide) (fun _ => rfl) (fun x19 => ?_)
          refine g_iload (pc := 100) 5 dX5_luck_100 rfl ?_
          refine g_if_ne (pc := 102) 110 dX5_luck_102 rfl ?_ ?_
          · refine g_lload (pc := 110) 0 dX5_luck_110 rfl ?_
            refine g_lload (pc := 112) 1 dX5_luck_112 rfl ?_
            refine g_lload (pc := 114) 0 dX5_luck_114 rfl ?_
            refine g_cSJ (pc := 116) (st := [.long x19]) [.long x18, .long x19] moX5_divisor lnX5_188 (ctX5_divisor ad n x18 x19 m17) rfl ⟨Nat.le_of_ble_eq_true rfl, Nat.le_of_ble_eq_true rfl⟩ rfl (Nat.le_of_ble_eq_true rfl) dX5_luck_116 (fun r21 m20 => ?_)
            refine g_ldivG (pc := 119) dX5_luck_119 ?_
            exact g_lreturn (pc := 120) dX5_luck_120 rfl
          · refine g_lload (pc := 105) 1 dX5_luck_105 rfl ?_
            refine g_goto (pc := 107) 112 dX5_luck_107 rfl ?_
            refine g_lload (pc := 112) 1 dX5_luck_112 rfl ?_
            refine g_lload (pc := 114) 0 dX5_luck_114 rfl ?_
            refine g_cSJ (pc := 116) (st := [.long x18]) [.long x18, .long x19] moX5_divisor lnX5_188 (ctX5_divisor ad n x18 x19 m17) rfl ⟨Nat.le_of_ble_eq_true rfl, Nat.le_of_ble_eq_true rfl⟩ rfl (Nat.le_of_ble_eq_true rfl) dX5_luck_116 (fun r23 m22 => ?_)
            refine g_ldivG (pc := 119) dX5_luck_119 ?_
            exact g_lreturn (pc := 120) dX5_luck_120 rfl
        · refine g_aload_n (pc := 55) 0 dX5_luck_55 rfl rfl ?_
          refine g_iload (pc := 56) 5 dX5_luck_56 rfl ?_
          refine g_cVJ (pc := 58) (st := []) [.int x10] rfl rfl moX5_lowest lnX5_157 (ctX5_lowest ad n x10 m11) rfl ⟨Nat.le_of_ble_eq_true rfl, Nat.le_of_ble_eq_true rfl⟩ rfl (Nat.le_of_ble_eq_true rfl) dX5_luck_58 (fun r25 m24 => ?_)
          exact g_lreturn (pc := 61) dX5_luck_61 rfl
      ·
        refine g_if_ne (pc := 33) 50 dX5_luck_33 rfl ?_ ?_
        · exact g_sub [1, 2, 3, 4, 5, 0] rfl (hkb9 r8 m7)
        · refine g_iload (pc := 36) 5 dX5_luck_36 rfl ?_
          refine g_iconst (pc := 38) 0 dX5_luck_38 (by decide) ?_
          refine g_iconst (pc := 39) 1 dX5_luck_39 (by decide) ?_
          refine g_cSI (pc := 40) (st := []) [.int a4, .int 0, .int 1] moX5_isIn lnX5_81 (ctX5_isIn ad n a4 0 1 m7) rfl ⟨Nat.le_of_ble_eq_true rfl, Nat.le_of_ble_eq_true rfl⟩ rfl (Nat.le_of_ble_eq_true rfl) dX5_luck_40 (fun r27 m26 => ?_)
          refine g_if_ne (pc := 43) 50 dX5_luck_43 rfl ?_ ?_
          · exact g_sub [1, 2, 3, 4, 5, 0] rfl (hkb9 r8 m26)
          · refine g_bipush (pc := 46) (-2) dX5_luck_46 (by decide) ?_
            refine g_istore (pc := 48) [(5, .int (-2)), (0, .ref (ad 47)), (1, .int a1), (2, .int a2), (3, .int a3), (4, .int a4)] dX5_luck_48 (by decide) rfl ?_
            exact g_sub [1, 2, 3, 4, 5, 0] rfl (hkb9 (-2) m26)
    · refine g_aload_n (pc := 16) 0 dX5_luck_16 rfl rfl ?_
      refine g_iconst (pc := 17) (-1) dX5_luck_17 (by decide) ?_
      refine g_cVJ (pc := 18) (st := []) [.int (-1)] rfl rfl moX5_lowest lnX5_157 (ctX5_lowest ad n (-1) m5) rfl ⟨Nat.le_of_ble_eq_true rfl, Nat.le_of_ble_eq_true rfl⟩ rfl (Nat.le_of_ble_eq_true rfl) dX5_luck_18 (fun r29 m28 => ?_)
      exact g_lreturn (pc := 21) dX5_luck_21 rfl)
-- StopsByLettersModel.copies(II)V
abbrev kX5_copies : Cfg := (RX5, cX5_copies, 4, none, 0)
theorem dX5_copies_0 : decode cX5_copies 0 = .ok (.aload_n 0, 1) := by decide +kernel
theorem dX5_copies_1 : decode cX5_copies 1 = .ok (.getfield 16, 3) := by decide +kernel
theorem dX5_copies_4 : decode cX5_copies 4 = .ok (.iload_n 1, 1) := by decide +kernel
theorem dX5_copies_5 : decode cX5_copies 5 = .ok (.aload_n 0, 1) := by decide +kernel
theorem dX5_copies_6 : decode cX5_copies 6 = .ok (.getfield 16, 3) := by decide +kernel
theorem dX5_copies_9 : decode cX5_copies 9 = .ok (.iload_n 2, 1) := by decide +kernel
theorem dX5_copies_10 : decode cX5_copies 10 = .ok (.iaload, 1) := by decide +kernel
theorem dX5_copies_11 : decode cX5_copies 11 = .ok (.iastore, 1) := by decide +kernel
theorem dX5_copies_12 : decode cX5_copies 12 = .ok (.aload_n 0, 1) := by decide +kernel
theorem dX5_copies_13 : decode cX5_copies 13 = .ok (.getfield 19, 3) := by decide +kernel
theorem dX5_copies_16 : decode cX5_copies 16 = .ok (.iload_n 1, 1) := by decide +kernel
theorem dX5_copies_17 : decode cX5_copies 17 = .ok (.aload_n 0, 1) := by decide +kernel
theorem dX5_copies_18 : decode cX5_copies 18 = .ok (.getfield 19, 3) := by decide +kernel
theorem dX5_copies_21 : decode cX5_copies 21 = .ok (.iload_n 2, 1) := by decide +kernel
theorem dX5_copies_22 : decode cX5_copies 22 = .ok (.iaload, 1) := by decide +kernel
theorem dX5_copies_23 : decode cX5_copies 23 = .ok (.iastore, 1) := by decide +kernel
theorem dX5_copies_24 : decode cX5_copies 24 = .ok (.iconst 0, 1) := by decide +kernel
theorem dX5_copies_25 : decode cX5_copies 25 = .ok (.istore_n 3, 1) := by decide +kernel
theorem dX5_copies_26 : decode cX5_copies 26 = .ok (.iload_n 3, 1) := by decide +kernel
theorem dX5_copies_27 : decode cX5_copies 27 = .ok (.bipush 10, 2) := by decide +kernel
theorem dX5_copies_29 : decode cX5_copies 29 = .ok (.if_icmp .ge 31, 3) := by decide +kernel
theorem dX5_copies_32 : decode cX5_copies 32 = .ok (.aload_n 0, 1) := by decide +kernel
theorem dX5_copies_33 : decode cX5_copies 33 = .ok (.getfield 13, 3) := by decide +kernel
theorem dX5_copies_36 : decode cX5_copies 36 = .ok (.bipush 10, 2) := by decide +kernel
theorem dX5_copies_38 : decode cX5_copies 38 = .ok (.iload_n 1, 1) := by decide +kernel
theorem dX5_copies_39 : decode cX5_copies 39 = .ok (.imul, 1) := by decide +kernel
theorem dX5_copies_40 : decode cX5_copies 40 = .ok (.iload_n 3, 1) := by decide +kernel
theorem dX5_copies_41 : decode cX5_copies 41 = .ok (.iadd, 1) := by decide +kernel
theorem dX5_copies_42 : decode cX5_copies 42 = .ok (.aload_n 0, 1) := by decide +kernel
theorem dX5_copies_43 : decode cX5_copies 43 = .ok (.getfield 13, 3) := by decide +kernel
theorem dX5_copies_46 : decode cX5_copies 46 = .ok (.bipush 10, 2) := by decide +kernel
theorem dX5_copies_48 : decode cX5_copies 48 = .ok (.iload_n 2, 1) := by decide +kernel
theorem dX5_copies_49 : decode cX5_copies 49 = .ok (.imul, 1) := by decide +kernel
theorem dX5_copies_50 : decode cX5_copies 50 = .ok (.iload_n 3, 1) := by decide +kernel
theorem dX5_copies_51 : decode cX5_copies 51 = .ok (.iadd, 1) := by decide +kernel
theorem dX5_copies_52 : decode cX5_copies 52 = .ok (.iaload, 1) := by decide +kernel
theorem dX5_copies_53 : decode cX5_copies 53 = .ok (.iastore, 1) := by decide +kernel
theorem dX5_copies_54 : decode cX5_copies 54 = .ok (.iinc 3 1, 3) := by decide +kernel
theorem dX5_copies_57 : decode cX5_copies 57 = .ok (.goto (-31), 3) := by decide +kernel
theorem dX5_copies_60 : decode cX5_copies 60 = .ok (.return_, 1) := by decide +kernel
def fX5_copies_L26 (n : Nat) (v1 : Int32) (v2 : Int32) : Nat → Int32 → Mem → Option (Unit × Mem)
  | 0, _, _ => none
  | F + 1, v3, μ => if 10 ≤ v3 then some ((), μ) else gd (inb ((10 * v2) + v3) 90) (gd (inb ((10 * v1) + v3) 90) (bnd (setI μ 49 (Int32.toNatClampNeg ((10 * v1) + v3)) (μ.1 49 (Int32.toNatClampNeg ((10 * v2) + v3)))) (fun m3 => bnd (v3 + 1) (fun x4 => fX5_copies_L26 n v1 v2 F x4 m3))))
def fX5_copies (n : Nat) (a1 : Int32) (a2 : Int32) (μ : Mem) : Option (Unit × Mem) :=
  gd (inb a2 9) (gd (inb a1 9) (bnd (setI μ 50 (Int32.toNatClampNeg a1) (μ.1 50 (Int32.toNatClampNeg a2))) (fun m1 => gd (inb a2 9) (gd (inb a1 9) (bnd (setI m1 51 (Int32.toNatClampNeg a1) (m1.1 51 (Int32.toNatClampNeg a2))) (fun m2 => fX5_copies_L26 n a1 a2 n 0 m2))))))
set_option maxHeartbeats 4000000 in
set_option maxRecDepth 100000 in
theorem wX5_copies_L26 (ad : Nat → Nat) (n : Nat) (v1 : Int32) (v2 : Int32) : ∀ (F : Nat) (v3 : Int32) (μ : Mem), G kX5_copies ad encV 26 [(0, .ref (ad 47)), (1, .int v1), (2, .int v2), (3, .int v3)] [] μ (fX5_copies_L26 n v1 v2 F v3 μ) := by
  intro F
  induction F with
  | zero =>
    intro v3 μ
    exact g_none
  | succ F ih =>
    intro v3 μ
    rw [fX5_copies_L26]
    refine g_iload_n (pc := 26) 3 dX5_copies_26 rfl rfl ?_
    refine g_bipush (pc := 27) 10 dX5_copies_27 (by decide) ?_
    refine g_icmp_ge (pc := 29) 60 dX5_copies_29 rfl ?_ ?_
    · exact g_return (pc := 60) dX5_copies_60 rfl
    · refine g_aload_n (pc := 32) 0 dX5_copies_32 rfl rfl ?_
      refine g_get (pc := 33) rfl foX5_13 (v := .ref (ad 49)) rfl dX5_copies_33 ?_
      refine g_bipush (pc := 36) 10 dX5_copies_36 (by decide) ?_
      refine g_iload_n (pc := 38) 1 dX5_copies_38 rfl rfl ?_
      refine g_imul (pc := 39) dX5_copies_39 ?_
      refine g_iload_n (pc := 40) 3 dX5_copies_40 rfl rfl ?_
      refine g_iadd (pc := 41) dX5_copies_41 ?_
      refine g_aload_n (pc := 42) 0 dX5_copies_42 rfl rfl ?_
      refine g_get (pc := 43) rfl foX5_13 (v := .ref (ad 49)) rfl dX5_copies_43 ?_
      refine g_bipush (pc := 46) 10 dX5_copies_46 (by decide) ?_
      refine g_iload_n (pc := 48) 2 dX5_copies_48 rfl rfl ?_
      refine g_imul (pc := 49) dX5_copies_49 ?_
      refine g_iload_n (pc := 50) 3 dX5_copies_50 rfl rfl ?_
      refine g_iadd (pc := 51) dX5_copies_51 ?_
      refine g_iald (pc := 52) rfl (by decide) dX5_copies_52 ?_
      refine g_iast (pc := 53) rfl (by decide) dX5_copies_53 (fun m3 => ?_)
      refine g_iincB (pc := 54) 3 1 1 (fun x4 => [(3, .int x4), (0, .ref (ad 47)), (1, .int v1), (2, .int v2)]) dX5_copies_54 rfl (by decide) (by decide) (fun _ => rfl) (fun x4 => ?_)
      refine g_goto (pc := 57) 26 dX5_copies_57 rfl ?_
      exact g_sub [1, 2, 3, 0] rfl (ih x4 m3)
set_option maxHeartbeats 4000000 in
set_option maxRecDepth 100000 in
theorem ctX5_copies (ad : Nat → Nat) (n : Nat) (a1 : Int32) (a2 : Int32) (μ : Mem) : Ct yX5_copies kX5_copies ad encV [.ref (ad 47), .int a1, .int a2] μ (fX5_copies n a1 a2 μ) := Ct.of (by decide +kernel) rfl (Nat.le_of_ble_eq_true rfl) (by
  show G kX5_copies ad encV 0 [(0, .ref (ad 47)), (1, .int a1), (2, .int a2)] [] μ (fX5_copies n a1 a2 μ)
  unfold fX5_copies
  refine g_aload_n (pc := 0) 0 dX5_copies_0 rfl rfl ?_
  refine g_get (pc := 1) rfl foX5_16 (v := .ref (ad 50)) rfl dX5_copies_1 ?_
  refine g_iload_n (pc := 4) 1 dX5_copies_4 rfl rfl ?_
  refine g_aload_n (pc := 5) 0 dX5_copies_5 rfl rfl ?_
  refine g_get (pc := 6) rfl foX5_16 (v := .ref (ad 50)) rfl dX5_copies_6 ?_
  refine g_iload_n (pc := 9) 2 dX5_copies_9 rfl rfl ?_
  refine g_iald (pc := 10) rfl (by decide) dX5_copies_10 ?_
  refine g_iast (pc := 11) rfl (by decide) dX5_copies_11 (fun m1 => ?_)
  refine g_aload_n (pc := 12) 0 dX5_copies_12 rfl rfl ?_
  refine g_get (pc := 13) rfl foX5_19 (v := .ref (ad 51)) rfl dX5_copies_13 ?_
  refine g_iload_n (pc := 16) 1 dX5_copies_16 rfl rfl ?_
  refine g_aload_n (pc := 17) 0 dX5_copies_17 rfl rfl ?_
  refine g_get (pc := 18) rfl foX5_19 (v := .ref (ad 51)) rfl dX5_copies_18 ?_
  refine g_iload_n (pc := 21) 2 dX5_copies_21 rfl rfl ?_
  refine g_iald (pc := 22) rfl (by decide) dX5_copies_22 ?_
  refine g_iast (pc := 23) rfl (by decide) dX5_copies_23 (fun m2 => ?_)
  refine g_iconst (pc := 24) 0 dX5_copies_24 (by decide) ?_
  refine g_istore_n (pc := 25) [(3, .int 0), (0, .ref (ad 47)), (1, .int a1), (2, .int a2)] dX5_copies_25 rfl (by decide) rfl ?_
  exact g_sub [1, 2, 3, 0] rfl (wX5_copies_L26 ad n a1 a2 n 0 m2))
-- StopsByLettersModel.isCalled(II)V
abbrev kX5_isCalled : Cfg := (RX5, cX5_isCalled, 4, none, 0)
theorem dX5_isCalled_0 : decode cX5_isCalled 0 = .ok (.aload_n 0, 1) := by decide +kernel
theorem dX5_isCalled_1 : decode cX5_isCalled 1 = .ok (.getfield 16, 3) := by decide +kernel
theorem dX5_isCalled_4 : decode cX5_isCalled 4 = .ok (.iload_n 1, 1) := by decide +kernel
theorem dX5_isCalled_5 : decode cX5_isCalled 5 = .ok (.iload_n 2, 1) := by decide +kernel
theorem dX5_isCalled_6 : decode cX5_isCalled 6 = .ok (.iastore, 1) := by decide +kernel
theorem dX5_isCalled_7 : decode cX5_isCalled 7 = .ok (.iconst 0, 1) := by decide +kernel
theorem dX5_isCalled_8 : decode cX5_isCalled 8 = .ok (.istore_n 3, 1) := by decide +kernel
theorem dX5_isCalled_9 : decode cX5_isCalled 9 = .ok (.iload_n 3, 1) := by decide +kernel
theorem dX5_isCalled_10 : decode cX5_isCalled 10 = .ok (.iload_n 2, 1) := by decide +kernel
theorem dX5_isCalled_11 : decode cX5_isCalled 11 = .ok (.if_icmp .ge 21, 3) := by decide +kernel
theorem dX5_isCalled_14 : decode cX5_isCalled 14 = .ok (.aload_n 0, 1) := by decide +kernel
theorem dX5_isCalled_15 : decode cX5_isCalled 15 = .ok (.getfield 13, 3) := by decide +kernel
theorem dX5_isCalled_18 : decode cX5_isCalled 18 = .ok (.bipush 10, 2) := by decide +kernel
theorem dX5_isCalled_20 : decode cX5_isCalled 20 = .ok (.iload_n 1, 1) := by decide +kernel
theorem dX5_isCalled_21 : decode cX5_isCalled 21 = .ok (.imul, 1) := by decide +kernel
theorem dX5_isCalled_22 : decode cX5_isCalled 22 = .ok (.iload_n 3, 1) := by decide +kernel
theorem dX5_isCalled_23 : decode cX5_isCalled 23 = .ok (.iadd, 1) := by decide +kernel
theorem dX5_isCalled_24 : decode cX5_isCalled 24 = .ok (.iconst 0, 1) := by decide +kernel
theorem dX5_isCalled_25 : decode cX5_isCalled 25 = .ok (.iastore, 1) := by decide +kernel
theorem dX5_isCalled_26 : decode cX5_isCalled 26 = .ok (.iinc 3 1, 3) := by decide +kernel
theorem dX5_isCalled_29 : decode cX5_isCalled 29 = .ok (.goto (-20), 3) := by decide +kernel
theorem dX5_isCalled_32 : decode cX5_isCalled 32 = .ok (.return_, 1) := by decide +kernel
def fX5_isCalled_L9 (n : Nat) (v1 : Int32) (v2 : Int32) : Nat → Int32 → Mem → Option (Unit × Mem)
  | 0, _, _ => none
  | F + 1, v3, μ => if v2 ≤ v3 then some ((), μ) else gd (inb ((10 * v1) + v3) 90) (bnd (setI μ 49 (Int32.toNatClampNeg ((10 * v1) + v3)) 0) (fun m2 => bnd (v3 + 1) (fun x3 => fX5_isCalled_L9 n v1 v2 F x3 m2)))
def fX5_isCalled (n : Nat) (a1 : Int32) (a2 : Int32) (μ : Mem) : Option (Unit × Mem) :=
  gd (inb a1 9) (bnd (setI μ 50 (Int32.toNatClampNeg a1) a2) (fun m1 => fX5_isCalled_L9 n a1 a2 n 0 m1))
set_option maxHeartbeats 4000000 in
set_option maxRecDepth 100000 in
theorem wX5_isCalled_L9 (ad : Nat → Nat) (n : Nat) (v1 : Int32) (v2 : Int32) : ∀ (F : Nat) (v3 : Int32) (μ : Mem), G kX5_isCalled ad encV 9 [(0, .ref (ad 47)), (1, .int v1), (2, .int v2), (3, .int v3)] [] μ (fX5_isCalled_L9 n v1 v2 F v3 μ) := by
  intro F
  induction F with
  | zero =>
    intro v3 μ
    exact g_none
  | succ F ih =>
    intro v3 μ
    rw [fX5_isCalled_L9]
    refine g_iload_n (pc := 9) 3 dX5_isCalled_9 rfl rfl ?_
    refine g_iload_n (pc := 10) 2 dX5_isCalled_10 rfl rfl ?_
    refine g_icmp_ge (pc := 11) 32 dX5_isCalled_11 rfl ?_ ?_
    · exact g_return (pc := 32) dX5_isCalled_32 rfl
    · refine g_aload_n (pc := 14) 0 dX5_isCalled_14 rfl rfl ?_
      refine g_get (pc := 15) rfl foX5_13 (v := .ref (ad 49)) rfl dX5_isCalled_15 ?_
      refine g_bipush (pc := 18) 10 dX5_isCalled_18 (by decide) ?_
      refine g_iload_n (pc := 20) 1 dX5_isCalled_20 rfl rfl ?_
      refine g_imul (pc := 21) dX5_isCalled_21 ?_
      refine g_iload_n (pc := 22) 3 dX5_isCalled_22 rfl rfl ?_
      refine g_iadd (pc := 23) dX5_isCalled_23 ?_
      refine g_iconst (pc := 24) 0 dX5_isCalled_24 (by decide) ?_
      refine g_iast (pc := 25) rfl (by decide) dX5_isCalled_25 (fun m2 => ?_)
      refine g_iincB (pc := 26) 3 1 1 (fun x3 => [(3, .int x3), (0, .ref (ad 47)), (1, .int v1), (2, .int v2)]) dX5_isCalled_26 rfl (by decide) (by decide) (fun _ => rfl) (fun x3 => ?_)
      refine g_goto (pc := 29) 9 dX5_isCalled_29 rfl ?_
      exact g_sub [1, 2, 3, 0] rfl (ih x3 m2)
set_option maxHeartbeats 4000000 in
set_option maxRecDepth 100000 in
theorem ctX5_isCalled (ad : Nat → Nat) (n : Nat) (a1 : Int32) (a2 : Int32) (μ : Mem) : Ct yX5_isCalled kX5_isCalled ad encV [.ref (ad 47), .int a1, .int a2] μ (fX5_isCalled n a1 a2 μ) := Ct.of (by decide +kernel) rfl (Nat.le_of_ble_eq_true rfl) (by
  show G kX5_isCalled ad encV 0 [(0, .ref (ad 47)), (1, .int a1), (2, .int a2)] [] μ (fX5_isCalled n a1 a2 μ)
  unfold fX5_isCalled
  refine g_aload_n (pc := 0) 0 dX5_isCalled_0 rfl rfl ?_
  refine g_get (pc := 1) rfl foX5_16 (v := .ref (ad 50)) rfl dX5_isCalled_1 ?_
  refine g_iload_n (pc := 4) 1 dX5_isCalled_4 rfl rfl ?_
  refine g_iload_n (pc := 5) 2 dX5_isCalled_5 rfl rfl ?_
  refine g_iast (pc := 6) rfl (by decide) dX5_isCalled_6 (fun m1 => ?_)
  refine g_iconst (pc := 7) 0 dX5_isCalled_7 (by decide) ?_
  refine g_istore_n (pc := 8) [(3, .int 0), (0, .ref (ad 47)), (1, .int a1), (2, .int a2)] dX5_isCalled_8 rfl (by decide) rfl ?_
  exact g_sub [1, 2, 3, 0] rfl (wX5_isCalled_L9 ad n a1 a2 n 0 m1))
-- StopsByLettersModel.putIn(II)I
abbrev kX5_putIn : Cfg := (RX5, cX5_putIn, 5, (some .int), 7)
theorem dX5_putIn_0 : decode cX5_putIn 0 = .ok (.aload_n 0, 1) := by decide +kernel
theorem dX5_putIn_1 : decode cX5_putIn 1 = .ok (.iload_n 1, 1) := by decide +kernel
theorem dX5_putIn_2 : decode cX5_putIn 2 = .ok (.invokevirtual 100, 3) := by decide +kernel
theorem dX5_putIn_5 : decode cX5_putIn 5 = .ok (.ifCond .ne 7, 3) := by decide +kernel
theorem dX5_putIn_8 : decode cX5_putIn 8 = .ok (.iconst (-1), 1) := by decide +kernel
theorem dX5_putIn_9 : decode cX5_putIn 9 = .ok (.goto 10, 3) := by decide +kernel
theorem dX5_putIn_12 : decode cX5_putIn 12 = .ok (.iload_n 2, 1) := by decide +kernel
theorem dX5_putIn_13 : decode cX5_putIn 13 = .ok (.iconst 1, 1) := by decide +kernel
theorem dX5_putIn_14 : decode cX5_putIn 14 = .ok (.bipush 9, 2) := by decide +kernel
theorem dX5_putIn_16 : decode cX5_putIn 16 = .ok (.invokestatic 60, 3) := by decide +kernel
theorem dX5_putIn_19 : decode cX5_putIn 19 = .ok (.istore_n 3, 1) := by decide +kernel
theorem dX5_putIn_20 : decode cX5_putIn 20 = .ok (.iload_n 3, 1) := by decide +kernel
theorem dX5_putIn_21 : decode cX5_putIn 21 = .ok (.ifCond .ne 15, 3) := by decide +kernel
theorem dX5_putIn_24 : decode cX5_putIn 24 = .ok (.aload_n 0, 1) := by decide +kernel
theorem dX5_putIn_25 : decode cX5_putIn 25 = .ok (.getfield 56, 3) := by decide +kernel
theorem dX5_putIn_28 : decode cX5_putIn 28 = .ok (.bipush 8, 2) := by decide +kernel
theorem dX5_putIn_30 : decode cX5_putIn 30 = .ok (.if_icmp .ne 6, 3) := by decide +kernel
theorem dX5_putIn_33 : decode cX5_putIn 33 = .ok (.bipush (-6), 2) := by decide +kernel
theorem dX5_putIn_35 : decode cX5_putIn 35 = .ok (.istore_n 3, 1) := by decide +kernel
theorem dX5_putIn_36 : decode cX5_putIn 36 = .ok (.iload_n 3, 1) := by decide +kernel
theorem dX5_putIn_37 : decode cX5_putIn 37 = .ok (.ifCond .eq 9, 3) := by decide +kernel
theorem dX5_putIn_40 : decode cX5_putIn 40 = .ok (.aload_n 0, 1) := by decide +kernel
theorem dX5_putIn_41 : decode cX5_putIn 41 = .ok (.iload_n 3, 1) := by decide +kernel
theorem dX5_putIn_42 : decode cX5_putIn 42 = .ok (.invokevirtual 67, 3) := by decide +kernel
theorem dX5_putIn_45 : decode cX5_putIn 45 = .ok (.ireturn, 1) := by decide +kernel
theorem dX5_putIn_46 : decode cX5_putIn 46 = .ok (.aload_n 0, 1) := by decide +kernel
theorem dX5_putIn_47 : decode cX5_putIn 47 = .ok (.iconst 1, 1) := by decide +kernel
theorem dX5_putIn_48 : decode cX5_putIn 48 = .ok (.iconst 1, 1) := by decide +kernel
theorem dX5_putIn_49 : decode cX5_putIn 49 = .ok (.invokevirtual 109, 3) := by decide +kernel
theorem dX5_putIn_52 : decode cX5_putIn 52 = .ok (.aload_n 0, 1) := by decide +kernel
theorem dX5_putIn_53 : decode cX5_putIn 53 = .ok (.getfield 56, 3) := by decide +kernel
theorem dX5_putIn_56 : decode cX5_putIn 56 = .ok (.istore 4, 2) := by decide +kernel
theorem dX5_putIn_58 : decode cX5_putIn 58 = .ok (.iload 4, 2) := by decide +kernel
theorem dX5_putIn_60 : decode cX5_putIn 60 = .ok (.iload_n 1, 1) := by decide +kernel
theorem dX5_putIn_61 : decode cX5_putIn 61 = .ok (.iconst 1, 1) := by decide +kernel
theorem dX5_putIn_62 : decode cX5_putIn 62 = .ok (.iadd, 1) := by decide +kernel
theorem dX5_putIn_63 : decode cX5_putIn 63 = .ok (.if_icmp .le 19, 3) := by decide +kernel
theorem dX5_putIn_66 : decode cX5_putIn 66 = .ok (.aload_n 0, 1) := by decide +kernel
theorem dX5_putIn_67 : decode cX5_putIn 67 = .ok (.iload 4, 2) := by decide +kernel
theorem dX5_putIn_69 : decode cX5_putIn 69 = .ok (.iload 4, 2) := by decide +kernel
theorem dX5_putIn_71 : decode cX5_putIn 71 = .ok (.iconst 1, 1) := by decide +kernel
theorem dX5_putIn_72 : decode cX5_putIn 72 = .ok (.isub, 1) := by decide +kernel
theorem dX5_putIn_73 : decode cX5_putIn 73 = .ok (.invokevirtual 192, 3) := by decide +kernel
theorem dX5_putIn_76 : decode cX5_putIn 76 = .ok (.iinc 4 (-1), 3) := by decide +kernel
theorem dX5_putIn_79 : decode cX5_putIn 79 = .ok (.goto (-21), 3) := by decide +kernel
theorem dX5_putIn_82 : decode cX5_putIn 82 = .ok (.aload_n 0, 1) := by decide +kernel
theorem dX5_putIn_83 : decode cX5_putIn 83 = .ok (.dup, 1) := by decide +kernel
theorem dX5_putIn_84 : decode cX5_putIn 84 = .ok (.getfield 56, 3) := by decide +kernel
theorem dX5_putIn_87 : decode cX5_putIn 87 = .ok (.iconst 1, 1) := by decide +kernel
theorem dX5_putIn_88 : decode cX5_putIn 88 = .ok (.iadd, 1) := by decide +kernel
theorem dX5_putIn_89 : decode cX5_putIn 89 = .ok (.putfield 56, 3) := by decide +kernel
theorem dX5_putIn_92 : decode cX5_putIn 92 = .ok (.aload_n 0, 1) := by decide +kernel
theorem dX5_putIn_93 : decode cX5_putIn 93 = .ok (.getfield 19, 3) := by decide +kernel
theorem dX5_putIn_96 : decode cX5_putIn 96 = .ok (.iload_n 1, 1) := by decide +kernel
theorem dX5_putIn_97 : decode cX5_putIn 97 = .ok (.iconst 1, 1) := by decide +kernel
theorem dX5_putIn_98 : decode cX5_putIn 98 = .ok (.iadd, 1) := by decide +kernel
theorem dX5_putIn_99 : decode cX5_putIn 99 = .ok (.iconst 0, 1) := by decide +kernel
theorem dX5_putIn_100 : decode cX5_putIn 100 = .ok (.iastore, 1) := by decide +kernel
theorem dX5_putIn_101 : decode cX5_putIn 101 = .ok (.aload_n 0, 1) := by decide +kernel
theorem dX5_putIn_102 : decode cX5_putIn 102 = .ok (.iload_n 1, 1) := by decide +kernel
theorem dX5_putIn_103 : decode cX5_putIn 103 = .ok (.iconst 1, 1) := by decide +kernel
theorem dX5_putIn_104 : decode cX5_putIn 104 = .ok (.iadd, 1) := by decide +kernel
theorem dX5_putIn_105 : decode cX5_putIn 105 = .ok (.iload_n 2, 1) := by decide +kernel
theorem dX5_putIn_106 : decode cX5_putIn 106 = .ok (.invokevirtual 195, 3) := by decide +kernel
theorem dX5_putIn_109 : decode cX5_putIn 109 = .ok (.aload_n 0, 1) := by decide +kernel
theorem dX5_putIn_110 : decode cX5_putIn 110 = .ok (.invokevirtual 175, 3) := by decide +kernel
theorem dX5_putIn_113 : decode cX5_putIn 113 = .ok (.istore 4, 2) := by decide +kernel
theorem dX5_putIn_115 : decode cX5_putIn 115 = .ok (.aload_n 0, 1) := by decide +kernel
theorem dX5_putIn_116 : decode cX5_putIn 116 = .ok (.iconst 1, 1) := by decide +kernel
theorem dX5_putIn_117 : decode cX5_putIn 117 = .ok (.iconst 0, 1) := by decide +kernel
theorem dX5_putIn_118 : decode cX5_putIn 118 = .ok (.invokevirtual 109, 3) := by decide +kernel
theorem dX5_putIn_121 : decode cX5_putIn 121 = .ok (.iload 4, 2) := by decide +kernel
theorem dX5_putIn_123 : decode cX5_putIn 123 = .ok (.ireturn, 1) := by decide +kernel
theorem lnX5_192 : Ln RX5 192 yX5_copies := Or.inl (tb_in 971 (by decide +kernel) rfl)
theorem moX5_copies : Mv yX5_copies kX5_copies 2 := ⟨⟨tb_in 974 (by decide +kernel) rfl, tb_in 92 (by decide +kernel) rfl, ⟨by decide, by decide⟩, by decide +kernel⟩, tb_in 973 (by decide +kernel) rfl, tb_in 81 (by decide +kernel) rfl⟩
def fX5_putIn_L58 (n : Nat) (v1 : Int32) (v2 : Int32) (K1 : Mem → Option (Int32 × Mem)) : Nat → Int32 → Mem → Option (Int32 × Mem)
  | 0, _, _ => none
  | F + 1, v4, μ => if v4 ≤ (v1 + 1) then K1 μ else bd (fX5_copies n v4 (v4 - 1) μ) (fun r13 m12 => bnd (v4 + (-1)) (fun x14 => fX5_putIn_L58 n v1 v2 K1 F x14 m12))
theorem lnX5_195 : Ln RX5 195 yX5_isCalled := Or.inl (tb_in 975 (by decide +kernel) rfl)
theorem moX5_isCalled : Mv yX5_isCalled kX5_isCalled 2 := ⟨⟨tb_in 978 (by decide +kernel) rfl, tb_in 92 (by decide +kernel) rfl, ⟨by decide, by decide⟩, by decide +kernel⟩, tb_in 977 (by decide +kernel) rfl, tb_in 82 (by decide +kernel) rfl⟩
def fX5_putIn (n : Nat) (a1 : Int32) (a2 : Int32) (μ : Mem) : Option (Int32 × Mem) :=
  bd (fX5_isStation n a1 μ) (fun r2 m1 => bnd (fun (x4 : Int32) (m5 : Mem) => bnd (fun (x7 : Int32) (m8 : Mem) => if x7 = 0 then bd (fX5_passesAll n 1 1 m8) (fun r10 m9 => bnd (m9.1 47 4) (fun x11 => fX5_putIn_L58 n a1 a2 (fun (m15 : Mem) => bnd (setI m15 47 4 ((m15.1 47 4) + 1)) (fun m16 => gd (inb (a1 + 1) 9) (bnd (setI m16 51 (Int32.toNatClampNeg (a1 + 1)) 0) (fun m17 => bd (fX5_isCalled n (a1 + 1) a2 m17) (fun r19 m18 => bd (fX5_neverNow n m18) (fun r21 m20 => bd (fX5_passesAll n 1 0 m20) (fun r23 m22 => some (r21, m22)))))))) n x11 m9)) else bd (fX5_no n x7 m8) (fun r25 m24 => some (r25, m24))) (fun kb6 => if x4 = 0 then if (m5.1 47 4) = 8 then kb6 (-6) m5 else kb6 x4 m5 else kb6 x4 m5)) (fun kb3 => if r2 = 0 then kb3 (-1) m1 else bd (fX5_bound n a2 1 9 m1) (fun r27 m26 => kb3 r27 m26)))
set_option maxHeartbeats 4000000 in
set_option maxRecDepth 100000 in
theorem wX5_putIn_L58 (ad : Nat → Nat) (n : Nat) (v1 : Int32) (v2 : Int32) (K1 : Mem → Option (Int32 × Mem)) (hK1 : ∀ (μ : Mem), G kX5_putIn ad encI 82 [(0, .ref (ad 47)), (1, .int v1), (2, .int v2)] [] μ (K1 μ)) : ∀ (F : Nat) (v4 : Int32) (μ : Mem), G kX5_putIn ad encI 58 [(0, .ref (ad 47)), (1, .int v1), (2, .int v2), (4, .int v4)] [] μ (fX5_putIn_L58 n v1 v2 K1 F v4 μ) := by
  intro F
  induction F with
  | zero =>
    intro v4 μ
    exact g_none
  | succ F ih =>
    intro v4 μ
    rw [fX5_putIn_L58]
    refine g_iload (pc := 58) 3 dX5_putIn_58 rfl ?_
    refine g_iload_n (pc := 60) 1 dX5_putIn_60 rfl rfl ?_
    refine g_iconst (pc := 61) 1 dX5_putIn_61 (by decide) ?_
    refine g_iadd (pc := 62) dX5_putIn_62 ?_
    refine g_icmp_le (pc := 63) 82 dX5_putIn_63 rfl ?_ ?_
    · exact g_sub [0, 1, 2] rfl (hK1 μ)
    · refine g_aload_n (pc := 66) 0 dX5_putIn_66 rfl rfl ?_
      refine g_iload (pc := 67) 3 dX5_putIn_67 rfl ?_
      refine g_iload (pc := 69) 3 dX5_putIn_69 rfl ?_
      refine g_iconst (pc := 71) 1 dX5_putIn_71 (by decide) ?_
      refine g_isub (pc := 72) dX5_putIn_72 ?_
      refine g_cVV (pc := 73) (st := []) [.int v4, .int (v4 - 1)] rfl rfl moX5_copies lnX5_192 (ctX5_copies ad n v4 (v4 - 1) μ) rfl ⟨Nat.le_of_ble_eq_true rfl, Nat.le_of_ble_eq_true rfl⟩ rfl (Nat.le_of_ble_eq_true rfl) dX5_putIn_73 (fun r13 m12 => ?_)
      refine g_iincB (pc := 76) 3 (-1) (-1) (fun x14 => [(4, .int x14), (0, .ref (ad 47)), (1, .int v1), (2, .int v2)]) dX5_putIn_76 rfl (by decide) (by decide) (fun _ => rfl) (fun x14 => ?_)
      refine g_goto (pc := 79) 58 dX5_putIn_79 rfl ?_
      exact g_sub [1, 2, 3, 0] rfl (ih x14 m12)
set_option maxHeartbeats 4000000 in
set_option maxRecDepth 100000 in
theorem ctX5_putIn (ad : Nat → Nat) (n : Nat) (a1 : Int32) (a2 : Int32) (μ : Mem) : Ct yX5_putIn kX5_putIn ad encI [.ref (ad 47), .int a1, .int a2] μ (fX5_putIn n a1 a2 μ) := Ct.of (by decide +kernel) rfl (Nat.le_of_ble_eq_true rfl) (by
  show G kX5_putIn ad encI 0 [(0, .ref (ad 47)), (1, .int a1), (2, .int a2)] [] μ (fX5_putIn n a1 a2 μ)
  unfold fX5_putIn
  refine g_aload_n (pc := 0) 0 dX5_putIn_0 rfl rfl ?_
  refine g_iload_n (pc := 1) 1 dX5_putIn_1 rfl rfl ?_
  refine g_cVI (pc := 2) (st := []) [.int a1] rfl rfl moX5_isStation lnX5_100 (ctX5_isStation ad n a1 μ) rfl ⟨Nat.le_of_ble_eq_true rfl, Nat.le_of_ble_eq_true rfl⟩ rfl (Nat.le_of_ble_eq_true rfl) dX5_putIn_2 (fun r2 m1 => ?_)
  refine g_join (fun kb => ∀ (x4 : Int32) (m5 : Mem), G kX5_putIn ad encI 19 [(0, .ref (ad 47)), (1, .int a1), (2, .int a2)] [.int x4] m5 (kb x4 m5)) (fun x4 m5 => ?_) (fun kb3 hkb3 => ?_)
  · refine g_istore_n (pc := 19) [(3, .int x4), (0, .ref (ad 47)), (1, .int a1), (2, .int a2)] dX5_putIn_19 rfl (by decide) rfl ?_
    refine g_iload_n (pc := 20) 0 dX5_putIn_20 rfl rfl ?_
    refine g_join (fun kb => ∀ (x7 : Int32) (m8 : Mem), G kX5_putIn ad encI 36 [(0, .ref (ad 47)), (1, .int a1), (2, .int a2), (3, .int x7)] [] m8 (kb x7 m8)) (fun x7 m8 => ?_) (fun kb6 hkb6 => ?_)
    · refine g_iload_n (pc := 36) 3 dX5_putIn_36 rfl rfl ?_
      refine g_if_eq (pc := 37) 46 dX5_putIn_37 rfl ?_ ?_
      · refine g_aload_n (pc := 46) 0 dX5_putIn_46 rfl rfl ?_
        refine g_iconst (pc := 47) 1 dX5_putIn_47 (by decide) ?_
        refine g_iconst (pc := 48) 1 dX5_putIn_48 (by decide) ?_
        refine g_cVV (pc := 49) (st := []) [.int 1, .int 1] rfl rfl moX5_passesAll lnX5_109 (ctX5_passesAll ad n 1 1 m8) rfl ⟨Nat.le_of_ble_eq_true rfl, Nat.le_of_ble_eq_true rfl⟩ rfl (Nat.le_of_ble_eq_true rfl) dX5_putIn_49 (fun r10 m9 => ?_)
        refine g_aload_n (pc := 52) 0 dX5_putIn_52 rfl rfl ?_
        refine g_get (pc := 53) rfl foX5_56 (v := .int (m9.1 47 4)) rfl dX5_putIn_53 ?_
        refine g_istoreB (pc := 56) (fun x11 => [(4, .int x11), (0, .ref (ad 47)), (1, .int a1), (2, .int a2), (3, .int x7)]) dX5_putIn_56 (by decide) (fun _ => rfl) (fun x11 => ?_)
        refine g_sub [1, 2, 3, 0] rfl (wX5_putIn_L58 ad n a1 a2 _ (fun m15 => ?_) n x11 m9)
        refine g_aload_n (pc := 82) 0 dX5_putIn_82 rfl rfl ?_
        refine g_dup (pc := 83) dX5_putIn_83 rfl ?_
        refine g_get (pc := 84) rfl foX5_56 (v := .int (m15.1 47 4)) rfl dX5_putIn_84 ?_
        refine g_iconst (pc := 87) 1 dX5_putIn_87 (by decide) ?_
        refine g_iadd (pc := 88) dX5_putIn_88 ?_
        refine g_put (pc := 89) rfl foX5_56 fpX5_4 rfl rfl dX5_putIn_89 (fun m16 => ?_)
        refine g_aload_n (pc := 92) 0 dX5_putIn_92 rfl rfl ?_
        refine g_get (pc := 93) rfl foX5_19 (v := .ref (ad 51)) rfl dX5_putIn_93 ?_
        refine g_iload_n (pc := 96) 1 dX5_putIn_96 rfl rfl ?_
        refine g_iconst (pc := 97) 1 dX5_putIn_97 (by decide) ?_
        refine g_iadd (pc := 98) dX5_putIn_98 ?_
        refine g_iconst (pc := 99) 0 dX5_putIn_99 (by decide) ?_
        refine g_iast (pc := 100) rfl (by decide) dX5_putIn_100 (fun m17 => ?_)
        refine g_aload_n (pc := 101) 0 dX5_putIn_101 rfl rfl ?_
        refine g_iload_n (pc := 102) 1 dX5_putIn_102 rfl rfl ?_
        refine g_iconst (pc := 103) 1 dX5_putIn_103 (by decide) ?_
        refine g_iadd (pc := 104) dX5_putIn_104 ?_
        refine g_iload_n (pc := 105) 2 dX5_putIn_105 rfl rfl ?_
        refine g_cVV (pc := 106) (st := []) [.int (a1 + 1), .int a2] rfl rfl moX5_isCalled lnX5_195 (ctX5_isCalled ad n (a1 + 1) a2 m17) rfl ⟨Nat.le_of_ble_eq_true rfl, Nat.le_of_ble_eq_true rfl⟩ rfl (Nat.le_of_ble_eq_true rfl) dX5_putIn_106 (fun r19 m18 => ?_)
        refine g_aload_n (pc := 109) 0 dX5_putIn_109 rfl rfl ?_
        refine g_cVI (pc := 110) (st := []) [] rfl rfl moX5_neverNow lnX5_175 (ctX5_neverNow ad n m18) rfl ⟨Nat.le_of_ble_eq_true rfl, Nat.le_of_ble_eq_true rfl⟩ rfl (Nat.le_of_ble_eq_true rfl) dX5_putIn_110 (fun r21 m20 => ?_)
        refine g_istore (pc := 113) [(4, .int r21), (0, .ref (ad 47)), (1, .int a1), (2, .int a2)] dX5_putIn_113 (by decide) rfl ?_
        refine g_aload_n (pc := 115) 1 dX5_putIn_115 rfl rfl ?_
        refine g_iconst (pc := 116) 1 dX5_putIn_116 (by decide) ?_
        refine g_iconst (pc := 117) 0 dX5_putIn_117 (by decide) ?_
        refine g_cVV (pc := 118) (st := []) [.int 1, .int 0] rfl rfl moX5_passesAll lnX5_109 (ctX5_passesAll ad n 1 0 m20) rfl ⟨Nat.le_of_ble_eq_true rfl, Nat.le_of_ble_eq_true rfl⟩ rfl (Nat.le_of_ble_eq_true rfl) dX5_putIn_118 (fun r23 m22 => ?_)
        refine g_iload (pc := 121) 0 dX5_putIn_121 rfl ?_
        exact g_ireturn (pc := 123) dX5_putIn_123 rfl
      · refine g_aload_n (pc := 40) 0 dX5_putIn_40 rfl rfl ?_
        refine g_iload_n (pc := 41) 3 dX5_putIn_41 rfl rfl ?_
        refine g_cVI (pc := 42) (st := []) [.int x7] rfl rfl moX5_no lnX5_67 (ctX5_no ad n x7 m8) rfl ⟨Nat.le_of_ble_eq_true rfl, Nat.le_of_ble_eq_true rfl⟩ rfl (Nat.le_of_ble_eq_true rfl) dX5_putIn_42 (fun r25 m24 => ?_)
        exact g_ireturn (pc := 45) dX5_putIn_45 rfl
    ·
      refine g_if_ne (pc := 21) 36 dX5_putIn_21 rfl ?_ ?_
      · exact g_sub [1, 2, 3, 0] rfl (hkb6 x4 m5)
      · refine g_aload_n (pc := 24) 1 dX5_putIn_24 rfl rfl ?_
        refine g_get (pc := 25) rfl foX5_56 (v := .int (m5.1 47 4)) rfl dX5_putIn_25 ?_
        refine g_bipush (pc := 28) 8 dX5_putIn_28 (by decide) ?_
        refine g_icmp_ne (pc := 30) 36 dX5_putIn_30 rfl ?_ ?_
        · exact g_sub [1, 2, 3, 0] rfl (hkb6 x4 m5)
        · refine g_bipush (pc := 33) (-6) dX5_putIn_33 (by decide) ?_
          refine g_istore_n (pc := 35) [(3, .int (-6)), (0, .ref (ad 47)), (1, .int a1), (2, .int a2)] dX5_putIn_35 rfl (by decide) rfl ?_
          exact g_sub [1, 2, 3, 0] rfl (hkb6 (-6) m5)
  ·
    refine g_if_ne (pc := 5) 12 dX5_putIn_5 rfl ?_ ?_
    · refine g_iload_n (pc := 12) 2 dX5_putIn_12 rfl rfl ?_
      refine g_iconst (pc := 13) 1 dX5_putIn_13 (by decide) ?_
      refine g_bipush (pc := 14) 9 dX5_putIn_14 (by decide) ?_
      refine g_cSI (pc := 16) (st := []) [.int a2, .int 1, .int 9] moX5_bound lnX5_60 (ctX5_bound ad n a2 1 9 m1) rfl ⟨Nat.le_of_ble_eq_true rfl, Nat.le_of_ble_eq_true rfl⟩ rfl (Nat.le_of_ble_eq_true rfl) dX5_putIn_16 (fun r27 m26 => ?_)
      exact g_sub [0, 1, 2] rfl (hkb3 r27 m26)
    · refine g_iconst (pc := 8) (-1) dX5_putIn_8 (by decide) ?_
      refine g_goto (pc := 9) 19 dX5_putIn_9 rfl ?_
      exact g_sub [0, 1, 2] rfl (hkb3 (-1) m1))
-- StopsByLettersModel.shut(I)I
abbrev kX5_shut : Cfg := (RX5, cX5_shut, 3, (some .int), 7)
theorem dX5_shut_0 : decode cX5_shut 0 = .ok (.aload_n 0, 1) := by decide +kernel
theorem dX5_shut_1 : decode cX5_shut 1 = .ok (.iload_n 1, 1) := by decide +kernel
theorem dX5_shut_2 : decode cX5_shut 2 = .ok (.invokevirtual 100, 3) := by decide +kernel
theorem dX5_shut_5 : decode cX5_shut 5 = .ok (.ifCond .ne 9, 3) := by decide +kernel
theorem dX5_shut_8 : decode cX5_shut 8 = .ok (.aload_n 0, 1) := by decide +kernel
theorem dX5_shut_9 : decode cX5_shut 9 = .ok (.iconst (-1), 1) := by decide +kernel
theorem dX5_shut_10 : decode cX5_shut 10 = .ok (.invokevirtual 67, 3) := by decide +kernel
theorem dX5_shut_13 : decode cX5_shut 13 = .ok (.ireturn, 1) := by decide +kernel
theorem dX5_shut_14 : decode cX5_shut 14 = .ok (.aload_n 0, 1) := by decide +kernel
theorem dX5_shut_15 : decode cX5_shut 15 = .ok (.iconst 1, 1) := by decide +kernel
theorem dX5_shut_16 : decode cX5_shut 16 = .ok (.iconst 1, 1) := by decide +kernel
theorem dX5_shut_17 : decode cX5_shut 17 = .ok (.invokevirtual 109, 3) := by decide +kernel
theorem dX5_shut_20 : decode cX5_shut 20 = .ok (.aload_n 0, 1) := by decide +kernel
theorem dX5_shut_21 : decode cX5_shut 21 = .ok (.dup, 1) := by decide +kernel
theorem dX5_shut_22 : decode cX5_shut 22 = .ok (.getfield 56, 3) := by decide +kernel
theorem dX5_shut_25 : decode cX5_shut 25 = .ok (.iconst 1, 1) := by decide +kernel
theorem dX5_shut_26 : decode cX5_shut 26 = .ok (.isub, 1) := by decide +kernel
theorem dX5_shut_27 : decode cX5_shut 27 = .ok (.putfield 56, 3) := by decide +kernel
theorem dX5_shut_30 : decode cX5_shut 30 = .ok (.iload_n 1, 1) := by decide +kernel
theorem dX5_shut_31 : decode cX5_shut 31 = .ok (.istore_n 2, 1) := by decide +kernel
theorem dX5_shut_32 : decode cX5_shut 32 = .ok (.iload_n 2, 1) := by decide +kernel
theorem dX5_shut_33 : decode cX5_shut 33 = .ok (.aload_n 0, 1) := by decide +kernel
theorem dX5_shut_34 : decode cX5_shut 34 = .ok (.getfield 56, 3) := by decide +kernel
theorem dX5_shut_37 : decode cX5_shut 37 = .ok (.if_icmp .ge 17, 3) := by decide +kernel
theorem dX5_shut_40 : decode cX5_shut 40 = .ok (.aload_n 0, 1) := by decide +kernel
theorem dX5_shut_41 : decode cX5_shut 41 = .ok (.iload_n 2, 1) := by decide +kernel
theorem dX5_shut_42 : decode cX5_shut 42 = .ok (.iload_n 2, 1) := by decide +kernel
theorem dX5_shut_43 : decode cX5_shut 43 = .ok (.iconst 1, 1) := by decide +kernel
theorem dX5_shut_44 : decode cX5_shut 44 = .ok (.iadd, 1) := by decide +kernel
theorem dX5_shut_45 : decode cX5_shut 45 = .ok (.invokevirtual 192, 3) := by decide +kernel
theorem dX5_shut_48 : decode cX5_shut 48 = .ok (.iinc 2 1, 3) := by decide +kernel
theorem dX5_shut_51 : decode cX5_shut 51 = .ok (.goto (-19), 3) := by decide +kernel
theorem dX5_shut_54 : decode cX5_shut 54 = .ok (.aload_n 0, 1) := by decide +kernel
theorem dX5_shut_55 : decode cX5_shut 55 = .ok (.invokevirtual 175, 3) := by decide +kernel
theorem dX5_shut_58 : decode cX5_shut 58 = .ok (.istore_n 2, 1) := by decide +kernel
theorem dX5_shut_59 : decode cX5_shut 59 = .ok (.aload_n 0, 1) := by decide +kernel
theorem dX5_shut_60 : decode cX5_shut 60 = .ok (.iconst 1, 1) := by decide +kernel
theorem dX5_shut_61 : decode cX5_shut 61 = .ok (.iconst 0, 1) := by decide +kernel
theorem dX5_shut_62 : decode cX5_shut 62 = .ok (.invokevirtual 109, 3) := by decide +kernel
theorem dX5_shut_65 : decode cX5_shut 65 = .ok (.iload_n 2, 1) := by decide +kernel
theorem dX5_shut_66 : decode cX5_shut 66 = .ok (.ireturn, 1) := by decide +kernel
def fX5_shut_L32 (n : Nat) : Nat → Int32 → Mem → Option (Int32 × Mem)
  | 0, _, _ => none
  | F + 1, v2, μ => if (μ.1 47 4) ≤ v2 then bd (fX5_neverNow n μ) (fun r7 m6 => bd (fX5_passesAll n 1 0 m6) (fun r9 m8 => some (r7, m8))) else bd (fX5_copies n v2 (v2 + 1) μ) (fun r11 m10 => bnd (v2 + 1) (fun x12 => fX5_shut_L32 n F x12 m10))
def fX5_shut (n : Nat) (a1 : Int32) (μ : Mem) : Option (Int32 × Mem) :=
  bd (fX5_isStation n a1 μ) (fun r2 m1 => if r2 = 0 then bd (fX5_no n (-1) m1) (fun r14 m13 => some (r14, m13)) else bd (fX5_passesAll n 1 1 m1) (fun r4 m3 => bnd (setI m3 47 4 ((m3.1 47 4) - 1)) (fun m5 => fX5_shut_L32 n n a1 m5)))
set_option maxHeartbeats 4000000 in
set_option maxRecDepth 100000 in
theorem wX5_shut_L32 (ad : Nat → Nat) (n : Nat) : ∀ (F : Nat) (v2 : Int32) (μ : Mem), G kX5_shut ad encI 32 [(0, .ref (ad 47)), (2, .int v2)] [] μ (fX5_shut_L32 n F v2 μ) := by
  intro F
  induction F with
  | zero =>
    intro v2 μ
    exact g_none
  | succ F ih =>
    intro v2 μ
    rw [fX5_shut_L32]
    refine g_iload_n (pc := 32) 1 dX5_shut_32 rfl rfl ?_
    refine g_aload_n (pc := 33) 0 dX5_shut_33 rfl rfl ?_
    refine g_get (pc := 34) rfl foX5_56 (v := .int (μ.1 47 4)) rfl dX5_shut_34 ?_
    refine g_icmp_ge (pc := 37) 54 dX5_shut_37 rfl ?_ ?_
    · refine g_aload_n (pc := 54) 0 dX5_shut_54 rfl rfl ?_
      refine g_cVI (pc := 55) (st := []) [] rfl rfl moX5_neverNow lnX5_175 (ctX5_neverNow ad n μ) rfl ⟨Nat.le_of_ble_eq_true rfl, Nat.le_of_ble_eq_true rfl⟩ rfl (Nat.le_of_ble_eq_true rfl) dX5_shut_55 (fun r7 m6 => ?_)
      refine g_istore_n (pc := 58) [(2, .int r7), (0, .ref (ad 47))] dX5_shut_58 rfl (by decide) rfl ?_
      refine g_aload_n (pc := 59) 1 dX5_shut_59 rfl rfl ?_
      refine g_iconst (pc := 60) 1 dX5_shut_60 (by decide) ?_
      refine g_iconst (pc := 61) 0 dX5_shut_61 (by decide) ?_
      refine g_cVV (pc := 62) (st := []) [.int 1, .int 0] rfl rfl moX5_passesAll lnX5_109 (ctX5_passesAll ad n 1 0 m6) rfl ⟨Nat.le_of_ble_eq_true rfl, Nat.le_of_ble_eq_true rfl⟩ rfl (Nat.le_of_ble_eq_true rfl) dX5_shut_62 (fun r9 m8 => ?_)
      refine g_iload_n (pc := 65) 0 dX5_shut_65 rfl rfl ?_
      exact g_ireturn (pc := 66) dX5_shut_66 rfl
    · refine g_aload_n (pc := 40) 0 dX5_shut_40 rfl rfl ?_
      refine g_iload_n (pc := 41) 1 dX5_shut_41 rfl rfl ?_
      refine g_iload_n (pc := 42) 1 dX5_shut_42 rfl rfl ?_
      refine g_iconst (pc := 43) 1 dX5_shut_43 (by decide) ?_
      refine g_iadd (pc := 44) dX5_shut_44 ?_
      refine g_cVV (pc := 45) (st := []) [.int v2, .int (v2 + 1)] rfl rfl moX5_copies lnX5_192 (ctX5_copies ad n v2 (v2 + 1) μ) rfl ⟨Nat.le_of_ble_eq_true rfl, Nat.le_of_ble_eq_true rfl⟩ rfl (Nat.le_of_ble_eq_true rfl) dX5_shut_45 (fun r11 m10 => ?_)
      refine g_iincB (pc := 48) 1 1 1 (fun x12 => [(2, .int x12), (0, .ref (ad 47))]) dX5_shut_48 rfl (by decide) (by decide) (fun _ => rfl) (fun x12 => ?_)
      refine g_goto (pc := 51) 32 dX5_shut_51 rfl ?_
      exact g_sub [1, 0] rfl (ih x12 m10)
set_option maxHeartbeats 4000000 in
set_option maxRecDepth 100000 in
theorem ctX5_shut (ad : Nat → Nat) (n : Nat) (a1 : Int32) (μ : Mem) : Ct yX5_shut kX5_shut ad encI [.ref (ad 47), .int a1] μ (fX5_shut n a1 μ) := Ct.of (by decide +kernel) rfl (Nat.le_of_ble_eq_true rfl) (by
  show G kX5_shut ad encI 0 [(0, .ref (ad 47)), (1, .int a1)] [] μ (fX5_shut n a1 μ)
  unfold fX5_shut
  refine g_aload_n (pc := 0) 0 dX5_shut_0 rfl rfl ?_
  refine g_iload_n (pc := 1) 1 dX5_shut_1 rfl rfl ?_
  refine g_cVI (pc := 2) (st := []) [.int a1] rfl rfl moX5_isStation lnX5_100 (ctX5_isStation ad n a1 μ) rfl ⟨Nat.le_of_ble_eq_true rfl, Nat.le_of_ble_eq_true rfl⟩ rfl (Nat.le_of_ble_eq_true rfl) dX5_shut_2 (fun r2 m1 => ?_)
  refine g_if_ne (pc := 5) 14 dX5_shut_5 rfl ?_ ?_
  · refine g_aload_n (pc := 14) 0 dX5_shut_14 rfl rfl ?_
    refine g_iconst (pc := 15) 1 dX5_shut_15 (by decide) ?_
    refine g_iconst (pc := 16) 1 dX5_shut_16 (by decide) ?_
    refine g_cVV (pc := 17) (st := []) [.int 1, .int 1] rfl rfl moX5_passesAll lnX5_109 (ctX5_passesAll ad n 1 1 m1) rfl ⟨Nat.le_of_ble_eq_true rfl, Nat.le_of_ble_eq_true rfl⟩ rfl (Nat.le_of_ble_eq_true rfl) dX5_shut_17 (fun r4 m3 => ?_)
    refine g_aload_n (pc := 20) 0 dX5_shut_20 rfl rfl ?_
    refine g_dup (pc := 21) dX5_shut_21 rfl ?_
    refine g_get (pc := 22) rfl foX5_56 (v := .int (m3.1 47 4)) rfl dX5_shut_22 ?_
    refine g_iconst (pc := 25) 1 dX5_shut_25 (by decide) ?_
    refine g_isub (pc := 26) dX5_shut_26 ?_
    refine g_put (pc := 27) rfl foX5_56 fpX5_4 rfl rfl dX5_shut_27 (fun m5 => ?_)
    refine g_iload_n (pc := 30) 1 dX5_shut_30 rfl rfl ?_
    refine g_istore_n (pc := 31) [(2, .int a1), (0, .ref (ad 47)), (1, .int a1)] dX5_shut_31 rfl (by decide) rfl ?_
    exact g_sub [1, 0] rfl (wX5_shut_L32 ad n n a1 m5)
  · refine g_aload_n (pc := 8) 0 dX5_shut_8 rfl rfl ?_
    refine g_iconst (pc := 9) (-1) dX5_shut_9 (by decide) ?_
    refine g_cVI (pc := 10) (st := []) [.int (-1)] rfl rfl moX5_no lnX5_67 (ctX5_no ad n (-1) m1) rfl ⟨Nat.le_of_ble_eq_true rfl, Nat.le_of_ble_eq_true rfl⟩ rfl (Nat.le_of_ble_eq_true rfl) dX5_shut_10 (fun r14 m13 => ?_)
    exact g_ireturn (pc := 13) dX5_shut_13 rfl)
-- StopsByLettersModel.alike(II)I
abbrev kX5_alike : Cfg := (RX5, cX5_alike, 4, (some .int), 1)
theorem dX5_alike_0 : decode cX5_alike 0 = .ok (.iload_n 1, 1) := by decide +kernel
theorem dX5_alike_1 : decode cX5_alike 1 = .ok (.iconst 1, 1) := by decide +kernel
theorem dX5_alike_2 : decode cX5_alike 2 = .ok (.if_icmp .lt 8, 3) := by decide +kernel
theorem dX5_alike_5 : decode cX5_alike 5 = .ok (.iload_n 2, 1) := by decide +kernel
theorem dX5_alike_6 : decode cX5_alike 6 = .ok (.iconst 1, 1) := by decide +kernel
theorem dX5_alike_7 : decode cX5_alike 7 = .ok (.if_icmp .ge 8, 3) := by decide +kernel
theorem dX5_alike_10 : decode cX5_alike 10 = .ok (.bipush (-4), 2) := by decide +kernel
theorem dX5_alike_12 : decode cX5_alike 12 = .ok (.goto 21, 3) := by decide +kernel
theorem dX5_alike_15 : decode cX5_alike 15 = .ok (.iload_n 1, 1) := by decide +kernel
theorem dX5_alike_16 : decode cX5_alike 16 = .ok (.bipush 60, 2) := by decide +kernel
theorem dX5_alike_18 : decode cX5_alike 18 = .ok (.if_icmp .gt 9, 3) := by decide +kernel
theorem dX5_alike_21 : decode cX5_alike 21 = .ok (.iload_n 2, 1) := by decide +kernel
theorem dX5_alike_22 : decode cX5_alike 22 = .ok (.bipush 99, 2) := by decide +kernel
theorem dX5_alike_24 : decode cX5_alike 24 = .ok (.if_icmp .le 8, 3) := by decide +kernel
theorem dX5_alike_27 : decode cX5_alike 27 = .ok (.bipush (-6), 2) := by decide +kernel
theorem dX5_alike_29 : decode cX5_alike 29 = .ok (.goto 4, 3) := by decide +kernel
theorem dX5_alike_32 : decode cX5_alike 32 = .ok (.iconst 0, 1) := by decide +kernel
theorem dX5_alike_33 : decode cX5_alike 33 = .ok (.istore_n 3, 1) := by decide +kernel
theorem dX5_alike_34 : decode cX5_alike 34 = .ok (.iload_n 3, 1) := by decide +kernel
theorem dX5_alike_35 : decode cX5_alike 35 = .ok (.ifCond .eq 11, 3) := by decide +kernel
theorem dX5_alike_38 : decode cX5_alike 38 = .ok (.aload_n 0, 1) := by decide +kernel
theorem dX5_alike_39 : decode cX5_alike 39 = .ok (.iload_n 3, 1) := by decide +kernel
theorem dX5_alike_40 : decode cX5_alike 40 = .ok (.invokevirtual 67, 3) := by decide +kernel
theorem dX5_alike_43 : decode cX5_alike 43 = .ok (.goto 11, 3) := by decide +kernel
theorem dX5_alike_46 : decode cX5_alike 46 = .ok (.iload_n 1, 1) := by decide +kernel
theorem dX5_alike_47 : decode cX5_alike 47 = .ok (.i2l, 1) := by decide +kernel
theorem dX5_alike_48 : decode cX5_alike 48 = .ok (.iload_n 2, 1) := by decide +kernel
theorem dX5_alike_49 : decode cX5_alike 49 = .ok (.i2l, 1) := by decide +kernel
theorem dX5_alike_50 : decode cX5_alike 50 = .ok (.invokestatic 188, 3) := by decide +kernel
theorem dX5_alike_53 : decode cX5_alike 53 = .ok (.l2i, 1) := by decide +kernel
theorem dX5_alike_54 : decode cX5_alike 54 = .ok (.ireturn, 1) := by decide +kernel
def fX5_alike (n : Nat) (a1 : Int32) (a2 : Int32) (μ : Mem) : Option (Int32 × Mem) :=
  bnd (fun (x2 : Int32) (m3 : Mem) => if x2 = 0 then bd (fX5_divisor n a1.toInt64 a2.toInt64 m3) (fun r5 m4 => some ((Int64.toInt32 r5), m4)) else bd (fX5_no n x2 m3) (fun r7 m6 => some (r7, m6))) (fun kb1 => bnd (fun (m9 : Mem) => kb1 (-4) m9) (fun kb8 => if a1 < 1 then kb8 μ else if 1 ≤ a2 then bnd (fun (m11 : Mem) => kb1 (-6) m11) (fun kb10 => if 60 < a1 then kb10 μ else if a2 ≤ 99 then kb1 0 μ else kb10 μ) else kb8 μ))
set_option maxHeartbeats 4000000 in
set_option maxRecDepth 100000 in
theorem ctX5_alike (ad : Nat → Nat) (n : Nat) (a1 : Int32) (a2 : Int32) (μ : Mem) : Ct yX5_alike kX5_alike ad encI [.ref (ad 47), .int a1, .int a2] μ (fX5_alike n a1 a2 μ) := Ct.of (by decide +kernel) rfl (Nat.le_of_ble_eq_true rfl) (by
  show G kX5_alike ad encI 0 [(0, .ref (ad 47)), (1, .int a1), (2, .int a2)] [] μ (fX5_alike n a1 a2 μ)
  unfold fX5_alike
  refine g_iload_n (pc := 0) 1 dX5_alike_0 rfl rfl ?_
  refine g_iconst (pc := 1) 1 dX5_alike_1 (by decide) ?_
  refine g_join (fun kb => ∀ (x2 : Int32) (m3 : Mem), G kX5_alike ad encI 33 [(0, .ref (ad 47)), (1, .int a1), (2, .int a2)] [.int x2] m3 (kb x2 m3)) (fun x2 m3 => ?_) (fun kb1 hkb1 => ?_)
  · refine g_istore_n (pc := 33) [(3, .int x2), (0, .ref (ad 47)), (1, .int a1), (2, .int a2)] dX5_alike_33 rfl (by decide) rfl ?_
    refine g_iload_n (pc := 34) 0 dX5_alike_34 rfl rfl ?_
    refine g_if_eq (pc := 35) 46 dX5_alike_35 rfl ?_ ?_
    · refine g_iload_n (pc := 46) 2 dX5_alike_46 rfl rfl ?_
      refine g_i2l (pc := 47) dX5_alike_47 ?_
      refine g_iload_n (pc := 48) 3 dX5_alike_48 rfl rfl ?_
      refine g_i2l (pc := 49) dX5_alike_49 ?_
      refine g_cSJ (pc := 50) (st := []) [.long a1.toInt64, .long a2.toInt64] moX5_divisor lnX5_188 (ctX5_divisor ad n a1.toInt64 a2.toInt64 m3) rfl ⟨Nat.le_of_ble_eq_true rfl, Nat.le_of_ble_eq_true rfl⟩ rfl (Nat.le_of_ble_eq_true rfl) dX5_alike_50 (fun r5 m4 => ?_)
      refine g_l2i (pc := 53) dX5_alike_53 ?_
      exact g_ireturn (pc := 54) dX5_alike_54 rfl
    · refine g_aload_n (pc := 38) 1 dX5_alike_38 rfl rfl ?_
      refine g_iload_n (pc := 39) 0 dX5_alike_39 rfl rfl ?_
      refine g_cVI (pc := 40) (st := []) [.int x2] rfl rfl moX5_no lnX5_67 (ctX5_no ad n x2 m3) rfl ⟨Nat.le_of_ble_eq_true rfl, Nat.le_of_ble_eq_true rfl⟩ rfl (Nat.le_of_ble_eq_true rfl) dX5_alike_40 (fun r7 m6 => ?_)
      refine g_goto (pc := 43) 54 dX5_alike_43 rfl ?_
      exact g_ireturn (pc := 54) dX5_alike_54 rfl
  ·
    refine g_join (fun kb => ∀ (m9 : Mem), G kX5_alike ad encI 10 [(0, .ref (ad 47)), (1, .int a1), (2, .int a2)] [] m9 (kb m9)) (fun m9 => ?_) (fun kb8 hkb8 => ?_)
    · refine g_bipush (pc := 10) (-4) dX5_alike_10 (by decide) ?_
      refine g_goto (pc := 12) 33 dX5_alike_12 rfl ?_
      exact g_sub [0, 1, 2] rfl (hkb1 (-4) m9)
    ·
      refine g_icmp_lt (pc := 2) 10 dX5_alike_2 rfl ?_ ?_
      · exact g_sub [0, 1, 2] rfl (hkb8 μ)
      · refine g_iload_n (pc := 5) 2 dX5_alike_5 rfl rfl ?_
        refine g_iconst (pc := 6) 1 dX5_alike_6 (by decide) ?_
        refine g_icmp_ge (pc := 7) 15 dX5_alike_7 rfl ?_ ?_
        · refine g_iload_n (pc := 15) 1 dX5_alike_15 rfl rfl ?_
          refine g_bipush (pc := 16) 60 dX5_alike_16 (by decide) ?_
          refine g_join (fun kb => ∀ (m11 : Mem), G kX5_alike ad encI 27 [(0, .ref (ad 47)), (1, .int a1), (2, .int a2)] [] m11 (kb m11)) (fun m11 => ?_) (fun kb10 hkb10 => ?_)
          · refine g_bipush (pc := 27) (-6) dX5_alike_27 (by decide) ?_
            refine g_goto (pc := 29) 33 dX5_alike_29 rfl ?_
            exact g_sub [0, 1, 2] rfl (hkb1 (-6) m11)
          ·
            refine g_icmp_gt (pc := 18) 27 dX5_alike_18 rfl ?_ ?_
            · exact g_sub [0, 1, 2] rfl (hkb10 μ)
            · refine g_iload_n (pc := 21) 2 dX5_alike_21 rfl rfl ?_
              refine g_bipush (pc := 22) 99 dX5_alike_22 (by decide) ?_
              refine g_icmp_le (pc := 24) 32 dX5_alike_24 rfl ?_ ?_
              · refine g_iconst (pc := 32) 0 dX5_alike_32 (by decide) ?_
                exact g_sub [0, 1, 2] rfl (hkb1 0 μ)
              · exact g_sub [0, 1, 2] rfl (hkb10 μ)
        · exact g_sub [0, 1, 2] rfl (hkb8 μ))
-- StopsByLettersModel.row(I)I
abbrev kX5_row : Cfg := (RX5, cX5_row, 3, (some .int), 1)
theorem dX5_row_0 : decode cX5_row 0 = .ok (.iload_n 1, 1) := by decide +kernel
theorem dX5_row_1 : decode cX5_row 1 = .ok (.iconst 0, 1) := by decide +kernel
theorem dX5_row_2 : decode cX5_row 2 = .ok (.bipush 9, 2) := by decide +kernel
theorem dX5_row_4 : decode cX5_row 4 = .ok (.invokestatic 60, 3) := by decide +kernel
theorem dX5_row_7 : decode cX5_row 7 = .ok (.istore_n 2, 1) := by decide +kernel
theorem dX5_row_8 : decode cX5_row 8 = .ok (.iload_n 2, 1) := by decide +kernel
theorem dX5_row_9 : decode cX5_row 9 = .ok (.ifCond .ne 15, 3) := by decide +kernel
theorem dX5_row_12 : decode cX5_row 12 = .ok (.aload_n 0, 1) := by decide +kernel
theorem dX5_row_13 : decode cX5_row 13 = .ok (.getfield 198, 3) := by decide +kernel
theorem dX5_row_16 : decode cX5_row 16 = .ok (.bipush 12, 2) := by decide +kernel
theorem dX5_row_18 : decode cX5_row 18 = .ok (.if_icmp .ne 6, 3) := by decide +kernel
theorem dX5_row_21 : decode cX5_row 21 = .ok (.bipush (-6), 2) := by decide +kernel
theorem dX5_row_23 : decode cX5_row 23 = .ok (.istore_n 2, 1) := by decide +kernel
theorem dX5_row_24 : decode cX5_row 24 = .ok (.iload_n 2, 1) := by decide +kernel
theorem dX5_row_25 : decode cX5_row 25 = .ok (.ifCond .eq 9, 3) := by decide +kernel
theorem dX5_row_28 : decode cX5_row 28 = .ok (.aload_n 0, 1) := by decide +kernel
theorem dX5_row_29 : decode cX5_row 29 = .ok (.iload_n 2, 1) := by decide +kernel
theorem dX5_row_30 : decode cX5_row 30 = .ok (.invokevirtual 67, 3) := by decide +kernel
theorem dX5_row_33 : decode cX5_row 33 = .ok (.ireturn, 1) := by decide +kernel
theorem dX5_row_34 : decode cX5_row 34 = .ok (.aload_n 0, 1) := by decide +kernel
theorem dX5_row_35 : decode cX5_row 35 = .ok (.getfield 50, 3) := by decide +kernel
theorem dX5_row_38 : decode cX5_row 38 = .ok (.aload_n 0, 1) := by decide +kernel
theorem dX5_row_39 : decode cX5_row 39 = .ok (.getfield 198, 3) := by decide +kernel
theorem dX5_row_42 : decode cX5_row 42 = .ok (.iload_n 1, 1) := by decide +kernel
theorem dX5_row_43 : decode cX5_row 43 = .ok (.iastore, 1) := by decide +kernel
theorem dX5_row_44 : decode cX5_row 44 = .ok (.aload_n 0, 1) := by decide +kernel
theorem dX5_row_45 : decode cX5_row 45 = .ok (.dup, 1) := by decide +kernel
theorem dX5_row_46 : decode cX5_row 46 = .ok (.getfield 198, 3) := by decide +kernel
theorem dX5_row_49 : decode cX5_row 49 = .ok (.iconst 1, 1) := by decide +kernel
theorem dX5_row_50 : decode cX5_row 50 = .ok (.iadd, 1) := by decide +kernel
theorem dX5_row_51 : decode cX5_row 51 = .ok (.putfield 198, 3) := by decide +kernel
theorem dX5_row_54 : decode cX5_row 54 = .ok (.aload_n 0, 1) := by decide +kernel
theorem dX5_row_55 : decode cX5_row 55 = .ok (.getfield 198, 3) := by decide +kernel
theorem dX5_row_58 : decode cX5_row 58 = .ok (.ireturn, 1) := by decide +kernel
theorem foX5_50 : Fo 5 RX5 TX5 23 21 RX5 50 := ⟨rfl, by decide, rfl, uwX5, rfl, Or.inl (tb_in 717 (by decide +kernel) rfl)⟩
theorem foX5_198 : Fo 5 RX5 TX5 23 22 RX5 198 := ⟨rfl, by decide, rfl, uwX5, rfl, Or.inl (tb_in 718 (by decide +kernel) rfl)⟩
theorem fpX5_22 : Fp TX5 23 tyX5 22 := ⟨tyX5_ok, nmX5, rfl⟩
def fX5_row (n : Nat) (a1 : Int32) (μ : Mem) : Option (Int32 × Mem) :=
  bd (fX5_bound n a1 0 9 μ) (fun r2 m1 => bnd (fun (x4 : Int32) (m5 : Mem) => if x4 = 0 then gd (inb (m5.1 47 22) 12) (bnd (setI m5 61 (Int32.toNatClampNeg (m5.1 47 22)) a1) (fun m6 => bnd (setI m6 47 22 ((m6.1 47 22) + 1)) (fun m7 => some ((m7.1 47 22), m7)))) else bd (fX5_no n x4 m5) (fun r9 m8 => some (r9, m8))) (fun kb3 => if r2 = 0 then if (m1.1 47 22) = 12 then kb3 (-6) m1 else kb3 r2 m1 else kb3 r2 m1))
set_option maxHeartbeats 4000000 in
set_option maxRecDepth 100000 in
theorem ctX5_row (ad : Nat → Nat) (n : Nat) (a1 : Int32) (μ : Mem) : Ct yX5_row kX5_row ad encI [.ref (ad 47), .int a1] μ (fX5_row n a1 μ) := Ct.of (by decide +kernel) rfl (Nat.le_of_ble_eq_true rfl) (by
  show G kX5_row ad encI 0 [(0, .ref (ad 47)), (1, .int a1)] [] μ (fX5_row n a1 μ)
  unfold fX5_row
  refine g_iload_n (pc := 0) 1 dX5_row_0 rfl rfl ?_
  refine g_iconst (pc := 1) 0 dX5_row_1 (by decide) ?_
  refine g_bipush (pc := 2) 9 dX5_row_2 (by decide) ?_
  refine g_cSI (pc := 4) (st := []) [.int a1, .int 0, .int 9] moX5_bound lnX5_60 (ctX5_bound ad n a1 0 9 μ) rfl ⟨Nat.le_of_ble_eq_true rfl, Nat.le_of_ble_eq_true rfl⟩ rfl (Nat.le_of_ble_eq_true rfl) dX5_row_4 (fun r2 m1 => ?_)
  refine g_istore_n (pc := 7) [(2, .int r2), (0, .ref (ad 47)), (1, .int a1)] dX5_row_7 rfl (by decide) rfl ?_
  refine g_iload_n (pc := 8) 0 dX5_row_8 rfl rfl ?_
  refine g_join (fun kb => ∀ (x4 : Int32) (m5 : Mem), G kX5_row ad encI 24 [(0, .ref (ad 47)), (1, .int a1), (2, .int x4)] [] m5 (kb x4 m5)) (fun x4 m5 => ?_) (fun kb3 hkb3 => ?_)
  · refine g_iload_n (pc := 24) 2 dX5_row_24 rfl rfl ?_
    refine g_if_eq (pc := 25) 34 dX5_row_25 rfl ?_ ?_
    · refine g_aload_n (pc := 34) 0 dX5_row_34 rfl rfl ?_
      refine g_get (pc := 35) rfl foX5_50 (v := .ref (ad 61)) rfl dX5_row_35 ?_
      refine g_aload_n (pc := 38) 0 dX5_row_38 rfl rfl ?_
      refine g_get (pc := 39) rfl foX5_198 (v := .int (m5.1 47 22)) rfl dX5_row_39 ?_
      refine g_iload_n (pc := 42) 1 dX5_row_42 rfl rfl ?_
      refine g_iast (pc := 43) rfl (by decide) dX5_row_43 (fun m6 => ?_)
      refine g_aload_n (pc := 44) 0 dX5_row_44 rfl rfl ?_
      refine g_dup (pc := 45) dX5_row_45 rfl ?_
      refine g_get (pc := 46) rfl foX5_198 (v := .int (m6.1 47 22)) rfl dX5_row_46 ?_
      refine g_iconst (pc := 49) 1 dX5_row_49 (by decide) ?_
      refine g_iadd (pc := 50) dX5_row_50 ?_
      refine g_put (pc := 51) rfl foX5_198 fpX5_22 rfl rfl dX5_row_51 (fun m7 => ?_)
      refine g_aload_n (pc := 54) 0 dX5_row_54 rfl rfl ?_
      refine g_get (pc := 55) rfl foX5_198 (v := .int (m7.1 47 22)) rfl dX5_row_55 ?_
      exact g_ireturn (pc := 58) dX5_row_58 rfl
    · refine g_aload_n (pc := 28) 0 dX5_row_28 rfl rfl ?_
      refine g_iload_n (pc := 29) 2 dX5_row_29 rfl rfl ?_
      refine g_cVI (pc := 30) (st := []) [.int x4] rfl rfl moX5_no lnX5_67 (ctX5_no ad n x4 m5) rfl ⟨Nat.le_of_ble_eq_true rfl, Nat.le_of_ble_eq_true rfl⟩ rfl (Nat.le_of_ble_eq_true rfl) dX5_row_30 (fun r9 m8 => ?_)
      exact g_ireturn (pc := 33) dX5_row_33 rfl
  ·
    refine g_if_ne (pc := 9) 24 dX5_row_9 rfl ?_ ?_
    · exact g_sub [1, 2, 0] rfl (hkb3 r2 m1)
    · refine g_aload_n (pc := 12) 1 dX5_row_12 rfl rfl ?_
      refine g_get (pc := 13) rfl foX5_198 (v := .int (m1.1 47 22)) rfl dX5_row_13 ?_
      refine g_bipush (pc := 16) 12 dX5_row_16 (by decide) ?_
      refine g_icmp_ne (pc := 18) 24 dX5_row_18 rfl ?_ ?_
      · exact g_sub [1, 2, 0] rfl (hkb3 r2 m1)
      · refine g_bipush (pc := 21) (-6) dX5_row_21 (by decide) ?_
        refine g_istore_n (pc := 23) [(2, .int (-6)), (0, .ref (ad 47)), (1, .int a1)] dX5_row_23 rfl (by decide) rfl ?_
        exact g_sub [1, 2, 0] rfl (hkb3 (-6) m1))
-- StopsByLettersModel.fits(I)J
abbrev kX5_fits : Cfg := (RX5, cX5_fits, 5, (some .long), 5)
theorem dX5_fits_0 : decode cX5_fits 0 = .ok (.aload_n 0, 1) := by decide +kernel
theorem dX5_fits_1 : decode cX5_fits 1 = .ok (.iload_n 1, 1) := by decide +kernel
theorem dX5_fits_2 : decode cX5_fits 2 = .ok (.invokevirtual 161, 3) := by decide +kernel
theorem dX5_fits_5 : decode cX5_fits 5 = .ok (.iconst 0, 1) := by decide +kernel
theorem dX5_fits_6 : decode cX5_fits 6 = .ok (.istore_n 2, 1) := by decide +kernel
theorem dX5_fits_7 : decode cX5_fits 7 = .ok (.iload_n 2, 1) := by decide +kernel
theorem dX5_fits_8 : decode cX5_fits 8 = .ok (.aload_n 0, 1) := by decide +kernel
theorem dX5_fits_9 : decode cX5_fits 9 = .ok (.getfield 198, 3) := by decide +kernel
theorem dX5_fits_12 : decode cX5_fits 12 = .ok (.if_icmp .ge 71, 3) := by decide +kernel
theorem dX5_fits_15 : decode cX5_fits 15 = .ok (.iload_n 2, 1) := by decide +kernel
theorem dX5_fits_16 : decode cX5_fits 16 = .ok (.ifCond .le 8, 3) := by decide +kernel
theorem dX5_fits_19 : decode cX5_fits 19 = .ok (.aload_n 0, 1) := by decide +kernel
theorem dX5_fits_20 : decode cX5_fits 20 = .ok (.iconst 0, 1) := by decide +kernel
theorem dX5_fits_21 : decode cX5_fits 21 = .ok (.invokevirtual 165, 3) := by decide +kernel
theorem dX5_fits_24 : decode cX5_fits 24 = .ok (.iconst 0, 1) := by decide +kernel
theorem dX5_fits_25 : decode cX5_fits 25 = .ok (.istore_n 3, 1) := by decide +kernel
theorem dX5_fits_26 : decode cX5_fits 26 = .ok (.iload_n 3, 1) := by decide +kernel
theorem dX5_fits_27 : decode cX5_fits 27 = .ok (.aload_n 0, 1) := by decide +kernel
theorem dX5_fits_28 : decode cX5_fits 28 = .ok (.getfield 56, 3) := by decide +kernel
theorem dX5_fits_31 : decode cX5_fits 31 = .ok (.if_icmp .ge 46, 3) := by decide +kernel
theorem dX5_fits_34 : decode cX5_fits 34 = .ok (.aload_n 0, 1) := by decide +kernel
theorem dX5_fits_35 : decode cX5_fits 35 = .ok (.getfield 43, 3) := by decide +kernel
theorem dX5_fits_38 : decode cX5_fits 38 = .ok (.iload_n 3, 1) := by decide +kernel
theorem dX5_fits_39 : decode cX5_fits 39 = .ok (.aload_n 0, 1) := by decide +kernel
theorem dX5_fits_40 : decode cX5_fits 40 = .ok (.getfield 50, 3) := by decide +kernel
theorem dX5_fits_43 : decode cX5_fits 43 = .ok (.iload_n 2, 1) := by decide +kernel
theorem dX5_fits_44 : decode cX5_fits 44 = .ok (.iaload, 1) := by decide +kernel
theorem dX5_fits_45 : decode cX5_fits 45 = .ok (.bipush 9, 2) := by decide +kernel
theorem dX5_fits_47 : decode cX5_fits 47 = .ok (.if_icmp .eq 13, 3) := by decide +kernel
theorem dX5_fits_50 : decode cX5_fits 50 = .ok (.aload_n 0, 1) := by decide +kernel
theorem dX5_fits_51 : decode cX5_fits 51 = .ok (.getfield 50, 3) := by decide +kernel
theorem dX5_fits_54 : decode cX5_fits 54 = .ok (.iload_n 2, 1) := by decide +kernel
theorem dX5_fits_55 : decode cX5_fits 55 = .ok (.iaload, 1) := by decide +kernel
theorem dX5_fits_56 : decode cX5_fits 56 = .ok (.iload_n 3, 1) := by decide +kernel
theorem dX5_fits_57 : decode cX5_fits 57 = .ok (.if_icmp .ne 12, 3) := by decide +kernel
theorem dX5_fits_60 : decode cX5_fits 60 = .ok (.aload_n 0, 1) := by decide +kernel
theorem dX5_fits_61 : decode cX5_fits 61 = .ok (.getfield 43, 3) := by decide +kernel
theorem dX5_fits_64 : decode cX5_fits 64 = .ok (.iload_n 3, 1) := by decide +kernel
theorem dX5_fits_65 : decode cX5_fits 65 = .ok (.laload, 1) := by decide +kernel
theorem dX5_fits_66 : decode cX5_fits 66 = .ok (.goto 4, 3) := by decide +kernel
theorem dX5_fits_69 : decode cX5_fits 69 = .ok (.lconst 0, 1) := by decide +kernel
theorem dX5_fits_70 : decode cX5_fits 70 = .ok (.lastore, 1) := by decide +kernel
theorem dX5_fits_71 : decode cX5_fits 71 = .ok (.iinc 3 1, 3) := by decide +kernel
theorem dX5_fits_74 : decode cX5_fits 74 = .ok (.goto (-48), 3) := by decide +kernel
theorem dX5_fits_77 : decode cX5_fits 77 = .ok (.iinc 2 1, 3) := by decide +kernel
theorem dX5_fits_80 : decode cX5_fits 80 = .ok (.goto (-73), 3) := by decide +kernel
theorem dX5_fits_83 : decode cX5_fits 83 = .ok (.lconst 0, 1) := by decide +kernel
theorem dX5_fits_84 : decode cX5_fits 84 = .ok (.lstore_n 2, 1) := by decide +kernel
theorem dX5_fits_85 : decode cX5_fits 85 = .ok (.iconst 0, 1) := by decide +kernel
theorem dX5_fits_86 : decode cX5_fits 86 = .ok (.istore 4, 2) := by decide +kernel
theorem dX5_fits_88 : decode cX5_fits 88 = .ok (.iload 4, 2) := by decide +kernel
theorem dX5_fits_90 : decode cX5_fits 90 = .ok (.aload_n 0, 1) := by decide +kernel
theorem dX5_fits_91 : decode cX5_fits 91 = .ok (.getfield 56, 3) := by decide +kernel
theorem dX5_fits_94 : decode cX5_fits 94 = .ok (.if_icmp .ge 19, 3) := by decide +kernel
theorem dX5_fits_97 : decode cX5_fits 97 = .ok (.lload_n 2, 1) := by decide +kernel
theorem dX5_fits_98 : decode cX5_fits 98 = .ok (.aload_n 0, 1) := by decide +kernel
theorem dX5_fits_99 : decode cX5_fits 99 = .ok (.getfield 43, 3) := by decide +kernel
theorem dX5_fits_102 : decode cX5_fits 102 = .ok (.iload 4, 2) := by decide +kernel
theorem dX5_fits_104 : decode cX5_fits 104 = .ok (.laload, 1) := by decide +kernel
theorem dX5_fits_105 : decode cX5_fits 105 = .ok (.ladd, 1) := by decide +kernel
theorem dX5_fits_106 : decode cX5_fits 106 = .ok (.lstore_n 2, 1) := by decide +kernel
theorem dX5_fits_107 : decode cX5_fits 107 = .ok (.iinc 4 1, 3) := by decide +kernel
theorem dX5_fits_110 : decode cX5_fits 110 = .ok (.goto (-22), 3) := by decide +kernel
theorem dX5_fits_113 : decode cX5_fits 113 = .ok (.lload_n 2, 1) := by decide +kernel
theorem dX5_fits_114 : decode cX5_fits 114 = .ok (.lreturn, 1) := by decide +kernel
def fX5_fits_L26 (n : Nat) (v2 : Int32) (K1 : Mem → Option (Int64 × Mem)) : Nat → Int32 → Mem → Option (Int64 × Mem)
  | 0, _, _ => none
  | F + 1, v3, μ => if (μ.1 47 4) ≤ v3 then K1 μ else gd (inb v2 12) (bnd (fun (m4 : Mem) => gd (inb v3 9) (gd (inb v3 9) (bnd (setJ m4 59 (Int32.toNatClampNeg v3) (m4.2 59 (Int32.toNatClampNeg v3))) (fun m5 => bnd (v3 + 1) (fun x6 => fX5_fits_L26 n v2 K1 F x6 m5))))) (fun kb3 => if (μ.1 61 (Int32.toNatClampNeg v2)) = 9 then kb3 μ else gd (inb v2 12) (if (μ.1 61 (Int32.toNatClampNeg v2)) = v3 then kb3 μ else gd (inb v3 9) (bnd (setJ μ 59 (Int32.toNatClampNeg v3) 0) (fun m7 => bnd (v3 + 1) (fun x8 => fX5_fits_L26 n v2 K1 F x8 m7))))))
def fX5_fits_L7 (n : Nat) (K1 : Mem → Option (Int64 × Mem)) : Nat → Int32 → Mem → Option (Int64 × Mem)
  | 0, _, _ => none
  | F + 1, v2, μ => if (μ.1 47 22) ≤ v2 then K1 μ else if v2 ≤ 0 then fX5_fits_L26 n v2 (fun (m9 : Mem) => bnd (v2 + 1) (fun x10 => fX5_fits_L7 n K1 F x10 m9)) n 0 μ else bd (fX5_goesWays n 0 μ) (fun r12 m11 => fX5_fits_L26 n v2 (fun (m13 : Mem) => bnd (v2 + 1) (fun x14 => fX5_fits_L7 n K1 F x14 m13)) n 0 m11)
def fX5_fits_L88 (n : Nat) : Nat → Int64 → Int32 → Mem → Option (Int64 × Mem)
  | 0, _, _, _ => none
  | F + 1, v2, v4, μ => if (μ.1 47 4) ≤ v4 then some (v2, μ) else gd (inb v4 9) (bnd (v2 + (μ.2 59 (Int32.toNatClampNeg v4))) (fun x16 => bnd (v4 + 1) (fun x17 => fX5_fits_L88 n F x16 x17 μ)))
def fX5_fits (n : Nat) (a1 : Int32) (μ : Mem) : Option (Int64 × Mem) :=
  bd (fX5_beginsAt n a1 μ) (fun r2 m1 => fX5_fits_L7 n (fun (m15 : Mem) => fX5_fits_L88 n n 0 0 m15) n 0 m1)
set_option maxHeartbeats 4000000 in
set_option maxRecDepth 100000 in
theorem wX5_fits_L26 (ad : Nat → Nat) (n : Nat) (v2 : Int32) (K1 : Mem → Option (Int64 × Mem)) (hK1 : ∀ (μ : Mem), G kX5_fits ad encJ 77 [(0, .ref (ad 47)), (2, .int v2)] [] μ (K1 μ)) : ∀ (F : Nat) (v3 : Int32) (μ : Mem), G kX5_fits ad encJ 26 [(0, .ref (ad 47)), (2, .int v2), (3, .int v3)] [] μ (fX5_fits_L26 n v2 K1 F v3 μ) := by
  intro F
  induction F with
  | zero =>
    intro v3 μ
    exact g_none
  | succ F ih =>
    intro v3 μ
    rw [fX5_fits_L26]
    refine g_iload_n (pc := 26) 2 dX5_fits_26 rfl rfl ?_
    refine g_aload_n (pc := 27) 0 dX5_fits_27 rfl rfl ?_
    refine g_get (pc := 28) rfl foX5_56 (v := .int (μ.1 47 4)) rfl dX5_fits_28 ?_
    refine g_icmp_ge (pc := 31) 77 dX5_fits_31 rfl ?_ ?_
    · exact g_sub [0, 1] rfl (hK1 μ)
    · refine g_aload_n (pc := 34) 0 dX5_fits_34 rfl rfl ?_
      refine g_get (pc := 35) rfl foX5_43 (v := .ref (ad 59)) rfl dX5_fits_35 ?_
      refine g_iload_n (pc := 38) 2 dX5_fits_38 rfl rfl ?_
      refine g_aload_n (pc := 39) 0 dX5_fits_39 rfl rfl ?_
      refine g_get (pc := 40) rfl foX5_50 (v := .ref (ad 61)) rfl dX5_fits_40 ?_
      refine g_iload_n (pc := 43) 1 dX5_fits_43 rfl rfl ?_
      refine g_iald (pc := 44) rfl (by decide) dX5_fits_44 ?_
      refine g_bipush (pc := 45) 9 dX5_fits_45 (by decide) ?_
      refine g_join (fun kb => ∀ (m4 : Mem), G kX5_fits ad encJ 60 [(0, .ref (ad 47)), (2, .int v2), (3, .int v3)] [.int v3, .ref (ad 59)] m4 (kb m4)) (fun m4 => ?_) (fun kb3 hkb3 => ?_)
      · refine g_aload_n (pc := 60) 0 dX5_fits_60 rfl rfl ?_
        refine g_get (pc := 61) rfl foX5_43 (v := .ref (ad 59)) rfl dX5_fits_61 ?_
        refine g_iload_n (pc := 64) 2 dX5_fits_64 rfl rfl ?_
        refine g_lald (pc := 65) rfl dX5_fits_65 ?_
        refine g_goto (pc := 66) 70 dX5_fits_66 rfl ?_
        refine g_last (pc := 70) rfl dX5_fits_70 (fun m5 => ?_)
        refine g_iincB (pc := 71) 2 1 1 (fun x6 => [(3, .int x6), (0, .ref (ad 47)), (2, .int v2)]) dX5_fits_71 rfl (by decide) (by decide) (fun _ => rfl) (fun x6 => ?_)
        refine g_goto (pc := 74) 26 dX5_fits_74 rfl ?_
        exact g_sub [1, 2, 0] rfl (ih x6 m5)
      ·
        refine g_icmp_eq (pc := 47) 60 dX5_fits_47 rfl ?_ ?_
        · exact g_sub [0, 1, 2] rfl (hkb3 μ)
        · refine g_aload_n (pc := 50) 0 dX5_fits_50 rfl rfl ?_
          refine g_get (pc := 51) rfl foX5_50 (v := .ref (ad 61)) rfl dX5_fits_51 ?_
          refine g_iload_n (pc := 54) 1 dX5_fits_54 rfl rfl ?_
          refine g_iald (pc := 55) rfl (by decide) dX5_fits_55 ?_
          refine g_iload_n (pc := 56) 2 dX5_fits_56 rfl rfl ?_
          refine g_icmp_ne (pc := 57) 69 dX5_fits_57 rfl ?_ ?_
          · refine g_lconst (pc := 69) 0 dX5_fits_69 (by decide) ?_
            refine g_last (pc := 70) rfl dX5_fits_70 (fun m7 => ?_)
            refine g_iincB (pc := 71) 2 1 1 (fun x8 => [(3, .int x8), (0, .ref (ad 47)), (2, .int v2)]) dX5_fits_71 rfl (by decide) (by decide) (fun _ => rfl) (fun x8 => ?_)
            refine g_goto (pc := 74) 26 dX5_fits_74 rfl ?_
            exact g_sub [1, 2, 0] rfl (ih x8 m7)
          · exact g_sub [0, 1, 2] rfl (hkb3 μ)
set_option maxHeartbeats 4000000 in
set_option maxRecDepth 100000 in
theorem wX5_fits_L7 (ad : Nat → Nat) (n : Nat) (K1 : Mem → Option (Int64 × Mem)) (hK1 : ∀ (μ : Mem), G kX5_fits ad encJ 83 [(0, .ref (ad 47))] [] μ (K1 μ)) : ∀ (F : Nat) (v2 : Int32) (μ : Mem), G kX5_fits ad encJ 7 [(0, .ref (ad 47)), (2, .int v2)] [] μ (fX5_fits_L7 n K1 F v2 μ) := by
  intro F
  induction F with
  | zero =>
    intro v2 μ
    exact g_none
  | succ F ih =>
    intro v2 μ
    rw [fX5_fits_L7]
    refine g_iload_n (pc := 7) 1 dX5_fits_7 rfl rfl ?_
    refine g_aload_n (pc := 8) 0 dX5_fits_8 rfl rfl ?_
    refine g_get (pc := 9) rfl foX5_198 (v := .int (μ.1 47 22)) rfl dX5_fits_9 ?_
    refine g_icmp_ge (pc := 12) 83 dX5_fits_12 rfl ?_ ?_
    · exact g_sub [0] rfl (hK1 μ)
    · refine g_iload_n (pc := 15) 1 dX5_fits_15 rfl rfl ?_
      refine g_if_le (pc := 16) 24 dX5_fits_16 rfl ?_ ?_
      · refine g_iconst (pc := 24) 0 dX5_fits_24 (by decide) ?_
        refine g_istore_n (pc := 25) [(3, .int 0), (0, .ref (ad 47)), (2, .int v2)] dX5_fits_25 rfl (by decide) rfl ?_
        refine g_sub [1, 2, 0] rfl (wX5_fits_L26 ad n v2 _ (fun m9 => ?_) n 0 μ)
        refine g_iincB (pc := 77) 1 1 1 (fun x10 => [(2, .int x10), (0, .ref (ad 47))]) dX5_fits_77 rfl (by decide) (by decide) (fun _ => rfl) (fun x10 => ?_)
        refine g_goto (pc := 80) 7 dX5_fits_80 rfl ?_
        exact g_sub [1, 0] rfl (ih x10 m9)
      · refine g_aload_n (pc := 19) 0 dX5_fits_19 rfl rfl ?_
        refine g_iconst (pc := 20) 0 dX5_fits_20 (by decide) ?_
        refine g_cVV (pc := 21) (st := []) [.int 0] rfl rfl moX5_goesWays lnX5_165 (ctX5_goesWays ad n 0 μ) rfl ⟨Nat.le_of_ble_eq_true rfl, Nat.le_of_ble_eq_true rfl⟩ rfl (Nat.le_of_ble_eq_true rfl) dX5_fits_21 (fun r12 m11 => ?_)
        refine g_iconst (pc := 24) 0 dX5_fits_24 (by decide) ?_
        refine g_istore_n (pc := 25) [(3, .int 0), (0, .ref (ad 47)), (2, .int v2)] dX5_fits_25 rfl (by decide) rfl ?_
        refine g_sub [1, 2, 0] rfl (wX5_fits_L26 ad n v2 _ (fun m13 => ?_) n 0 m11)
        refine g_iincB (pc := 77) 1 1 1 (fun x14 => [(2, .int x14), (0, .ref (ad 47))]) dX5_fits_77 rfl (by decide) (by decide) (fun _ => rfl) (fun x14 => ?_)
        refine g_goto (pc := 80) 7 dX5_fits_80 rfl ?_
        exact g_sub [1, 0] rfl (ih x14 m13)
set_option maxHeartbeats 4000000 in
set_option maxRecDepth 100000 in
theorem wX5_fits_L88 (ad : Nat → Nat) (n : Nat) : ∀ (F : Nat) (v2 : Int64) (v4 : Int32) (μ : Mem), G kX5_fits ad encJ 88 [(0, .ref (ad 47)), (2, .long v2), (4, .int v4)] [] μ (fX5_fits_L88 n F v2 v4 μ) := by
  intro F
  induction F with
  | zero =>
    intro v2 v4 μ
    exact g_none
  | succ F ih =>
    intro v2 v4 μ
    rw [fX5_fits_L88]
    refine g_iload (pc := 88) 2 dX5_fits_88 rfl ?_
    refine g_aload_n (pc := 90) 0 dX5_fits_90 rfl rfl ?_
    refine g_get (pc := 91) rfl foX5_56 (v := .int (μ.1 47 4)) rfl dX5_fits_91 ?_
    refine g_icmp_ge (pc := 94) 113 dX5_fits_94 rfl ?_ ?_
    · refine g_lload_n (pc := 113) 1 dX5_fits_113 rfl rfl ?_
      exact g_lreturn (pc := 114) dX5_fits_114 rfl
    · refine g_lload_n (pc := 97) 1 dX5_fits_97 rfl rfl ?_
      refine g_aload_n (pc := 98) 0 dX5_fits_98 rfl rfl ?_
      refine g_get (pc := 99) rfl foX5_43 (v := .ref (ad 59)) rfl dX5_fits_99 ?_
      refine g_iload (pc := 102) 2 dX5_fits_102 rfl ?_
      refine g_lald (pc := 104) rfl dX5_fits_104 ?_
      refine g_ladd (pc := 105) dX5_fits_105 ?_
      refine g_lstore_nB (pc := 106) (fun x16 => [(2, .long x16), (0, .ref (ad 47)), (4, .int v4)]) dX5_fits_106 rfl (by decide) (fun _ => rfl) (fun x16 => ?_)
      refine g_iincB (pc := 107) 2 1 1 (fun x17 => [(4, .int x17), (2, .long x16), (0, .ref (ad 47))]) dX5_fits_107 rfl (by decide) (by decide) (fun _ => rfl) (fun x17 => ?_)
      refine g_goto (pc := 110) 88 dX5_fits_110 rfl ?_
      exact g_sub [2, 1, 0] rfl (ih x16 x17 μ)
set_option maxHeartbeats 4000000 in
set_option maxRecDepth 100000 in
theorem ctX5_fits (ad : Nat → Nat) (n : Nat) (a1 : Int32) (μ : Mem) : Ct yX5_fits kX5_fits ad encJ [.ref (ad 47), .int a1] μ (fX5_fits n a1 μ) := Ct.of (by decide +kernel) rfl (Nat.le_of_ble_eq_true rfl) (by
  show G kX5_fits ad encJ 0 [(0, .ref (ad 47)), (1, .int a1)] [] μ (fX5_fits n a1 μ)
  unfold fX5_fits
  refine g_aload_n (pc := 0) 0 dX5_fits_0 rfl rfl ?_
  refine g_iload_n (pc := 1) 1 dX5_fits_1 rfl rfl ?_
  refine g_cVV (pc := 2) (st := []) [.int a1] rfl rfl moX5_beginsAt lnX5_161 (ctX5_beginsAt ad n a1 μ) rfl ⟨Nat.le_of_ble_eq_true rfl, Nat.le_of_ble_eq_true rfl⟩ rfl (Nat.le_of_ble_eq_true rfl) dX5_fits_2 (fun r2 m1 => ?_)
  refine g_iconst (pc := 5) 0 dX5_fits_5 (by decide) ?_
  refine g_istore_n (pc := 6) [(2, .int 0), (0, .ref (ad 47)), (1, .int a1)] dX5_fits_6 rfl (by decide) rfl ?_
  refine g_sub [1, 0] rfl (wX5_fits_L7 ad n _ (fun m15 => ?_) n 0 m1)
  refine g_lconst (pc := 83) 0 dX5_fits_83 (by decide) ?_
  refine g_lstore_n (pc := 84) [(2, .long 0), (0, .ref (ad 47))] dX5_fits_84 rfl (by decide) rfl ?_
  refine g_iconst (pc := 85) 0 dX5_fits_85 (by decide) ?_
  refine g_istore (pc := 86) [(4, .int 0), (2, .long 0), (0, .ref (ad 47))] dX5_fits_86 (by decide) rfl ?_
  exact g_sub [2, 1, 0] rfl (wX5_fits_L88 ad n n 0 0 m15))
-- StopsByLettersModel.fitsAll()J
abbrev kX5_fitsAll : Cfg := (RX5, cX5_fitsAll, 4, (some .long), 6)
theorem dX5_fitsAll_0 : decode cX5_fitsAll 0 = .ok (.lconst 0, 1) := by decide +kernel
theorem dX5_fitsAll_1 : decode cX5_fitsAll 1 = .ok (.lstore_n 1, 1) := by decide +kernel
theorem dX5_fitsAll_2 : decode cX5_fitsAll 2 = .ok (.iconst 0, 1) := by decide +kernel
theorem dX5_fitsAll_3 : decode cX5_fitsAll 3 = .ok (.istore_n 3, 1) := by decide +kernel
theorem dX5_fitsAll_4 : decode cX5_fitsAll 4 = .ok (.iload_n 3, 1) := by decide +kernel
theorem dX5_fitsAll_5 : decode cX5_fitsAll 5 = .ok (.aload_n 0, 1) := by decide +kernel
theorem dX5_fitsAll_6 : decode cX5_fitsAll 6 = .ok (.getfield 56, 3) := by decide +kernel
theorem dX5_fitsAll_9 : decode cX5_fitsAll 9 = .ok (.if_icmp .ge 17, 3) := by decide +kernel
theorem dX5_fitsAll_12 : decode cX5_fitsAll 12 = .ok (.lload_n 1, 1) := by decide +kernel
theorem dX5_fitsAll_13 : decode cX5_fitsAll 13 = .ok (.aload_n 0, 1) := by decide +kernel
theorem dX5_fitsAll_14 : decode cX5_fitsAll 14 = .ok (.iload_n 3, 1) := by decide +kernel
theorem dX5_fitsAll_15 : decode cX5_fitsAll 15 = .ok (.invokevirtual 201, 3) := by decide +kernel
theorem dX5_fitsAll_18 : decode cX5_fitsAll 18 = .ok (.ladd, 1) := by decide +kernel
theorem dX5_fitsAll_19 : decode cX5_fitsAll 19 = .ok (.lstore_n 1, 1) := by decide +kernel
theorem dX5_fitsAll_20 : decode cX5_fitsAll 20 = .ok (.iinc 3 1, 3) := by decide +kernel
theorem dX5_fitsAll_23 : decode cX5_fitsAll 23 = .ok (.goto (-19), 3) := by decide +kernel
theorem dX5_fitsAll_26 : decode cX5_fitsAll 26 = .ok (.lload_n 1, 1) := by decide +kernel
theorem dX5_fitsAll_27 : decode cX5_fitsAll 27 = .ok (.lreturn, 1) := by decide +kernel
theorem lnX5_201 : Ln RX5 201 yX5_fits := Or.inl (tb_in 999 (by decide +kernel) rfl)
theorem moX5_fits : Mv yX5_fits kX5_fits 1 := ⟨⟨tb_in 1002 (by decide +kernel) rfl, tb_in 92 (by decide +kernel) rfl, ⟨by decide, by decide⟩, by decide +kernel⟩, tb_in 1001 (by decide +kernel) rfl, tb_in 84 (by decide +kernel) rfl⟩
def fX5_fitsAll_L4 (n : Nat) : Nat → Int64 → Int32 → Mem → Option (Int64 × Mem)
  | 0, _, _, _ => none
  | F + 1, v1, v3, μ => if (μ.1 47 4) ≤ v3 then some (v1, μ) else bd (fX5_fits n v3 μ) (fun r2 m1 => bnd (v1 + r2) (fun x3 => bnd (v3 + 1) (fun x4 => fX5_fitsAll_L4 n F x3 x4 m1)))
def fX5_fitsAll (n : Nat) (μ : Mem) : Option (Int64 × Mem) :=
  fX5_fitsAll_L4 n n 0 0 μ
set_option maxHeartbeats 4000000 in
set_option maxRecDepth 100000 in
theorem wX5_fitsAll_L4 (ad : Nat → Nat) (n : Nat) : ∀ (F : Nat) (v1 : Int64) (v3 : Int32) (μ : Mem), G kX5_fitsAll ad encJ 4 [(0, .ref (ad 47)), (1, .long v1), (3, .int v3)] [] μ (fX5_fitsAll_L4 n F v1 v3 μ) := by
  intro F
  induction F with
  | zero =>
    intro v1 v3 μ
    exact g_none
  | succ F ih =>
    intro v1 v3 μ
    rw [fX5_fitsAll_L4]
    refine g_iload_n (pc := 4) 2 dX5_fitsAll_4 rfl rfl ?_
    refine g_aload_n (pc := 5) 0 dX5_fitsAll_5 rfl rfl ?_
    refine g_get (pc := 6) rfl foX5_56 (v := .int (μ.1 47 4)) rfl dX5_fitsAll_6 ?_
    refine g_icmp_ge (pc := 9) 26 dX5_fitsAll_9 rfl ?_ ?_
    · refine g_lload_n (pc := 26) 1 dX5_fitsAll_26 rfl rfl ?_
      exact g_lreturn (pc := 27) dX5_fitsAll_27 rfl
    · refine g_lload_n (pc := 12) 1 dX5_fitsAll_12 rfl rfl ?_
      refine g_aload_n (pc := 13) 0 dX5_fitsAll_13 rfl rfl ?_
      refine g_iload_n (pc := 14) 2 dX5_fitsAll_14 rfl rfl ?_
      refine g_cVJ (pc := 15) (st := [.long v1]) [.int v3] rfl rfl moX5_fits lnX5_201 (ctX5_fits ad n v3 μ) rfl ⟨Nat.le_of_ble_eq_true rfl, Nat.le_of_ble_eq_true rfl⟩ rfl (Nat.le_of_ble_eq_true rfl) dX5_fitsAll_15 (fun r2 m1 => ?_)
      refine g_ladd (pc := 18) dX5_fitsAll_18 ?_
      refine g_lstore_nB (pc := 19) (fun x3 => [(1, .long x3), (0, .ref (ad 47)), (3, .int v3)]) dX5_fitsAll_19 rfl (by decide) (fun _ => rfl) (fun x3 => ?_)
      refine g_iincB (pc := 20) 2 1 1 (fun x4 => [(3, .int x4), (1, .long x3), (0, .ref (ad 47))]) dX5_fitsAll_20 rfl (by decide) (by decide) (fun _ => rfl) (fun x4 => ?_)
      refine g_goto (pc := 23) 4 dX5_fitsAll_23 rfl ?_
      exact g_sub [2, 1, 0] rfl (ih x3 x4 m1)
set_option maxHeartbeats 4000000 in
set_option maxRecDepth 100000 in
theorem ctX5_fitsAll (ad : Nat → Nat) (n : Nat) (μ : Mem) : Ct yX5_fitsAll kX5_fitsAll ad encJ [.ref (ad 47)] μ (fX5_fitsAll n μ) := Ct.of (by decide +kernel) rfl (Nat.le_of_ble_eq_true rfl) (by
  show G kX5_fitsAll ad encJ 0 [(0, .ref (ad 47))] [] μ (fX5_fitsAll n μ)
  unfold fX5_fitsAll
  refine g_lconst (pc := 0) 0 dX5_fitsAll_0 (by decide) ?_
  refine g_lstore_n (pc := 1) [(1, .long 0), (0, .ref (ad 47))] dX5_fitsAll_1 rfl (by decide) rfl ?_
  refine g_iconst (pc := 2) 0 dX5_fitsAll_2 (by decide) ?_
  refine g_istore_n (pc := 3) [(3, .int 0), (1, .long 0), (0, .ref (ad 47))] dX5_fitsAll_3 rfl (by decide) rfl ?_
  exact g_sub [2, 1, 0] rfl (wX5_fitsAll_L4 ad n n 0 0 μ))
-- StopsByLettersModel.gotOn(I)J
abbrev kX5_gotOn : Cfg := (RX5, cX5_gotOn, 5, (some .long), 7)
theorem dX5_gotOn_0 : decode cX5_gotOn 0 = .ok (.iload_n 1, 1) := by decide +kernel
theorem dX5_gotOn_1 : decode cX5_gotOn 1 = .ok (.iconst 0, 1) := by decide +kernel
theorem dX5_gotOn_2 : decode cX5_gotOn 2 = .ok (.iconst 1, 1) := by decide +kernel
theorem dX5_gotOn_3 : decode cX5_gotOn 3 = .ok (.invokestatic 81, 3) := by decide +kernel
theorem dX5_gotOn_6 : decode cX5_gotOn 6 = .ok (.ifCond .ne 10, 3) := by decide +kernel
theorem dX5_gotOn_9 : decode cX5_gotOn 9 = .ok (.aload_n 0, 1) := by decide +kernel
theorem dX5_gotOn_10 : decode cX5_gotOn 10 = .ok (.bipush (-2), 2) := by decide +kernel
theorem dX5_gotOn_12 : decode cX5_gotOn 12 = .ok (.invokevirtual 157, 3) := by decide +kernel
theorem dX5_gotOn_15 : decode cX5_gotOn 15 = .ok (.lreturn, 1) := by decide +kernel
theorem dX5_gotOn_16 : decode cX5_gotOn 16 = .ok (.aload_n 0, 1) := by decide +kernel
theorem dX5_gotOn_17 : decode cX5_gotOn 17 = .ok (.getfield 198, 3) := by decide +kernel
theorem dX5_gotOn_20 : decode cX5_gotOn 20 = .ok (.ifCond .ne 10, 3) := by decide +kernel
theorem dX5_gotOn_23 : decode cX5_gotOn 23 = .ok (.aload_n 0, 1) := by decide +kernel
theorem dX5_gotOn_24 : decode cX5_gotOn 24 = .ok (.bipush (-3), 2) := by decide +kernel
theorem dX5_gotOn_26 : decode cX5_gotOn 26 = .ok (.invokevirtual 157, 3) := by decide +kernel
theorem dX5_gotOn_29 : decode cX5_gotOn 29 = .ok (.lreturn, 1) := by decide +kernel
theorem dX5_gotOn_30 : decode cX5_gotOn 30 = .ok (.iload_n 1, 1) := by decide +kernel
theorem dX5_gotOn_31 : decode cX5_gotOn 31 = .ok (.iconst 1, 1) := by decide +kernel
theorem dX5_gotOn_32 : decode cX5_gotOn 32 = .ok (.if_icmp .ne 8, 3) := by decide +kernel
theorem dX5_gotOn_35 : decode cX5_gotOn 35 = .ok (.aload_n 0, 1) := by decide +kernel
theorem dX5_gotOn_36 : decode cX5_gotOn 36 = .ok (.invokevirtual 204, 3) := by decide +kernel
theorem dX5_gotOn_39 : decode cX5_gotOn 39 = .ok (.lreturn, 1) := by decide +kernel
theorem dX5_gotOn_40 : decode cX5_gotOn 40 = .ok (.lconst 0, 1) := by decide +kernel
theorem dX5_gotOn_41 : decode cX5_gotOn 41 = .ok (.lstore_n 2, 1) := by decide +kernel
theorem dX5_gotOn_42 : decode cX5_gotOn 42 = .ok (.iconst 0, 1) := by decide +kernel
theorem dX5_gotOn_43 : decode cX5_gotOn 43 = .ok (.istore 4, 2) := by decide +kernel
theorem dX5_gotOn_45 : decode cX5_gotOn 45 = .ok (.iload 4, 2) := by decide +kernel
theorem dX5_gotOn_47 : decode cX5_gotOn 47 = .ok (.aload_n 0, 1) := by decide +kernel
theorem dX5_gotOn_48 : decode cX5_gotOn 48 = .ok (.getfield 56, 3) := by decide +kernel
theorem dX5_gotOn_51 : decode cX5_gotOn 51 = .ok (.if_icmp .ge 31, 3) := by decide +kernel
theorem dX5_gotOn_54 : decode cX5_gotOn 54 = .ok (.lload_n 2, 1) := by decide +kernel
theorem dX5_gotOn_55 : decode cX5_gotOn 55 = .ok (.aload_n 0, 1) := by decide +kernel
theorem dX5_gotOn_56 : decode cX5_gotOn 56 = .ok (.iload 4, 2) := by decide +kernel
theorem dX5_gotOn_58 : decode cX5_gotOn 58 = .ok (.invokevirtual 201, 3) := by decide +kernel
theorem dX5_gotOn_61 : decode cX5_gotOn 61 = .ok (.lconst 0, 1) := by decide +kernel
theorem dX5_gotOn_62 : decode cX5_gotOn 62 = .ok (.lcmp, 1) := by decide +kernel
theorem dX5_gotOn_63 : decode cX5_gotOn 63 = .ok (.ifCond .le 10, 3) := by decide +kernel
theorem dX5_gotOn_66 : decode cX5_gotOn 66 = .ok (.lconst 1, 1) := by decide +kernel
theorem dX5_gotOn_67 : decode cX5_gotOn 67 = .ok (.iload 4, 2) := by decide +kernel
theorem dX5_gotOn_69 : decode cX5_gotOn 69 = .ok (.lshl, 1) := by decide +kernel
theorem dX5_gotOn_70 : decode cX5_gotOn 70 = .ok (.goto 4, 3) := by decide +kernel
theorem dX5_gotOn_73 : decode cX5_gotOn 73 = .ok (.lconst 0, 1) := by decide +kernel
theorem dX5_gotOn_74 : decode cX5_gotOn 74 = .ok (.ladd, 1) := by decide +kernel
theorem dX5_gotOn_75 : decode cX5_gotOn 75 = .ok (.lstore_n 2, 1) := by decide +kernel
theorem dX5_gotOn_76 : decode cX5_gotOn 76 = .ok (.iinc 4 1, 3) := by decide +kernel
theorem dX5_gotOn_79 : decode cX5_gotOn 79 = .ok (.goto (-34), 3) := by decide +kernel
theorem dX5_gotOn_82 : decode cX5_gotOn 82 = .ok (.lload_n 2, 1) := by decide +kernel
theorem dX5_gotOn_83 : decode cX5_gotOn 83 = .ok (.lreturn, 1) := by decide +kernel
def fX5_gotOn_L45 (n : Nat) : Nat → Int64 → Int32 → Mem → Option (Int64 × Mem)
  | 0, _, _, _ => none
  | F + 1, v2, v4, μ => if (μ.1 47 4) ≤ v4 then some (v2, μ) else bd (fX5_fits n v4 μ) (fun r4 m3 => bnd (fun (x6 : Int64) (m7 : Mem) => bnd (v2 + x6) (fun x8 => bnd (v4 + 1) (fun x9 => fX5_gotOn_L45 n F x8 x9 m7))) (fun kb5 => if (lg_cmp r4 0) ≤ 0 then kb5 0 m3 else kb5 (jlshl 1 v4) m3))
theorem lnX5_204 : Ln RX5 204 yX5_fitsAll := Or.inl (tb_in 995 (by decide +kernel) rfl)
theorem moX5_fitsAll : Mv yX5_fitsAll kX5_fitsAll 0 := ⟨⟨tb_in 998 (by decide +kernel) rfl, tb_in 92 (by decide +kernel) rfl, ⟨by decide, by decide⟩, by decide +kernel⟩, tb_in 997 (by decide +kernel) rfl, tb_in 83 (by decide +kernel) rfl⟩
def fX5_gotOn (n : Nat) (a1 : Int32) (μ : Mem) : Option (Int64 × Mem) :=
  bd (fX5_isIn n a1 0 1 μ) (fun r2 m1 => if r2 = 0 then bd (fX5_lowest n (-2) m1) (fun r15 m14 => some (r15, m14)) else if (m1.1 47 22) = 0 then bd (fX5_lowest n (-3) m1) (fun r13 m12 => some (r13, m12)) else if a1 = 1 then bd (fX5_fitsAll n m1) (fun r11 m10 => some (r11, m10)) else fX5_gotOn_L45 n n 0 0 m1)
set_option maxHeartbeats 4000000 in
set_option maxRecDepth 100000 in
theorem wX5_gotOn_L45 (ad : Nat → Nat) (n : Nat) : ∀ (F : Nat) (v2 : Int64) (v4 : Int32) (μ : Mem), G kX5_gotOn ad encJ 45 [(0, .ref (ad 47)), (2, .long v2), (4, .int v4)] [] μ (fX5_gotOn_L45 n F v2 v4 μ) := by
  intro F
  induction F with
  | zero =>
    intro v2 v4 μ
    exact g_none
  | succ F ih =>
    intro v2 v4 μ
    rw [fX5_gotOn_L45]
    refine g_iload (pc := 45) 2 dX5_gotOn_45 rfl ?_
    refine g_aload_n (pc := 47) 0 dX5_gotOn_47 rfl rfl ?_
    refine g_get (pc := 48) rfl foX5_56 (v := .int (μ.1 47 4)) rfl dX5_gotOn_48 ?_
    refine g_icmp_ge (pc := 51) 82 dX5_gotOn_51 rfl ?_ ?_
    · refine g_lload_n (pc := 82) 1 dX5_gotOn_82 rfl rfl ?_
      exact g_lreturn (pc := 83) dX5_gotOn_83 rfl
    · refine g_lload_n (pc := 54) 1 dX5_gotOn_54 rfl rfl ?_
      refine g_aload_n (pc := 55) 0 dX5_gotOn_55 rfl rfl ?_
      refine g_iload (pc := 56) 2 dX5_gotOn_56 rfl ?_
      refine g_cVJ (pc := 58) (st := [.long v2]) [.int v4] rfl rfl moX5_fits lnX5_201 (ctX5_fits ad n v4 μ) rfl ⟨Nat.le_of_ble_eq_true rfl, Nat.le_of_ble_eq_true rfl⟩ rfl (Nat.le_of_ble_eq_true rfl) dX5_gotOn_58 (fun r4 m3 => ?_)
      refine g_lconst (pc := 61) 0 dX5_gotOn_61 (by decide) ?_
      refine g_lcmp (pc := 62) dX5_gotOn_62 ?_
      refine g_join (fun kb => ∀ (x6 : Int64) (m7 : Mem), G kX5_gotOn ad encJ 74 [(0, .ref (ad 47)), (4, .int v4)] [.long x6, .long v2] m7 (kb x6 m7)) (fun x6 m7 => ?_) (fun kb5 hkb5 => ?_)
      · refine g_ladd (pc := 74) dX5_gotOn_74 ?_
        refine g_lstore_nB (pc := 75) (fun x8 => [(2, .long x8), (0, .ref (ad 47)), (4, .int v4)]) dX5_gotOn_75 rfl (by decide) (fun _ => rfl) (fun x8 => ?_)
        refine g_iincB (pc := 76) 2 1 1 (fun x9 => [(4, .int x9), (2, .long x8), (0, .ref (ad 47))]) dX5_gotOn_76 rfl (by decide) (by decide) (fun _ => rfl) (fun x9 => ?_)
        refine g_goto (pc := 79) 45 dX5_gotOn_79 rfl ?_
        exact g_sub [2, 1, 0] rfl (ih x8 x9 m7)
      ·
        refine g_if_le (pc := 63) 73 dX5_gotOn_63 rfl ?_ ?_
        · refine g_lconst (pc := 73) 0 dX5_gotOn_73 (by decide) ?_
          exact g_sub [0, 2] rfl (hkb5 0 m3)
        · refine g_lconst (pc := 66) 1 dX5_gotOn_66 (by decide) ?_
          refine g_iload (pc := 67) 2 dX5_gotOn_67 rfl ?_
          refine g_lshl' (pc := 69) dX5_gotOn_69 ?_
          refine g_goto (pc := 70) 74 dX5_gotOn_70 rfl ?_
          exact g_sub [0, 2] rfl (hkb5 (jlshl 1 v4) m3)
set_option maxHeartbeats 4000000 in
set_option maxRecDepth 100000 in
theorem ctX5_gotOn (ad : Nat → Nat) (n : Nat) (a1 : Int32) (μ : Mem) : Ct yX5_gotOn kX5_gotOn ad encJ [.ref (ad 47), .int a1] μ (fX5_gotOn n a1 μ) := Ct.of (by decide +kernel) rfl (Nat.le_of_ble_eq_true rfl) (by
  show G kX5_gotOn ad encJ 0 [(0, .ref (ad 47)), (1, .int a1)] [] μ (fX5_gotOn n a1 μ)
  unfold fX5_gotOn
  refine g_iload_n (pc := 0) 1 dX5_gotOn_0 rfl rfl ?_
  refine g_iconst (pc := 1) 0 dX5_gotOn_1 (by decide) ?_
  refine g_iconst (pc := 2) 1 dX5_gotOn_2 (by decide) ?_
  refine g_cSI (pc := 3) (st := []) [.int a1, .int 0, .int 1] moX5_isIn lnX5_81 (ctX5_isIn ad n a1 0 1 μ) rfl ⟨Nat.le_of_ble_eq_true rfl, Nat.le_of_ble_eq_true rfl⟩ rfl (Nat.le_of_ble_eq_true rfl) dX5_gotOn_3 (fun r2 m1 => ?_)
  refine g_if_ne (pc := 6) 16 dX5_gotOn_6 rfl ?_ ?_
  · refine g_aload_n (pc := 16) 0 dX5_gotOn_16 rfl rfl ?_
    refine g_get (pc := 17) rfl foX5_198 (v := .int (m1.1 47 22)) rfl dX5_gotOn_17 ?_
    refine g_if_ne (pc := 20) 30 dX5_gotOn_20 rfl ?_ ?_
    · refine g_iload_n (pc := 30) 1 dX5_gotOn_30 rfl rfl ?_
      refine g_iconst (pc := 31) 1 dX5_gotOn_31 (by decide) ?_
      refine g_icmp_ne (pc := 32) 40 dX5_gotOn_32 rfl ?_ ?_
      · refine g_lconst (pc := 40) 0 dX5_gotOn_40 (by decide) ?_
        refine g_lstore_n (pc := 41) [(2, .long 0), (0, .ref (ad 47)), (1, .int a1)] dX5_gotOn_41 rfl (by decide) rfl ?_
        refine g_iconst (pc := 42) 0 dX5_gotOn_42 (by decide) ?_
        refine g_istore (pc := 43) [(4, .int 0), (2, .long 0), (0, .ref (ad 47)), (1, .int a1)] dX5_gotOn_43 (by decide) rfl ?_
        exact g_sub [2, 1, 0] rfl (wX5_gotOn_L45 ad n n 0 0 m1)
      · refine g_aload_n (pc := 35) 0 dX5_gotOn_35 rfl rfl ?_
        refine g_cVJ (pc := 36) (st := []) [] rfl rfl moX5_fitsAll lnX5_204 (ctX5_fitsAll ad n m1) rfl ⟨Nat.le_of_ble_eq_true rfl, Nat.le_of_ble_eq_true rfl⟩ rfl (Nat.le_of_ble_eq_true rfl) dX5_gotOn_36 (fun r11 m10 => ?_)
        exact g_lreturn (pc := 39) dX5_gotOn_39 rfl
    · refine g_aload_n (pc := 23) 0 dX5_gotOn_23 rfl rfl ?_
      refine g_bipush (pc := 24) (-3) dX5_gotOn_24 (by decide) ?_
      refine g_cVJ (pc := 26) (st := []) [.int (-3)] rfl rfl moX5_lowest lnX5_157 (ctX5_lowest ad n (-3) m1) rfl ⟨Nat.le_of_ble_eq_true rfl, Nat.le_of_ble_eq_true rfl⟩ rfl (Nat.le_of_ble_eq_true rfl) dX5_gotOn_26 (fun r13 m12 => ?_)
      exact g_lreturn (pc := 29) dX5_gotOn_29 rfl
  · refine g_aload_n (pc := 9) 0 dX5_gotOn_9 rfl rfl ?_
    refine g_bipush (pc := 10) (-2) dX5_gotOn_10 (by decide) ?_
    refine g_cVJ (pc := 12) (st := []) [.int (-2)] rfl rfl moX5_lowest lnX5_157 (ctX5_lowest ad n (-2) m1) rfl ⟨Nat.le_of_ble_eq_true rfl, Nat.le_of_ble_eq_true rfl⟩ rfl (Nat.le_of_ble_eq_true rfl) dX5_gotOn_12 (fun r15 m14 => ?_)
    exact g_lreturn (pc := 15) dX5_gotOn_15 rfl)
-- StopsByLettersModel.wouldFit(I)Z
abbrev kX5_wouldFit : Cfg := (RX5, cX5_wouldFit, 5, (some .boolean), 7)
theorem dX5_wouldFit_0 : decode cX5_wouldFit 0 = .ok (.aload_n 0, 1) := by decide +kernel
theorem dX5_wouldFit_1 : decode cX5_wouldFit 1 = .ok (.getfield 16, 3) := by decide +kernel
theorem dX5_wouldFit_4 : decode cX5_wouldFit 4 = .ok (.iload_n 1, 1) := by decide +kernel
theorem dX5_wouldFit_5 : decode cX5_wouldFit 5 = .ok (.iaload, 1) := by decide +kernel
theorem dX5_wouldFit_6 : decode cX5_wouldFit 6 = .ok (.istore_n 2, 1) := by decide +kernel
theorem dX5_wouldFit_7 : decode cX5_wouldFit 7 = .ok (.iconst 0, 1) := by decide +kernel
theorem dX5_wouldFit_8 : decode cX5_wouldFit 8 = .ok (.istore_n 3, 1) := by decide +kernel
theorem dX5_wouldFit_9 : decode cX5_wouldFit 9 = .ok (.iconst 1, 1) := by decide +kernel
theorem dX5_wouldFit_10 : decode cX5_wouldFit 10 = .ok (.istore 4, 2) := by decide +kernel
theorem dX5_wouldFit_12 : decode cX5_wouldFit 12 = .ok (.iload 4, 2) := by decide +kernel
theorem dX5_wouldFit_14 : decode cX5_wouldFit 14 = .ok (.bipush 9, 2) := by decide +kernel
theorem dX5_wouldFit_16 : decode cX5_wouldFit 16 = .ok (.if_icmp .gt 56, 3) := by decide +kernel
theorem dX5_wouldFit_19 : decode cX5_wouldFit 19 = .ok (.iload 4, 2) := by decide +kernel
theorem dX5_wouldFit_21 : decode cX5_wouldFit 21 = .ok (.iload_n 2, 1) := by decide +kernel
theorem dX5_wouldFit_22 : decode cX5_wouldFit 22 = .ok (.if_icmp .ne 6, 3) := by decide +kernel
theorem dX5_wouldFit_25 : decode cX5_wouldFit 25 = .ok (.goto 41, 3) := by decide +kernel
theorem dX5_wouldFit_28 : decode cX5_wouldFit 28 = .ok (.aload_n 0, 1) := by decide +kernel
theorem dX5_wouldFit_29 : decode cX5_wouldFit 29 = .ok (.iconst 1, 1) := by decide +kernel
theorem dX5_wouldFit_30 : decode cX5_wouldFit 30 = .ok (.iconst 1, 1) := by decide +kernel
theorem dX5_wouldFit_31 : decode cX5_wouldFit 31 = .ok (.invokevirtual 109, 3) := by decide +kernel
theorem dX5_wouldFit_34 : decode cX5_wouldFit 34 = .ok (.aload_n 0, 1) := by decide +kernel
theorem dX5_wouldFit_35 : decode cX5_wouldFit 35 = .ok (.iload_n 1, 1) := by decide +kernel
theorem dX5_wouldFit_36 : decode cX5_wouldFit 36 = .ok (.iload 4, 2) := by decide +kernel
theorem dX5_wouldFit_38 : decode cX5_wouldFit 38 = .ok (.invokevirtual 195, 3) := by decide +kernel
theorem dX5_wouldFit_41 : decode cX5_wouldFit 41 = .ok (.iload_n 3, 1) := by decide +kernel
theorem dX5_wouldFit_42 : decode cX5_wouldFit 42 = .ok (.ifCond .ne 12, 3) := by decide +kernel
theorem dX5_wouldFit_45 : decode cX5_wouldFit 45 = .ok (.aload_n 0, 1) := by decide +kernel
theorem dX5_wouldFit_46 : decode cX5_wouldFit 46 = .ok (.invokevirtual 204, 3) := by decide +kernel
theorem dX5_wouldFit_49 : decode cX5_wouldFit 49 = .ok (.lconst 0, 1) := by decide +kernel
theorem dX5_wouldFit_50 : decode cX5_wouldFit 50 = .ok (.lcmp, 1) := by decide +kernel
theorem dX5_wouldFit_51 : decode cX5_wouldFit 51 = .ok (.ifCond .le 7, 3) := by decide +kernel
theorem dX5_wouldFit_54 : decode cX5_wouldFit 54 = .ok (.iconst 1, 1) := by decide +kernel
theorem dX5_wouldFit_55 : decode cX5_wouldFit 55 = .ok (.goto 4, 3) := by decide +kernel
theorem dX5_wouldFit_58 : decode cX5_wouldFit 58 = .ok (.iconst 0, 1) := by decide +kernel
theorem dX5_wouldFit_59 : decode cX5_wouldFit 59 = .ok (.istore_n 3, 1) := by decide +kernel
theorem dX5_wouldFit_60 : decode cX5_wouldFit 60 = .ok (.aload_n 0, 1) := by decide +kernel
theorem dX5_wouldFit_61 : decode cX5_wouldFit 61 = .ok (.iconst 1, 1) := by decide +kernel
theorem dX5_wouldFit_62 : decode cX5_wouldFit 62 = .ok (.iconst 0, 1) := by decide +kernel
theorem dX5_wouldFit_63 : decode cX5_wouldFit 63 = .ok (.invokevirtual 109, 3) := by decide +kernel
theorem dX5_wouldFit_66 : decode cX5_wouldFit 66 = .ok (.iinc 4 1, 3) := by decide +kernel
theorem dX5_wouldFit_69 : decode cX5_wouldFit 69 = .ok (.goto (-57), 3) := by decide +kernel
theorem dX5_wouldFit_72 : decode cX5_wouldFit 72 = .ok (.iload_n 3, 1) := by decide +kernel
theorem dX5_wouldFit_73 : decode cX5_wouldFit 73 = .ok (.ireturn, 1) := by decide +kernel
def fX5_wouldFit_L12 (n : Nat) (v1 : Int32) (v2 : Int32) : Nat → Int32 → Int32 → Mem → Option (Int32 × Mem)
  | 0, _, _, _ => none
  | F + 1, v3, v4, μ => if 9 < v4 then gd (isB v3) (some (v3, μ)) else if v4 = v2 then bnd (v4 + 1) (fun x16 => fX5_wouldFit_L12 n v1 v2 F v3 x16 μ) else bd (fX5_passesAll n 1 1 μ) (fun r3 m2 => bd (fX5_isCalled n v1 v4 m2) (fun r5 m4 => bnd (fun (x7 : Int32) (m8 : Mem) => bd (fX5_passesAll n 1 0 m8) (fun r10 m9 => bnd (v4 + 1) (fun x11 => fX5_wouldFit_L12 n v1 v2 F x7 x11 m9))) (fun kb6 => bnd (fun (m13 : Mem) => kb6 1 m13) (fun kb12 => if v3 = 0 then bd (fX5_fitsAll n m4) (fun r15 m14 => if (lg_cmp r15 0) ≤ 0 then kb6 0 m14 else kb12 m14) else kb12 m4))))
def fX5_wouldFit (n : Nat) (a1 : Int32) (μ : Mem) : Option (Int32 × Mem) :=
  gd (inb a1 9) (bnd (μ.1 50 (Int32.toNatClampNeg a1)) (fun x1 => fX5_wouldFit_L12 n a1 x1 n 0 1 μ))
set_option maxHeartbeats 4000000 in
set_option maxRecDepth 100000 in
theorem wX5_wouldFit_L12 (ad : Nat → Nat) (n : Nat) (v1 : Int32) (v2 : Int32) : ∀ (F : Nat) (v3 : Int32) (v4 : Int32) (μ : Mem), G kX5_wouldFit ad encI 12 [(0, .ref (ad 47)), (1, .int v1), (2, .int v2), (3, .int v3), (4, .int v4)] [] μ (fX5_wouldFit_L12 n v1 v2 F v3 v4 μ) := by
  intro F
  induction F with
  | zero =>
    intro v3 v4 μ
    exact g_none
  | succ F ih =>
    intro v3 v4 μ
    rw [fX5_wouldFit_L12]
    refine g_iload (pc := 12) 4 dX5_wouldFit_12 rfl ?_
    refine g_bipush (pc := 14) 9 dX5_wouldFit_14 (by decide) ?_
    refine g_icmp_gt (pc := 16) 72 dX5_wouldFit_16 rfl ?_ ?_
    · refine g_iload_n (pc := 72) 3 dX5_wouldFit_72 rfl rfl ?_
      exact g_zreturnG (pc := 73) dX5_wouldFit_73 rfl
    · refine g_iload (pc := 19) 4 dX5_wouldFit_19 rfl ?_
      refine g_iload_n (pc := 21) 2 dX5_wouldFit_21 rfl rfl ?_
      refine g_icmp_ne (pc := 22) 28 dX5_wouldFit_22 rfl ?_ ?_
      · refine g_aload_n (pc := 28) 0 dX5_wouldFit_28 rfl rfl ?_
        refine g_iconst (pc := 29) 1 dX5_wouldFit_29 (by decide) ?_
        refine g_iconst (pc := 30) 1 dX5_wouldFit_30 (by decide) ?_
        refine g_cVV (pc := 31) (st := []) [.int 1, .int 1] rfl rfl moX5_passesAll lnX5_109 (ctX5_passesAll ad n 1 1 μ) rfl ⟨Nat.le_of_ble_eq_true rfl, Nat.le_of_ble_eq_true rfl⟩ rfl (Nat.le_of_ble_eq_true rfl) dX5_wouldFit_31 (fun r3 m2 => ?_)
        refine g_aload_n (pc := 34) 0 dX5_wouldFit_34 rfl rfl ?_
        refine g_iload_n (pc := 35) 1 dX5_wouldFit_35 rfl rfl ?_
        refine g_iload (pc := 36) 4 dX5_wouldFit_36 rfl ?_
        refine g_cVV (pc := 38) (st := []) [.int v1, .int v4] rfl rfl moX5_isCalled lnX5_195 (ctX5_isCalled ad n v1 v4 m2) rfl ⟨Nat.le_of_ble_eq_true rfl, Nat.le_of_ble_eq_true rfl⟩ rfl (Nat.le_of_ble_eq_true rfl) dX5_wouldFit_38 (fun r5 m4 => ?_)
        refine g_iload_n (pc := 41) 3 dX5_wouldFit_41 rfl rfl ?_
        refine g_join (fun kb => ∀ (x7 : Int32) (m8 : Mem), G kX5_wouldFit ad encI 59 [(0, .ref (ad 47)), (1, .int v1), (2, .int v2), (4, .int v4)] [.int x7] m8 (kb x7 m8)) (fun x7 m8 => ?_) (fun kb6 hkb6 => ?_)
        · refine g_istore_n (pc := 59) [(3, .int x7), (0, .ref (ad 47)), (1, .int v1), (2, .int v2), (4, .int v4)] dX5_wouldFit_59 rfl (by decide) rfl ?_
          refine g_aload_n (pc := 60) 1 dX5_wouldFit_60 rfl rfl ?_
          refine g_iconst (pc := 61) 1 dX5_wouldFit_61 (by decide) ?_
          refine g_iconst (pc := 62) 0 dX5_wouldFit_62 (by decide) ?_
          refine g_cVV (pc := 63) (st := []) [.int 1, .int 0] rfl rfl moX5_passesAll lnX5_109 (ctX5_passesAll ad n 1 0 m8) rfl ⟨Nat.le_of_ble_eq_true rfl, Nat.le_of_ble_eq_true rfl⟩ rfl (Nat.le_of_ble_eq_true rfl) dX5_wouldFit_63 (fun r10 m9 => ?_)
          refine g_iincB (pc := 66) 4 1 1 (fun x11 => [(4, .int x11), (3, .int x7), (0, .ref (ad 47)), (1, .int v1), (2, .int v2)]) dX5_wouldFit_66 rfl (by decide) (by decide) (fun _ => rfl) (fun x11 => ?_)
          refine g_goto (pc := 69) 12 dX5_wouldFit_69 rfl ?_
          exact g_sub [2, 3, 4, 1, 0] rfl (ih x7 x11 m9)
        ·
          refine g_join (fun kb => ∀ (m13 : Mem), G kX5_wouldFit ad encI 54 [(0, .ref (ad 47)), (1, .int v1), (2, .int v2), (4, .int v4)] [] m13 (kb m13)) (fun m13 => ?_) (fun kb12 hkb12 => ?_)
          · refine g_iconst (pc := 54) 1 dX5_wouldFit_54 (by decide) ?_
            refine g_goto (pc := 55) 59 dX5_wouldFit_55 rfl ?_
            exact g_sub [0, 1, 2, 3] rfl (hkb6 1 m13)
          ·
            refine g_if_ne (pc := 42) 54 dX5_wouldFit_42 rfl ?_ ?_
            · exact g_sub [0, 1, 2, 4] rfl (hkb12 m4)
            · refine g_aload_n (pc := 45) 0 dX5_wouldFit_45 rfl rfl ?_
              refine g_cVJ (pc := 46) (st := []) [] rfl rfl moX5_fitsAll lnX5_204 (ctX5_fitsAll ad n m4) rfl ⟨Nat.le_of_ble_eq_true rfl, Nat.le_of_ble_eq_true rfl⟩ rfl (Nat.le_of_ble_eq_true rfl) dX5_wouldFit_46 (fun r15 m14 => ?_)
              refine g_lconst (pc := 49) 0 dX5_wouldFit_49 (by decide) ?_
              refine g_lcmp (pc := 50) dX5_wouldFit_50 ?_
              refine g_if_le (pc := 51) 58 dX5_wouldFit_51 rfl ?_ ?_
              · refine g_iconst (pc := 58) 0 dX5_wouldFit_58 (by decide) ?_
                exact g_sub [0, 1, 2, 4] rfl (hkb6 0 m14)
              · exact g_sub [0, 1, 2, 4] rfl (hkb12 m14)
      · refine g_goto (pc := 25) 66 dX5_wouldFit_25 rfl ?_
        refine g_iincB (pc := 66) 4 1 1 (fun x16 => [(4, .int x16), (0, .ref (ad 47)), (1, .int v1), (2, .int v2), (3, .int v3)]) dX5_wouldFit_66 rfl (by decide) (by decide) (fun _ => rfl) (fun x16 => ?_)
        refine g_goto (pc := 69) 12 dX5_wouldFit_69 rfl ?_
        exact g_sub [1, 2, 3, 4, 0] rfl (ih v3 x16 μ)
set_option maxHeartbeats 4000000 in
set_option maxRecDepth 100000 in
theorem ctX5_wouldFit (ad : Nat → Nat) (n : Nat) (a1 : Int32) (μ : Mem) : Ct yX5_wouldFit kX5_wouldFit ad encI [.ref (ad 47), .int a1] μ (fX5_wouldFit n a1 μ) := Ct.of (by decide +kernel) rfl (Nat.le_of_ble_eq_true rfl) (by
  show G kX5_wouldFit ad encI 0 [(0, .ref (ad 47)), (1, .int a1)] [] μ (fX5_wouldFit n a1 μ)
  unfold fX5_wouldFit
  refine g_aload_n (pc := 0) 0 dX5_wouldFit_0 rfl rfl ?_
  refine g_get (pc := 1) rfl foX5_16 (v := .ref (ad 50)) rfl dX5_wouldFit_1 ?_
  refine g_iload_n (pc := 4) 1 dX5_wouldFit_4 rfl rfl ?_
  refine g_iald (pc := 5) rfl (by decide) dX5_wouldFit_5 ?_
  refine g_istore_nB (pc := 6) (fun x1 => [(2, .int x1), (0, .ref (ad 47)), (1, .int a1)]) dX5_wouldFit_6 rfl (by decide) (fun _ => rfl) (fun x1 => ?_)
  refine g_iconst (pc := 7) 0 dX5_wouldFit_7 (by decide) ?_
  refine g_istore_n (pc := 8) [(3, .int 0), (2, .int x1), (0, .ref (ad 47)), (1, .int a1)] dX5_wouldFit_8 rfl (by decide) rfl ?_
  refine g_iconst (pc := 9) 1 dX5_wouldFit_9 (by decide) ?_
  refine g_istore (pc := 10) [(4, .int 1), (3, .int 0), (2, .int x1), (0, .ref (ad 47)), (1, .int a1)] dX5_wouldFit_10 (by decide) rfl ?_
  exact g_sub [3, 4, 2, 1, 0] rfl (wX5_wouldFit_L12 ad n a1 x1 n 0 1 μ))
-- StopsByLettersModel.misspelt()I
abbrev kX5_misspelt : Cfg := (RX5, cX5_misspelt, 3, (some .int), 8)
theorem dX5_misspelt_0 : decode cX5_misspelt 0 = .ok (.aload_n 0, 1) := by decide +kernel
theorem dX5_misspelt_1 : decode cX5_misspelt 1 = .ok (.getfield 198, 3) := by decide +kernel
theorem dX5_misspelt_4 : decode cX5_misspelt 4 = .ok (.ifCond .ne 10, 3) := by decide +kernel
theorem dX5_misspelt_7 : decode cX5_misspelt 7 = .ok (.aload_n 0, 1) := by decide +kernel
theorem dX5_misspelt_8 : decode cX5_misspelt 8 = .ok (.bipush (-3), 2) := by decide +kernel
theorem dX5_misspelt_10 : decode cX5_misspelt 10 = .ok (.invokevirtual 67, 3) := by decide +kernel
theorem dX5_misspelt_13 : decode cX5_misspelt 13 = .ok (.ireturn, 1) := by decide +kernel
theorem dX5_misspelt_14 : decode cX5_misspelt 14 = .ok (.iconst 0, 1) := by decide +kernel
theorem dX5_misspelt_15 : decode cX5_misspelt 15 = .ok (.istore_n 1, 1) := by decide +kernel
theorem dX5_misspelt_16 : decode cX5_misspelt 16 = .ok (.aload_n 0, 1) := by decide +kernel
theorem dX5_misspelt_17 : decode cX5_misspelt 17 = .ok (.invokevirtual 204, 3) := by decide +kernel
theorem dX5_misspelt_20 : decode cX5_misspelt 20 = .ok (.lconst 0, 1) := by decide +kernel
theorem dX5_misspelt_21 : decode cX5_misspelt 21 = .ok (.lcmp, 1) := by decide +kernel
theorem dX5_misspelt_22 : decode cX5_misspelt 22 = .ok (.ifCond .le 5, 3) := by decide +kernel
theorem dX5_misspelt_25 : decode cX5_misspelt 25 = .ok (.iload_n 1, 1) := by decide +kernel
theorem dX5_misspelt_26 : decode cX5_misspelt 26 = .ok (.ireturn, 1) := by decide +kernel
theorem dX5_misspelt_27 : decode cX5_misspelt 27 = .ok (.iconst 0, 1) := by decide +kernel
theorem dX5_misspelt_28 : decode cX5_misspelt 28 = .ok (.istore_n 2, 1) := by decide +kernel
theorem dX5_misspelt_29 : decode cX5_misspelt 29 = .ok (.iload_n 2, 1) := by decide +kernel
theorem dX5_misspelt_30 : decode cX5_misspelt 30 = .ok (.aload_n 0, 1) := by decide +kernel
theorem dX5_misspelt_31 : decode cX5_misspelt 31 = .ok (.getfield 56, 3) := by decide +kernel
theorem dX5_misspelt_34 : decode cX5_misspelt 34 = .ok (.if_icmp .ge 27, 3) := by decide +kernel
theorem dX5_misspelt_37 : decode cX5_misspelt 37 = .ok (.iload_n 1, 1) := by decide +kernel
theorem dX5_misspelt_38 : decode cX5_misspelt 38 = .ok (.aload_n 0, 1) := by decide +kernel
theorem dX5_misspelt_39 : decode cX5_misspelt 39 = .ok (.iload_n 2, 1) := by decide +kernel
theorem dX5_misspelt_40 : decode cX5_misspelt 40 = .ok (.invokevirtual 208, 3) := by decide +kernel
theorem dX5_misspelt_43 : decode cX5_misspelt 43 = .ok (.ifCond .eq 9, 3) := by decide +kernel
theorem dX5_misspelt_46 : decode cX5_misspelt 46 = .ok (.iconst 1, 1) := by decide +kernel
theorem dX5_misspelt_47 : decode cX5_misspelt 47 = .ok (.iload_n 2, 1) := by decide +kernel
theorem dX5_misspelt_48 : decode cX5_misspelt 48 = .ok (.ishl, 1) := by decide +kernel
theorem dX5_misspelt_49 : decode cX5_misspelt 49 = .ok (.goto 4, 3) := by decide +kernel
theorem dX5_misspelt_52 : decode cX5_misspelt 52 = .ok (.iconst 0, 1) := by decide +kernel
theorem dX5_misspelt_53 : decode cX5_misspelt 53 = .ok (.ior, 1) := by decide +kernel
theorem dX5_misspelt_54 : decode cX5_misspelt 54 = .ok (.istore_n 1, 1) := by decide +kernel
theorem dX5_misspelt_55 : decode cX5_misspelt 55 = .ok (.iinc 2 1, 3) := by decide +kernel
theorem dX5_misspelt_58 : decode cX5_misspelt 58 = .ok (.goto (-29), 3) := by decide +kernel
theorem dX5_misspelt_61 : decode cX5_misspelt 61 = .ok (.iload_n 1, 1) := by decide +kernel
theorem dX5_misspelt_62 : decode cX5_misspelt 62 = .ok (.ireturn, 1) := by decide +kernel
theorem lnX5_208 : Ln RX5 208 yX5_wouldFit := Or.inl (tb_in 1007 (by decide +kernel) rfl)
theorem moX5_wouldFit : Mv yX5_wouldFit kX5_wouldFit 1 := ⟨⟨tb_in 1010 (by decide +kernel) rfl, tb_in 92 (by decide +kernel) rfl, ⟨by decide, by decide⟩, by decide +kernel⟩, tb_in 1009 (by decide +kernel) rfl, tb_in 85 (by decide +kernel) rfl⟩
def fX5_misspelt_L29 (n : Nat) : Nat → Int32 → Int32 → Mem → Option (Int32 × Mem)
  | 0, _, _, _ => none
  | F + 1, v1, v2, μ => if (μ.1 47 4) ≤ v2 then some (v1, μ) else bd (fX5_wouldFit n v2 μ) (fun r4 m3 => bnd (fun (x6 : Int32) (m7 : Mem) => bnd (v1 ||| x6) (fun x8 => bnd (v2 + 1) (fun x9 => fX5_misspelt_L29 n F x8 x9 m7))) (fun kb5 => if r4 = 0 then kb5 0 m3 else kb5 (jshl 1 v2) m3))
def fX5_misspelt (n : Nat) (μ : Mem) : Option (Int32 × Mem) :=
  if (μ.1 47 22) = 0 then bd (fX5_no n (-3) μ) (fun r11 m10 => some (r11, m10)) else bd (fX5_fitsAll n μ) (fun r2 m1 => if (lg_cmp r2 0) ≤ 0 then fX5_misspelt_L29 n n 0 0 m1 else some (0, m1))
set_option maxHeartbeats 4000000 in
set_option maxRecDepth 100000 in
theorem wX5_misspelt_L29 (ad : Nat → Nat) (n : Nat) : ∀ (F : Nat) (v1 : Int32) (v2 : Int32) (μ : Mem), G kX5_misspelt ad encI 29 [(0, .ref (ad 47)), (1, .int v1), (2, .int v2)] [] μ (fX5_misspelt_L29 n F v1 v2 μ) := by
  intro F
  induction F with
  | zero =>
    intro v1 v2 μ
    exact g_none
  | succ F ih =>
    intro v1 v2 μ
    rw [fX5_misspelt_L29]
    refine g_iload_n (pc := 29) 2 dX5_misspelt_29 rfl rfl ?_
    refine g_aload_n (pc := 30) 0 dX5_misspelt_30 rfl rfl ?_
    refine g_get (pc := 31) rfl foX5_56 (v := .int (μ.1 47 4)) rfl dX5_misspelt_31 ?_
    refine g_icmp_ge (pc := 34) 61 dX5_misspelt_34 rfl ?_ ?_
    · refine g_iload_n (pc := 61) 1 dX5_misspelt_61 rfl rfl ?_
      exact g_ireturn (pc := 62) dX5_misspelt_62 rfl
    · refine g_iload_n (pc := 37) 1 dX5_misspelt_37 rfl rfl ?_
      refine g_aload_n (pc := 38) 0 dX5_misspelt_38 rfl rfl ?_
      refine g_iload_n (pc := 39) 2 dX5_misspelt_39 rfl rfl ?_
      refine g_cVI (pc := 40) (st := [.int v1]) [.int v2] rfl rfl moX5_wouldFit lnX5_208 (ctX5_wouldFit ad n v2 μ) rfl ⟨Nat.le_of_ble_eq_true rfl, Nat.le_of_ble_eq_true rfl⟩ rfl (Nat.le_of_ble_eq_true rfl) dX5_misspelt_40 (fun r4 m3 => ?_)
      refine g_join (fun kb => ∀ (x6 : Int32) (m7 : Mem), G kX5_misspelt ad encI 53 [(0, .ref (ad 47)), (2, .int v2)] [.int x6, .int v1] m7 (kb x6 m7)) (fun x6 m7 => ?_) (fun kb5 hkb5 => ?_)
      · refine g_ior (pc := 53) dX5_misspelt_53 ?_
        refine g_istore_nB (pc := 54) (fun x8 => [(1, .int x8), (0, .ref (ad 47)), (2, .int v2)]) dX5_misspelt_54 rfl (by decide) (fun _ => rfl) (fun x8 => ?_)
        refine g_iincB (pc := 55) 2 1 1 (fun x9 => [(2, .int x9), (1, .int x8), (0, .ref (ad 47))]) dX5_misspelt_55 rfl (by decide) (by decide) (fun _ => rfl) (fun x9 => ?_)
        refine g_goto (pc := 58) 29 dX5_misspelt_58 rfl ?_
        exact g_sub [2, 1, 0] rfl (ih x8 x9 m7)
      ·
        refine g_if_eq (pc := 43) 52 dX5_misspelt_43 rfl ?_ ?_
        · refine g_iconst (pc := 52) 0 dX5_misspelt_52 (by decide) ?_
          exact g_sub [0, 2] rfl (hkb5 0 m3)
        · refine g_iconst (pc := 46) 1 dX5_misspelt_46 (by decide) ?_
          refine g_iload_n (pc := 47) 2 dX5_misspelt_47 rfl rfl ?_
          refine g_ishl' (pc := 48) dX5_misspelt_48 ?_
          refine g_goto (pc := 49) 53 dX5_misspelt_49 rfl ?_
          exact g_sub [0, 2] rfl (hkb5 (jshl 1 v2) m3)
set_option maxHeartbeats 4000000 in
set_option maxRecDepth 100000 in
theorem ctX5_misspelt (ad : Nat → Nat) (n : Nat) (μ : Mem) : Ct yX5_misspelt kX5_misspelt ad encI [.ref (ad 47)] μ (fX5_misspelt n μ) := Ct.of (by decide +kernel) rfl (Nat.le_of_ble_eq_true rfl) (by
  show G kX5_misspelt ad encI 0 [(0, .ref (ad 47))] [] μ (fX5_misspelt n μ)
  unfold fX5_misspelt
  refine g_aload_n (pc := 0) 0 dX5_misspelt_0 rfl rfl ?_
  refine g_get (pc := 1) rfl foX5_198 (v := .int (μ.1 47 22)) rfl dX5_misspelt_1 ?_
  refine g_if_ne (pc := 4) 14 dX5_misspelt_4 rfl ?_ ?_
  · refine g_iconst (pc := 14) 0 dX5_misspelt_14 (by decide) ?_
    refine g_istore_n (pc := 15) [(1, .int 0), (0, .ref (ad 47))] dX5_misspelt_15 rfl (by decide) rfl ?_
    refine g_aload_n (pc := 16) 1 dX5_misspelt_16 rfl rfl ?_
    refine g_cVJ (pc := 17) (st := []) [] rfl rfl moX5_fitsAll lnX5_204 (ctX5_fitsAll ad n μ) rfl ⟨Nat.le_of_ble_eq_true rfl, Nat.le_of_ble_eq_true rfl⟩ rfl (Nat.le_of_ble_eq_true rfl) dX5_misspelt_17 (fun r2 m1 => ?_)
    refine g_lconst (pc := 20) 0 dX5_misspelt_20 (by decide) ?_
    refine g_lcmp (pc := 21) dX5_misspelt_21 ?_
    refine g_if_le (pc := 22) 27 dX5_misspelt_22 rfl ?_ ?_
    · refine g_iconst (pc := 27) 0 dX5_misspelt_27 (by decide) ?_
      refine g_istore_n (pc := 28) [(2, .int 0), (1, .int 0), (0, .ref (ad 47))] dX5_misspelt_28 rfl (by decide) rfl ?_
      exact g_sub [2, 1, 0] rfl (wX5_misspelt_L29 ad n n 0 0 m1)
    · refine g_iload_n (pc := 25) 0 dX5_misspelt_25 rfl rfl ?_
      exact g_ireturn (pc := 26) dX5_misspelt_26 rfl
  · refine g_aload_n (pc := 7) 0 dX5_misspelt_7 rfl rfl ?_
    refine g_bipush (pc := 8) (-3) dX5_misspelt_8 (by decide) ?_
    refine g_cVI (pc := 10) (st := []) [.int (-3)] rfl rfl moX5_no lnX5_67 (ctX5_no ad n (-3) μ) rfl ⟨Nat.le_of_ble_eq_true rfl, Nat.le_of_ble_eq_true rfl⟩ rfl (Nat.le_of_ble_eq_true rfl) dX5_misspelt_10 (fun r11 m10 => ?_)
    exact g_ireturn (pc := 13) dX5_misspelt_13 rfl)
-- StopsByLettersModel.judge()I
abbrev kX5_judge : Cfg := (RX5, cX5_judge, 3, (some .int), 4)
theorem dX5_judge_0 : decode cX5_judge 0 = .ok (.aload_n 0, 1) := by decide +kernel
theorem dX5_judge_1 : decode cX5_judge 1 = .ok (.getfield 198, 3) := by decide +kernel
theorem dX5_judge_4 : decode cX5_judge 4 = .ok (.istore_n 1, 1) := by decide +kernel
theorem dX5_judge_5 : decode cX5_judge 5 = .ok (.aload_n 0, 1) := by decide +kernel
theorem dX5_judge_6 : decode cX5_judge 6 = .ok (.iconst 0, 1) := by decide +kernel
theorem dX5_judge_7 : decode cX5_judge 7 = .ok (.putfield 198, 3) := by decide +kernel
theorem dX5_judge_10 : decode cX5_judge 10 = .ok (.iconst 0, 1) := by decide +kernel
theorem dX5_judge_11 : decode cX5_judge 11 = .ok (.istore_n 2, 1) := by decide +kernel
theorem dX5_judge_12 : decode cX5_judge 12 = .ok (.iload_n 2, 1) := by decide +kernel
theorem dX5_judge_13 : decode cX5_judge 13 = .ok (.iload_n 1, 1) := by decide +kernel
theorem dX5_judge_14 : decode cX5_judge 14 = .ok (.if_icmp .ge 52, 3) := by decide +kernel
theorem dX5_judge_17 : decode cX5_judge 17 = .ok (.aload_n 0, 1) := by decide +kernel
theorem dX5_judge_18 : decode cX5_judge 18 = .ok (.aload_n 0, 1) := by decide +kernel
theorem dX5_judge_19 : decode cX5_judge 19 = .ok (.getfield 50, 3) := by decide +kernel
theorem dX5_judge_22 : decode cX5_judge 22 = .ok (.iload_n 2, 1) := by decide +kernel
theorem dX5_judge_23 : decode cX5_judge 23 = .ok (.iaload, 1) := by decide +kernel
theorem dX5_judge_24 : decode cX5_judge 24 = .ok (.invokevirtual 100, 3) := by decide +kernel
theorem dX5_judge_27 : decode cX5_judge 27 = .ok (.ifCond .eq 31, 3) := by decide +kernel
theorem dX5_judge_30 : decode cX5_judge 30 = .ok (.iload_n 2, 1) := by decide +kernel
theorem dX5_judge_31 : decode cX5_judge 31 = .ok (.ifCond .le 29, 3) := by decide +kernel
theorem dX5_judge_34 : decode cX5_judge 34 = .ok (.aload_n 0, 1) := by decide +kernel
theorem dX5_judge_35 : decode cX5_judge 35 = .ok (.aload_n 0, 1) := by decide +kernel
theorem dX5_judge_36 : decode cX5_judge 36 = .ok (.getfield 50, 3) := by decide +kernel
theorem dX5_judge_39 : decode cX5_judge 39 = .ok (.iload_n 2, 1) := by decide +kernel
theorem dX5_judge_40 : decode cX5_judge 40 = .ok (.iconst 1, 1) := by decide +kernel
theorem dX5_judge_41 : decode cX5_judge 41 = .ok (.isub, 1) := by decide +kernel
theorem dX5_judge_42 : decode cX5_judge 42 = .ok (.iaload, 1) := by decide +kernel
theorem dX5_judge_43 : decode cX5_judge 43 = .ok (.invokevirtual 146, 3) := by decide +kernel
theorem dX5_judge_46 : decode cX5_judge 46 = .ok (.aload_n 0, 1) := by decide +kernel
theorem dX5_judge_47 : decode cX5_judge 47 = .ok (.getfield 50, 3) := by decide +kernel
theorem dX5_judge_50 : decode cX5_judge 50 = .ok (.iload_n 2, 1) := by decide +kernel
theorem dX5_judge_51 : decode cX5_judge 51 = .ok (.iaload, 1) := by decide +kernel
theorem dX5_judge_52 : decode cX5_judge 52 = .ok (.ishr, 1) := by decide +kernel
theorem dX5_judge_53 : decode cX5_judge 53 = .ok (.iconst 1, 1) := by decide +kernel
theorem dX5_judge_54 : decode cX5_judge 54 = .ok (.iand, 1) := by decide +kernel
theorem dX5_judge_55 : decode cX5_judge 55 = .ok (.ifCond .ne 5, 3) := by decide +kernel
theorem dX5_judge_58 : decode cX5_judge 58 = .ok (.iload_n 2, 1) := by decide +kernel
theorem dX5_judge_59 : decode cX5_judge 59 = .ok (.ireturn, 1) := by decide +kernel
theorem dX5_judge_60 : decode cX5_judge 60 = .ok (.iinc 2 1, 3) := by decide +kernel
theorem dX5_judge_63 : decode cX5_judge 63 = .ok (.goto (-51), 3) := by decide +kernel
theorem dX5_judge_66 : decode cX5_judge 66 = .ok (.bipush (-9), 2) := by decide +kernel
theorem dX5_judge_68 : decode cX5_judge 68 = .ok (.ireturn, 1) := by decide +kernel
def fX5_judge_L12 (n : Nat) (v1 : Int32) : Nat → Int32 → Mem → Option (Int32 × Mem)
  | 0, _, _ => none
  | F + 1, v2, μ => if v1 ≤ v2 then some ((-9), μ) else gd (inb v2 12) (bd (fX5_isStation n (μ.1 61 (Int32.toNatClampNeg v2)) μ) (fun r4 m3 => if r4 = 0 then some (v2, m3) else if v2 ≤ 0 then bnd (v2 + 1) (fun x5 => fX5_judge_L12 n v1 F x5 m3) else gd (inb (v2 - 1) 12) (bd (fX5_ridesOf n (m3.1 61 (Int32.toNatClampNeg (v2 - 1))) m3) (fun r7 m6 => gd (inb v2 12) (if ((jshr r7 (m6.1 61 (Int32.toNatClampNeg v2))) &&& 1) = 0 then some (v2, m6) else bnd (v2 + 1) (fun x8 => fX5_judge_L12 n v1 F x8 m6))))))
def fX5_judge (n : Nat) (μ : Mem) : Option (Int32 × Mem) :=
  bnd (μ.1 47 22) (fun x1 => bnd (setI μ 47 22 0) (fun m2 => fX5_judge_L12 n x1 n 0 m2))
set_option maxHeartbeats 4000000 in
set_option maxRecDepth 100000 in
theorem wX5_judge_L12 (ad : Nat → Nat) (n : Nat) (v1 : Int32) : ∀ (F : Nat) (v2 : Int32) (μ : Mem), G kX5_judge ad encI 12 [(0, .ref (ad 47)), (1, .int v1), (2, .int v2)] [] μ (fX5_judge_L12 n v1 F v2 μ) := by
  intro F
  induction F with
  | zero =>
    intro v2 μ
    exact g_none
  | succ F ih =>
    intro v2 μ
    rw [fX5_judge_L12]
    refine g_iload_n (pc := 12) 2 dX5_judge_12 rfl rfl ?_
    refine g_iload_n (pc := 13) 1 dX5_judge_13 rfl rfl ?_
    refine g_icmp_ge (pc := 14) 66 dX5_judge_14 rfl ?_ ?_
    · refine g_bipush (pc := 66) (-9) dX5_judge_66 (by decide) ?_
      exact g_ireturn (pc := 68) dX5_judge_68 rfl
    · refine g_aload_n (pc := 17) 0 dX5_judge_17 rfl rfl ?_
      refine g_aload_n (pc := 18) 0 dX5_judge_18 rfl rfl ?_
      refine g_get (pc := 19) rfl foX5_50 (v := .ref (ad 61)) rfl dX5_judge_19 ?_
      refine g_iload_n (pc := 22) 2 dX5_judge_22 rfl rfl ?_
      refine g_iald (pc := 23) rfl (by decide) dX5_judge_23 ?_
      refine g_cVI (pc := 24) (st := []) [.int (μ.1 61 (Int32.toNatClampNeg v2))] rfl rfl moX5_isStation lnX5_100 (ctX5_isStation ad n (μ.1 61 (Int32.toNatClampNeg v2)) μ) rfl ⟨Nat.le_of_ble_eq_true rfl, Nat.le_of_ble_eq_true rfl⟩ rfl (Nat.le_of_ble_eq_true rfl) dX5_judge_24 (fun r4 m3 => ?_)
      refine g_if_eq (pc := 27) 58 dX5_judge_27 rfl ?_ ?_
      · refine g_iload_n (pc := 58) 2 dX5_judge_58 rfl rfl ?_
        exact g_ireturn (pc := 59) dX5_judge_59 rfl
      · refine g_iload_n (pc := 30) 2 dX5_judge_30 rfl rfl ?_
        refine g_if_le (pc := 31) 60 dX5_judge_31 rfl ?_ ?_
        · refine g_iincB (pc := 60) 2 1 1 (fun x5 => [(2, .int x5), (0, .ref (ad 47)), (1, .int v1)]) dX5_judge_60 rfl (by decide) (by decide) (fun _ => rfl) (fun x5 => ?_)
          refine g_goto (pc := 63) 12 dX5_judge_63 rfl ?_
          exact g_sub [1, 2, 0] rfl (ih x5 m3)
        · refine g_aload_n (pc := 34) 0 dX5_judge_34 rfl rfl ?_
          refine g_aload_n (pc := 35) 0 dX5_judge_35 rfl rfl ?_
          refine g_get (pc := 36) rfl foX5_50 (v := .ref (ad 61)) rfl dX5_judge_36 ?_
          refine g_iload_n (pc := 39) 2 dX5_judge_39 rfl rfl ?_
          refine g_iconst (pc := 40) 1 dX5_judge_40 (by decide) ?_
          refine g_isub (pc := 41) dX5_judge_41 ?_
          refine g_iald (pc := 42) rfl (by decide) dX5_judge_42 ?_
          refine g_cVI (pc := 43) (st := []) [.int (m3.1 61 (Int32.toNatClampNeg (v2 - 1)))] rfl rfl moX5_ridesOf lnX5_146 (ctX5_ridesOf ad n (m3.1 61 (Int32.toNatClampNeg (v2 - 1))) m3) rfl ⟨Nat.le_of_ble_eq_true rfl, Nat.le_of_ble_eq_true rfl⟩ rfl (Nat.le_of_ble_eq_true rfl) dX5_judge_43 (fun r7 m6 => ?_)
          refine g_aload_n (pc := 46) 0 dX5_judge_46 rfl rfl ?_
          refine g_get (pc := 47) rfl foX5_50 (v := .ref (ad 61)) rfl dX5_judge_47 ?_
          refine g_iload_n (pc := 50) 2 dX5_judge_50 rfl rfl ?_
          refine g_iald (pc := 51) rfl (by decide) dX5_judge_51 ?_
          refine g_ishr' (pc := 52) dX5_judge_52 ?_
          refine g_iconst (pc := 53) 1 dX5_judge_53 (by decide) ?_
          refine g_iand (pc := 54) dX5_judge_54 ?_
          refine g_if_ne (pc := 55) 60 dX5_judge_55 rfl ?_ ?_
          · refine g_iincB (pc := 60) 2 1 1 (fun x8 => [(2, .int x8), (0, .ref (ad 47)), (1, .int v1)]) dX5_judge_60 rfl (by decide) (by decide) (fun _ => rfl) (fun x8 => ?_)
            refine g_goto (pc := 63) 12 dX5_judge_63 rfl ?_
            exact g_sub [1, 2, 0] rfl (ih x8 m6)
          · refine g_iload_n (pc := 58) 2 dX5_judge_58 rfl rfl ?_
            exact g_ireturn (pc := 59) dX5_judge_59 rfl
set_option maxHeartbeats 4000000 in
set_option maxRecDepth 100000 in
theorem ctX5_judge (ad : Nat → Nat) (n : Nat) (μ : Mem) : Ct yX5_judge kX5_judge ad encI [.ref (ad 47)] μ (fX5_judge n μ) := Ct.of (by decide +kernel) rfl (Nat.le_of_ble_eq_true rfl) (by
  show G kX5_judge ad encI 0 [(0, .ref (ad 47))] [] μ (fX5_judge n μ)
  unfold fX5_judge
  refine g_aload_n (pc := 0) 0 dX5_judge_0 rfl rfl ?_
  refine g_get (pc := 1) rfl foX5_198 (v := .int (μ.1 47 22)) rfl dX5_judge_1 ?_
  refine g_istore_nB (pc := 4) (fun x1 => [(1, .int x1), (0, .ref (ad 47))]) dX5_judge_4 rfl (by decide) (fun _ => rfl) (fun x1 => ?_)
  refine g_aload_n (pc := 5) 1 dX5_judge_5 rfl rfl ?_
  refine g_iconst (pc := 6) 0 dX5_judge_6 (by decide) ?_
  refine g_put (pc := 7) rfl foX5_198 fpX5_22 rfl rfl dX5_judge_7 (fun m2 => ?_)
  refine g_iconst (pc := 10) 0 dX5_judge_10 (by decide) ?_
  refine g_istore_n (pc := 11) [(2, .int 0), (1, .int x1), (0, .ref (ad 47))] dX5_judge_11 rfl (by decide) rfl ?_
  exact g_sub [2, 1, 0] rfl (wX5_judge_L12 ad n x1 n 0 m2))
-- StopsByLettersModel.seeds(III)I
abbrev kX5_seeds : Cfg := (RX5, cX5_seeds, 10, (some .int), 4)
theorem dX5_seeds_0 : decode cX5_seeds 0 = .ok (.aload_n 0, 1) := by decide +kernel
theorem dX5_seeds_1 : decode cX5_seeds 1 = .ok (.iload_n 1, 1) := by decide +kernel
theorem dX5_seeds_2 : decode cX5_seeds 2 = .ok (.invokevirtual 100, 3) := by decide +kernel
theorem dX5_seeds_5 : decode cX5_seeds 5 = .ok (.ifCond .ne 7, 3) := by decide +kernel
theorem dX5_seeds_8 : decode cX5_seeds 8 = .ok (.iconst (-1), 1) := by decide +kernel
theorem dX5_seeds_9 : decode cX5_seeds 9 = .ok (.goto 10, 3) := by decide +kernel
theorem dX5_seeds_12 : decode cX5_seeds 12 = .ok (.iload_n 2, 1) := by decide +kernel
theorem dX5_seeds_13 : decode cX5_seeds 13 = .ok (.iconst 1, 1) := by decide +kernel
theorem dX5_seeds_14 : decode cX5_seeds 14 = .ok (.bipush 60, 2) := by decide +kernel
theorem dX5_seeds_16 : decode cX5_seeds 16 = .ok (.invokestatic 60, 3) := by decide +kernel
theorem dX5_seeds_19 : decode cX5_seeds 19 = .ok (.istore 4, 2) := by decide +kernel
theorem dX5_seeds_21 : decode cX5_seeds 21 = .ok (.iload 4, 2) := by decide +kernel
theorem dX5_seeds_23 : decode cX5_seeds 23 = .ok (.ifCond .eq 10, 3) := by decide +kernel
theorem dX5_seeds_26 : decode cX5_seeds 26 = .ok (.aload_n 0, 1) := by decide +kernel
theorem dX5_seeds_27 : decode cX5_seeds 27 = .ok (.iload 4, 2) := by decide +kernel
theorem dX5_seeds_29 : decode cX5_seeds 29 = .ok (.invokevirtual 67, 3) := by decide +kernel
theorem dX5_seeds_32 : decode cX5_seeds 32 = .ok (.ireturn, 1) := by decide +kernel
theorem dX5_seeds_33 : decode cX5_seeds 33 = .ok (.iload_n 3, 1) := by decide +kernel
theorem dX5_seeds_34 : decode cX5_seeds 34 = .ok (.istore 5, 2) := by decide +kernel
theorem dX5_seeds_36 : decode cX5_seeds 36 = .ok (.iload_n 1, 1) := by decide +kernel
theorem dX5_seeds_37 : decode cX5_seeds 37 = .ok (.istore 6, 2) := by decide +kernel
theorem dX5_seeds_39 : decode cX5_seeds 39 = .ok (.iconst 0, 1) := by decide +kernel
theorem dX5_seeds_40 : decode cX5_seeds 40 = .ok (.istore 7, 2) := by decide +kernel
theorem dX5_seeds_42 : decode cX5_seeds 42 = .ok (.iload 7, 2) := by decide +kernel
theorem dX5_seeds_44 : decode cX5_seeds 44 = .ok (.iload_n 2, 1) := by decide +kernel
theorem dX5_seeds_45 : decode cX5_seeds 45 = .ok (.if_icmp .ge 78, 3) := by decide +kernel
theorem dX5_seeds_48 : decode cX5_seeds 48 = .ok (.aload_n 0, 1) := by decide +kernel
theorem dX5_seeds_49 : decode cX5_seeds 49 = .ok (.iload 6, 2) := by decide +kernel
theorem dX5_seeds_51 : decode cX5_seeds 51 = .ok (.invokevirtual 146, 3) := by decide +kernel
theorem dX5_seeds_54 : decode cX5_seeds 54 = .ok (.istore 8, 2) := by decide +kernel
theorem dX5_seeds_56 : decode cX5_seeds 56 = .ok (.iload 8, 2) := by decide +kernel
theorem dX5_seeds_58 : decode cX5_seeds 58 = .ok (.ifCond .ne 6, 3) := by decide +kernel
theorem dX5_seeds_61 : decode cX5_seeds 61 = .ok (.iload 6, 2) := by decide +kernel
theorem dX5_seeds_63 : decode cX5_seeds 63 = .ok (.ireturn, 1) := by decide +kernel
theorem dX5_seeds_64 : decode cX5_seeds 64 = .ok (.iload 5, 2) := by decide +kernel
theorem dX5_seeds_66 : decode cX5_seeds 66 = .ok (.ldc 211, 2) := by decide +kernel
theorem dX5_seeds_68 : decode cX5_seeds 68 = .ok (.imul, 1) := by decide +kernel
theorem dX5_seeds_69 : decode cX5_seeds 69 = .ok (.ldc 212, 2) := by decide +kernel
theorem dX5_seeds_71 : decode cX5_seeds 71 = .ok (.iadd, 1) := by decide +kernel
theorem dX5_seeds_72 : decode cX5_seeds 72 = .ok (.istore 5, 2) := by decide +kernel
theorem dX5_seeds_74 : decode cX5_seeds 74 = .ok (.iload 5, 2) := by decide +kernel
theorem dX5_seeds_76 : decode cX5_seeds 76 = .ok (.ldc 213, 2) := by decide +kernel
theorem dX5_seeds_78 : decode cX5_seeds 78 = .ok (.iand, 1) := by decide +kernel
theorem dX5_seeds_79 : decode cX5_seeds 79 = .ok (.sipush 256, 3) := by decide +kernel
theorem dX5_seeds_82 : decode cX5_seeds 82 = .ok (.idiv, 1) := by decide +kernel
theorem dX5_seeds_83 : decode cX5_seeds 83 = .ok (.iload 8, 2) := by decide +kernel
theorem dX5_seeds_85 : decode cX5_seeds 85 = .ok (.invokestatic 154, 3) := by decide +kernel
theorem dX5_seeds_88 : decode cX5_seeds 88 = .ok (.irem, 1) := by decide +kernel
theorem dX5_seeds_89 : decode cX5_seeds 89 = .ok (.istore 9, 2) := by decide +kernel
theorem dX5_seeds_91 : decode cX5_seeds 91 = .ok (.iconst (-1), 1) := by decide +kernel
theorem dX5_seeds_92 : decode cX5_seeds 92 = .ok (.istore 6, 2) := by decide +kernel
theorem dX5_seeds_94 : decode cX5_seeds 94 = .ok (.iload 9, 2) := by decide +kernel
theorem dX5_seeds_96 : decode cX5_seeds 96 = .ok (.ifCond .lt 21, 3) := by decide +kernel
theorem dX5_seeds_99 : decode cX5_seeds 99 = .ok (.iinc 6 1, 3) := by decide +kernel
theorem dX5_seeds_102 : decode cX5_seeds 102 = .ok (.iload 9, 2) := by decide +kernel
theorem dX5_seeds_104 : decode cX5_seeds 104 = .ok (.iload 8, 2) := by decide +kernel
theorem dX5_seeds_106 : decode cX5_seeds 106 = .ok (.iload 6, 2) := by decide +kernel
theorem dX5_seeds_108 : decode cX5_seeds 108 = .ok (.ishr, 1) := by decide +kernel
theorem dX5_seeds_109 : decode cX5_seeds 109 = .ok (.iconst 1, 1) := by decide +kernel
theorem dX5_seeds_110 : decode cX5_seeds 110 = .ok (.iand, 1) := by decide +kernel
theorem dX5_seeds_111 : decode cX5_seeds 111 = .ok (.isub, 1) := by decide +kernel
theorem dX5_seeds_112 : decode cX5_seeds 112 = .ok (.istore 9, 2) := by decide +kernel
theorem dX5_seeds_114 : decode cX5_seeds 114 = .ok (.goto (-20), 3) := by decide +kernel
theorem dX5_seeds_117 : decode cX5_seeds 117 = .ok (.iinc 7 1, 3) := by decide +kernel
theorem dX5_seeds_120 : decode cX5_seeds 120 = .ok (.goto (-78), 3) := by decide +kernel
theorem dX5_seeds_123 : decode cX5_seeds 123 = .ok (.iload 6, 2) := by decide +kernel
theorem dX5_seeds_125 : decode cX5_seeds 125 = .ok (.ireturn, 1) := by decide +kernel
theorem cwX5_211 : Cond.constant RX5 211 (1664525 : Int32) ∈ TB := tb_in 1019 (by decide +kernel) rfl
theorem cwX5_212 : Cond.constant RX5 212 (1013904223 : Int32) ∈ TB := tb_in 1020 (by decide +kernel) rfl
theorem cwX5_213 : Cond.constant RX5 213 (2147483647 : Int32) ∈ TB := tb_in 1021 (by decide +kernel) rfl
def fX5_seeds_L94 (n : Nat) (v2 : Int32) (v5 : Int32) (v7 : Int32) (v8 : Int32) (K1 : Int32 → Mem → Option (Int32 × Mem)) : Nat → Int32 → Int32 → Mem → Option (Int32 × Mem)
  | 0, _, _, _ => none
  | F + 1, v6, v9, μ => if v9 < 0 then K1 v6 μ else bnd (v6 + 1) (fun x12 => bnd (v9 - ((jshr v8 x12) &&& 1)) (fun x13 => fX5_seeds_L94 n v2 v5 v7 v8 K1 F x12 x13 μ))
def fX5_seeds_L42 (n : Nat) (v2 : Int32) : Nat → Int32 → Int32 → Int32 → Mem → Option (Int32 × Mem)
  | 0, _, _, _, _ => none
  | F + 1, v5, v6, v7, μ => if v2 ≤ v7 then some (v6, μ) else bd (fX5_ridesOf n v6 μ) (fun r7 m6 => if r7 = 0 then some (v6, m6) else bnd ((v5 * 1664525) + 1013904223) (fun x8 => bd (fX5_bits n r7 m6) (fun r10 m9 => gd (nz r10) (bnd (jrem ((x8 &&& 2147483647) / 256) r10) (fun x11 => fX5_seeds_L94 n v2 x8 v7 r7 (fun (x14 : Int32) (m15 : Mem) => bnd (v7 + 1) (fun x16 => fX5_seeds_L42 n v2 F x8 x14 x16 m15)) n (-1) x11 m9)))))
def fX5_seeds (n : Nat) (a1 : Int32) (a2 : Int32) (a3 : Int32) (μ : Mem) : Option (Int32 × Mem) :=
  bd (fX5_isStation n a1 μ) (fun r2 m1 => bnd (fun (x4 : Int32) (m5 : Mem) => if x4 = 0 then fX5_seeds_L42 n a2 n a3 a1 0 m5 else bd (fX5_no n x4 m5) (fun r18 m17 => some (r18, m17))) (fun kb3 => if r2 = 0 then kb3 (-1) m1 else bd (fX5_bound n a2 1 60 m1) (fun r20 m19 => kb3 r20 m19)))
set_option maxHeartbeats 4000000 in
set_option maxRecDepth 100000 in
theorem wX5_seeds_L94 (ad : Nat → Nat) (n : Nat) (v2 : Int32) (v5 : Int32) (v7 : Int32) (v8 : Int32) (K1 : Int32 → Mem → Option (Int32 × Mem)) (hK1 : ∀ (u6 : Int32) (μ : Mem), G kX5_seeds ad encI 117 [(0, .ref (ad 47)), (2, .int v2), (5, .int v5), (6, .int u6), (7, .int v7)] [] μ (K1 u6 μ)) : ∀ (F : Nat) (v6 : Int32) (v9 : Int32) (μ : Mem), G kX5_seeds ad encI 94 [(0, .ref (ad 47)), (2, .int v2), (5, .int v5), (6, .int v6), (7, .int v7), (8, .int v8), (9, .int v9)] [] μ (fX5_seeds_L94 n v2 v5 v7 v8 K1 F v6 v9 μ) := by
  intro F
  induction F with
  | zero =>
    intro v6 v9 μ
    exact g_none
  | succ F ih =>
    intro v6 v9 μ
    rw [fX5_seeds_L94]
    refine g_iload (pc := 94) 6 dX5_seeds_94 rfl ?_
    refine g_if_lt (pc := 96) 117 dX5_seeds_96 rfl ?_ ?_
    · exact g_sub [0, 1, 2, 3, 4] rfl (hK1 v6 μ)
    · refine g_iincB (pc := 99) 3 1 1 (fun x12 => [(6, .int x12), (0, .ref (ad 47)), (2, .int v2), (5, .int v5), (7, .int v7), (8, .int v8), (9, .int v9)]) dX5_seeds_99 rfl (by decide) (by decide) (fun _ => rfl) (fun x12 => ?_)
      refine g_iload (pc := 102) 6 dX5_seeds_102 rfl ?_
      refine g_iload (pc := 104) 5 dX5_seeds_104 rfl ?_
      refine g_iload (pc := 106) 0 dX5_seeds_106 rfl ?_
      refine g_ishr' (pc := 108) dX5_seeds_108 ?_
      refine g_iconst (pc := 109) 1 dX5_seeds_109 (by decide) ?_
      refine g_iand (pc := 110) dX5_seeds_110 ?_
      refine g_isub (pc := 111) dX5_seeds_111 ?_
      refine g_istoreB (pc := 112) (fun x13 => [(9, .int x13), (6, .int x12), (0, .ref (ad 47)), (2, .int v2), (5, .int v5), (7, .int v7), (8, .int v8)]) dX5_seeds_112 (by decide) (fun _ => rfl) (fun x13 => ?_)
      refine g_goto (pc := 114) 94 dX5_seeds_114 rfl ?_
      exact g_sub [2, 3, 4, 1, 5, 6, 0] rfl (ih x12 x13 μ)
set_option maxHeartbeats 4000000 in
set_option maxRecDepth 100000 in
theorem wX5_seeds_L42 (ad : Nat → Nat) (n : Nat) (v2 : Int32) : ∀ (F : Nat) (v5 : Int32) (v6 : Int32) (v7 : Int32) (μ : Mem), G kX5_seeds ad encI 42 [(0, .ref (ad 47)), (2, .int v2), (5, .int v5), (6, .int v6), (7, .int v7)] [] μ (fX5_seeds_L42 n v2 F v5 v6 v7 μ) := by
  intro F
  induction F with
  | zero =>
    intro v5 v6 v7 μ
    exact g_none
  | succ F ih =>
    intro v5 v6 v7 μ
    rw [fX5_seeds_L42]
    refine g_iload (pc := 42) 4 dX5_seeds_42 rfl ?_
    refine g_iload_n (pc := 44) 1 dX5_seeds_44 rfl rfl ?_
    refine g_icmp_ge (pc := 45) 123 dX5_seeds_45 rfl ?_ ?_
    · refine g_iload (pc := 123) 3 dX5_seeds_123 rfl ?_
      exact g_ireturn (pc := 125) dX5_seeds_125 rfl
    · refine g_aload_n (pc := 48) 0 dX5_seeds_48 rfl rfl ?_
      refine g_iload (pc := 49) 3 dX5_seeds_49 rfl ?_
      refine g_cVI (pc := 51) (st := []) [.int v6] rfl rfl moX5_ridesOf lnX5_146 (ctX5_ridesOf ad n v6 μ) rfl ⟨Nat.le_of_ble_eq_true rfl, Nat.le_of_ble_eq_true rfl⟩ rfl (Nat.le_of_ble_eq_true rfl) dX5_seeds_51 (fun r7 m6 => ?_)
      refine g_istore (pc := 54) [(8, .int r7), (0, .ref (ad 47)), (2, .int v2), (5, .int v5), (6, .int v6), (7, .int v7)] dX5_seeds_54 (by decide) rfl ?_
      refine g_iload (pc := 56) 0 dX5_seeds_56 rfl ?_
      refine g_if_ne (pc := 58) 64 dX5_seeds_58 rfl ?_ ?_
      · refine g_iload (pc := 64) 3 dX5_seeds_64 rfl ?_
        refine g_ldc (pc := 66) dX5_seeds_66 cwX5_211 ?_
        refine g_imul (pc := 68) dX5_seeds_68 ?_
        refine g_ldc (pc := 69) dX5_seeds_69 cwX5_212 ?_
        refine g_iadd (pc := 71) dX5_seeds_71 ?_
        refine g_istoreB (pc := 72) (fun x8 => [(5, .int x8), (8, .int r7), (0, .ref (ad 47)), (2, .int v2), (6, .int v6), (7, .int v7)]) dX5_seeds_72 (by decide) (fun _ => rfl) (fun x8 => ?_)
        refine g_iload (pc := 74) 0 dX5_seeds_74 rfl ?_
        refine g_ldc (pc := 76) dX5_seeds_76 cwX5_213 ?_
        refine g_iand (pc := 78) dX5_seeds_78 ?_
        refine g_sipush (pc := 79) 256 dX5_seeds_79 (by decide) ?_
        refine g_idiv (pc := 82) dX5_seeds_82 (by decide) ?_
        refine g_iload (pc := 83) 1 dX5_seeds_83 rfl ?_
        refine g_cSI (pc := 85) (st := [.int ((x8 &&& 2147483647) / 256)]) [.int r7] moX5_bits lnX5_154 (ctX5_bits ad n r7 m6) rfl ⟨Nat.le_of_ble_eq_true rfl, Nat.le_of_ble_eq_true rfl⟩ rfl (Nat.le_of_ble_eq_true rfl) dX5_seeds_85 (fun r10 m9 => ?_)
        refine g_iremG (pc := 88) dX5_seeds_88 ?_
        refine g_istoreB (pc := 89) (fun x11 => [(9, .int x11), (5, .int x8), (8, .int r7), (0, .ref (ad 47)), (2, .int v2), (6, .int v6), (7, .int v7)]) dX5_seeds_89 (by decide) (fun _ => rfl) (fun x11 => ?_)
        refine g_iconst (pc := 91) (-1) dX5_seeds_91 (by decide) ?_
        refine g_istore (pc := 92) [(6, .int (-1)), (9, .int x11), (5, .int x8), (8, .int r7), (0, .ref (ad 47)), (2, .int v2), (7, .int v7)] dX5_seeds_92 (by decide) rfl ?_
        refine g_sub [4, 5, 2, 0, 6, 3, 1] rfl (wX5_seeds_L94 ad n v2 x8 v7 r7 _ (fun x14 m15 => ?_) n (-1) x11 m9)
        refine g_iincB (pc := 117) 4 1 1 (fun x16 => [(7, .int x16), (0, .ref (ad 47)), (2, .int v2), (5, .int x8), (6, .int x14)]) dX5_seeds_117 rfl (by decide) (by decide) (fun _ => rfl) (fun x16 => ?_)
        refine g_goto (pc := 120) 42 dX5_seeds_120 rfl ?_
        exact g_sub [1, 2, 3, 4, 0] rfl (ih x8 x14 x16 m15)
      · refine g_iload (pc := 61) 4 dX5_seeds_61 rfl ?_
        exact g_ireturn (pc := 63) dX5_seeds_63 rfl
set_option maxHeartbeats 4000000 in
set_option maxRecDepth 100000 in
theorem ctX5_seeds (ad : Nat → Nat) (n : Nat) (a1 : Int32) (a2 : Int32) (a3 : Int32) (μ : Mem) : Ct yX5_seeds kX5_seeds ad encI [.ref (ad 47), .int a1, .int a2, .int a3] μ (fX5_seeds n a1 a2 a3 μ) := Ct.of (by decide +kernel) rfl (Nat.le_of_ble_eq_true rfl) (by
  show G kX5_seeds ad encI 0 [(0, .ref (ad 47)), (1, .int a1), (2, .int a2), (3, .int a3)] [] μ (fX5_seeds n a1 a2 a3 μ)
  unfold fX5_seeds
  refine g_aload_n (pc := 0) 0 dX5_seeds_0 rfl rfl ?_
  refine g_iload_n (pc := 1) 1 dX5_seeds_1 rfl rfl ?_
  refine g_cVI (pc := 2) (st := []) [.int a1] rfl rfl moX5_isStation lnX5_100 (ctX5_isStation ad n a1 μ) rfl ⟨Nat.le_of_ble_eq_true rfl, Nat.le_of_ble_eq_true rfl⟩ rfl (Nat.le_of_ble_eq_true rfl) dX5_seeds_2 (fun r2 m1 => ?_)
  refine g_join (fun kb => ∀ (x4 : Int32) (m5 : Mem), G kX5_seeds ad encI 19 [(0, .ref (ad 47)), (1, .int a1), (2, .int a2), (3, .int a3)] [.int x4] m5 (kb x4 m5)) (fun x4 m5 => ?_) (fun kb3 hkb3 => ?_)
  · refine g_istore (pc := 19) [(4, .int x4), (0, .ref (ad 47)), (1, .int a1), (2, .int a2), (3, .int a3)] dX5_seeds_19 (by decide) rfl ?_
    refine g_iload (pc := 21) 0 dX5_seeds_21 rfl ?_
    refine g_if_eq (pc := 23) 33 dX5_seeds_23 rfl ?_ ?_
    · refine g_iload_n (pc := 33) 4 dX5_seeds_33 rfl rfl ?_
      refine g_istore (pc := 34) [(5, .int a3), (4, .int x4), (0, .ref (ad 47)), (1, .int a1), (2, .int a2), (3, .int a3)] dX5_seeds_34 (by decide) rfl ?_
      refine g_iload_n (pc := 36) 3 dX5_seeds_36 rfl rfl ?_
      refine g_istore (pc := 37) [(6, .int a1), (5, .int a3), (4, .int x4), (0, .ref (ad 47)), (1, .int a1), (2, .int a2), (3, .int a3)] dX5_seeds_37 (by decide) rfl ?_
      refine g_iconst (pc := 39) 0 dX5_seeds_39 (by decide) ?_
      refine g_istore (pc := 40) [(7, .int 0), (6, .int a1), (5, .int a3), (4, .int x4), (0, .ref (ad 47)), (1, .int a1), (2, .int a2), (3, .int a3)] dX5_seeds_40 (by decide) rfl ?_
      exact g_sub [4, 6, 2, 1, 0] rfl (wX5_seeds_L42 ad n a2 n a3 a1 0 m5)
    · refine g_aload_n (pc := 26) 1 dX5_seeds_26 rfl rfl ?_
      refine g_iload (pc := 27) 0 dX5_seeds_27 rfl ?_
      refine g_cVI (pc := 29) (st := []) [.int x4] rfl rfl moX5_no lnX5_67 (ctX5_no ad n x4 m5) rfl ⟨Nat.le_of_ble_eq_true rfl, Nat.le_of_ble_eq_true rfl⟩ rfl (Nat.le_of_ble_eq_true rfl) dX5_seeds_29 (fun r18 m17 => ?_)
      exact g_ireturn (pc := 32) dX5_seeds_32 rfl
  ·
    refine g_if_ne (pc := 5) 12 dX5_seeds_5 rfl ?_ ?_
    · refine g_iload_n (pc := 12) 2 dX5_seeds_12 rfl rfl ?_
      refine g_iconst (pc := 13) 1 dX5_seeds_13 (by decide) ?_
      refine g_bipush (pc := 14) 60 dX5_seeds_14 (by decide) ?_
      refine g_cSI (pc := 16) (st := []) [.int a2, .int 1, .int 60] moX5_bound lnX5_60 (ctX5_bound ad n a2 1 60 m1) rfl ⟨Nat.le_of_ble_eq_true rfl, Nat.le_of_ble_eq_true rfl⟩ rfl (Nat.le_of_ble_eq_true rfl) dX5_seeds_16 (fun r20 m19 => ?_)
      exact g_sub [0, 1, 2, 3] rfl (hkb3 r20 m19)
    · refine g_iconst (pc := 8) (-1) dX5_seeds_8 (by decide) ?_
      refine g_goto (pc := 9) 19 dX5_seeds_9 rfl ?_
      exact g_sub [0, 1, 2, 3] rfl (hkb3 (-1) m1))
-- StopsByLettersModel.count(I)I
abbrev kX5_count : Cfg := (RX5, cX5_count, 4, (some .int), 4)
theorem dX5_count_0 : decode cX5_count 0 = .ok (.iload_n 1, 1) := by decide +kernel
theorem dX5_count_1 : decode cX5_count 1 = .ok (.bipush 11, 2) := by decide +kernel
theorem dX5_count_3 : decode cX5_count 3 = .ok (.bipush 16, 2) := by decide +kernel
theorem dX5_count_5 : decode cX5_count 5 = .ok (.invokestatic 81, 3) := by decide +kernel
theorem dX5_count_8 : decode cX5_count 8 = .ok (.ifCond .eq 13, 3) := by decide +kernel
theorem dX5_count_11 : decode cX5_count 11 = .ok (.aload_n 0, 1) := by decide +kernel
theorem dX5_count_12 : decode cX5_count 12 = .ok (.getfield 7, 3) := by decide +kernel
theorem dX5_count_15 : decode cX5_count 15 = .ok (.iload_n 1, 1) := by decide +kernel
theorem dX5_count_16 : decode cX5_count 16 = .ok (.bipush 10, 2) := by decide +kernel
theorem dX5_count_18 : decode cX5_count 18 = .ok (.isub, 1) := by decide +kernel
theorem dX5_count_19 : decode cX5_count 19 = .ok (.iaload, 1) := by decide +kernel
theorem dX5_count_20 : decode cX5_count 20 = .ok (.ireturn, 1) := by decide +kernel
theorem dX5_count_21 : decode cX5_count 21 = .ok (.iconst 0, 1) := by decide +kernel
theorem dX5_count_22 : decode cX5_count 22 = .ok (.istore_n 2, 1) := by decide +kernel
theorem dX5_count_23 : decode cX5_count 23 = .ok (.iload_n 1, 1) := by decide +kernel
theorem dX5_count_24 : decode cX5_count 24 = .ok (.tableswitch 116 0 5 #[40, 45, 72, 77, 106, 111], 40) := by decide +kernel
theorem dX5_count_64 : decode cX5_count 64 = .ok (.aload_n 0, 1) := by decide +kernel
theorem dX5_count_65 : decode cX5_count 65 = .ok (.getfield 56, 3) := by decide +kernel
theorem dX5_count_68 : decode cX5_count 68 = .ok (.ireturn, 1) := by decide +kernel
theorem dX5_count_69 : decode cX5_count 69 = .ok (.iconst 0, 1) := by decide +kernel
theorem dX5_count_70 : decode cX5_count 70 = .ok (.istore_n 3, 1) := by decide +kernel
theorem dX5_count_71 : decode cX5_count 71 = .ok (.iload_n 3, 1) := by decide +kernel
theorem dX5_count_72 : decode cX5_count 72 = .ok (.aload_n 0, 1) := by decide +kernel
theorem dX5_count_73 : decode cX5_count 73 = .ok (.getfield 56, 3) := by decide +kernel
theorem dX5_count_76 : decode cX5_count 76 = .ok (.if_icmp .ge 18, 3) := by decide +kernel
theorem dX5_count_79 : decode cX5_count 79 = .ok (.iload_n 2, 1) := by decide +kernel
theorem dX5_count_80 : decode cX5_count 80 = .ok (.aload_n 0, 1) := by decide +kernel
theorem dX5_count_81 : decode cX5_count 81 = .ok (.getfield 16, 3) := by decide +kernel
theorem dX5_count_84 : decode cX5_count 84 = .ok (.iload_n 3, 1) := by decide +kernel
theorem dX5_count_85 : decode cX5_count 85 = .ok (.iaload, 1) := by decide +kernel
theorem dX5_count_86 : decode cX5_count 86 = .ok (.iadd, 1) := by decide +kernel
theorem dX5_count_87 : decode cX5_count 87 = .ok (.istore_n 2, 1) := by decide +kernel
theorem dX5_count_88 : decode cX5_count 88 = .ok (.iinc 3 1, 3) := by decide +kernel
theorem dX5_count_91 : decode cX5_count 91 = .ok (.goto (-20), 3) := by decide +kernel
theorem dX5_count_94 : decode cX5_count 94 = .ok (.iload_n 2, 1) := by decide +kernel
theorem dX5_count_95 : decode cX5_count 95 = .ok (.ireturn, 1) := by decide +kernel
theorem dX5_count_96 : decode cX5_count 96 = .ok (.aload_n 0, 1) := by decide +kernel
theorem dX5_count_97 : decode cX5_count 97 = .ok (.getfield 103, 3) := by decide +kernel
theorem dX5_count_100 : decode cX5_count 100 = .ok (.ireturn, 1) := by decide +kernel
theorem dX5_count_101 : decode cX5_count 101 = .ok (.iconst 0, 1) := by decide +kernel
theorem dX5_count_102 : decode cX5_count 102 = .ok (.istore_n 3, 1) := by decide +kernel
theorem dX5_count_103 : decode cX5_count 103 = .ok (.iload_n 3, 1) := by decide +kernel
theorem dX5_count_104 : decode cX5_count 104 = .ok (.aload_n 0, 1) := by decide +kernel
theorem dX5_count_105 : decode cX5_count 105 = .ok (.getfield 56, 3) := by decide +kernel
theorem dX5_count_108 : decode cX5_count 108 = .ok (.if_icmp .ge 20, 3) := by decide +kernel
theorem dX5_count_111 : decode cX5_count 111 = .ok (.iload_n 2, 1) := by decide +kernel
theorem dX5_count_112 : decode cX5_count 112 = .ok (.aload_n 0, 1) := by decide +kernel
theorem dX5_count_113 : decode cX5_count 113 = .ok (.iload_n 3, 1) := by decide +kernel
theorem dX5_count_114 : decode cX5_count 114 = .ok (.invokevirtual 146, 3) := by decide +kernel
theorem dX5_count_117 : decode cX5_count 117 = .ok (.invokestatic 154, 3) := by decide +kernel
theorem dX5_count_120 : decode cX5_count 120 = .ok (.iadd, 1) := by decide +kernel
theorem dX5_count_121 : decode cX5_count 121 = .ok (.istore_n 2, 1) := by decide +kernel
theorem dX5_count_122 : decode cX5_count 122 = .ok (.iinc 3 1, 3) := by decide +kernel
theorem dX5_count_125 : decode cX5_count 125 = .ok (.goto (-22), 3) := by decide +kernel
theorem dX5_count_128 : decode cX5_count 128 = .ok (.iload_n 2, 1) := by decide +kernel
theorem dX5_count_129 : decode cX5_count 129 = .ok (.ireturn, 1) := by decide +kernel
theorem dX5_count_130 : decode cX5_count 130 = .ok (.aload_n 0, 1) := by decide +kernel
theorem dX5_count_131 : decode cX5_count 131 = .ok (.getfield 198, 3) := by decide +kernel
theorem dX5_count_134 : decode cX5_count 134 = .ok (.ireturn, 1) := by decide +kernel
theorem dX5_count_135 : decode cX5_count 135 = .ok (.aload_n 0, 1) := by decide +kernel
theorem dX5_count_136 : decode cX5_count 136 = .ok (.getfield 64, 3) := by decide +kernel
theorem dX5_count_139 : decode cX5_count 139 = .ok (.ireturn, 1) := by decide +kernel
theorem dX5_count_140 : decode cX5_count 140 = .ok (.bipush (-9), 2) := by decide +kernel
theorem dX5_count_142 : decode cX5_count 142 = .ok (.ireturn, 1) := by decide +kernel
def fX5_count_L71 (n : Nat) : Nat → Int32 → Int32 → Mem → Option (Int32 × Mem)
  | 0, _, _, _ => none
  | F + 1, v2, v3, μ => if (μ.1 47 4) ≤ v3 then some (v2, μ) else gd (inb v3 9) (bnd (v2 + (μ.1 50 (Int32.toNatClampNeg v3))) (fun x5 => bnd (v3 + 1) (fun x6 => fX5_count_L71 n F x5 x6 μ)))
def fX5_count_L103 (n : Nat) : Nat → Int32 → Int32 → Mem → Option (Int32 × Mem)
  | 0, _, _, _ => none
  | F + 1, v2, v3, μ => if (μ.1 47 4) ≤ v3 then some (v2, μ) else bd (fX5_ridesOf n v3 μ) (fun r10 m9 => bd (fX5_bits n r10 m9) (fun r12 m11 => bnd (v2 + r12) (fun x13 => bnd (v3 + 1) (fun x14 => fX5_count_L103 n F x13 x14 m11))))
def fX5_count (n : Nat) (a1 : Int32) (μ : Mem) : Option (Int32 × Mem) :=
  bd (fX5_isIn n a1 11 16 μ) (fun r2 m1 => if r2 = 0 then bnd a1 (fun sx3 => if sx3 = 0 then some ((m1.1 47 4), m1) else if sx3 = 1 then fX5_count_L71 n n 0 0 m1 else if sx3 = 2 then some ((m1.1 47 5), m1) else if sx3 = 3 then fX5_count_L103 n n 0 0 m1 else if sx3 = 4 then some ((m1.1 47 22), m1) else if sx3 = 5 then some ((m1.1 47 12), m1) else some ((-9), m1)) else gd (inb (a1 - 10) 7) (some ((m1.1 48 (Int32.toNatClampNeg (a1 - 10))), m1)))
set_option maxHeartbeats 4000000 in
set_option maxRecDepth 100000 in
theorem wX5_count_L71 (ad : Nat → Nat) (n : Nat) : ∀ (F : Nat) (v2 : Int32) (v3 : Int32) (μ : Mem), G kX5_count ad encI 71 [(0, .ref (ad 47)), (2, .int v2), (3, .int v3)] [] μ (fX5_count_L71 n F v2 v3 μ) := by
  intro F
  induction F with
  | zero =>
    intro v2 v3 μ
    exact g_none
  | succ F ih =>
    intro v2 v3 μ
    rw [fX5_count_L71]
    refine g_iload_n (pc := 71) 2 dX5_count_71 rfl rfl ?_
    refine g_aload_n (pc := 72) 0 dX5_count_72 rfl rfl ?_
    refine g_get (pc := 73) rfl foX5_56 (v := .int (μ.1 47 4)) rfl dX5_count_73 ?_
    refine g_icmp_ge (pc := 76) 94 dX5_count_76 rfl ?_ ?_
    · refine g_iload_n (pc := 94) 1 dX5_count_94 rfl rfl ?_
      exact g_ireturn (pc := 95) dX5_count_95 rfl
    · refine g_iload_n (pc := 79) 1 dX5_count_79 rfl rfl ?_
      refine g_aload_n (pc := 80) 0 dX5_count_80 rfl rfl ?_
      refine g_get (pc := 81) rfl foX5_16 (v := .ref (ad 50)) rfl dX5_count_81 ?_
      refine g_iload_n (pc := 84) 2 dX5_count_84 rfl rfl ?_
      refine g_iald (pc := 85) rfl (by decide) dX5_count_85 ?_
      refine g_iadd (pc := 86) dX5_count_86 ?_
      refine g_istore_nB (pc := 87) (fun x5 => [(2, .int x5), (0, .ref (ad 47)), (3, .int v3)]) dX5_count_87 rfl (by decide) (fun _ => rfl) (fun x5 => ?_)
      refine g_iincB (pc := 88) 2 1 1 (fun x6 => [(3, .int x6), (2, .int x5), (0, .ref (ad 47))]) dX5_count_88 rfl (by decide) (by decide) (fun _ => rfl) (fun x6 => ?_)
      refine g_goto (pc := 91) 71 dX5_count_91 rfl ?_
      exact g_sub [2, 1, 0] rfl (ih x5 x6 μ)
set_option maxHeartbeats 4000000 in
set_option maxRecDepth 100000 in
theorem wX5_count_L103 (ad : Nat → Nat) (n : Nat) : ∀ (F : Nat) (v2 : Int32) (v3 : Int32) (μ : Mem), G kX5_count ad encI 103 [(0, .ref (ad 47)), (2, .int v2), (3, .int v3)] [] μ (fX5_count_L103 n F v2 v3 μ) := by
  intro F
  induction F with
  | zero =>
    intro v2 v3 μ
    exact g_none
  | succ F ih =>
    intro v2 v3 μ
    rw [fX5_count_L103]
    refine g_iload_n (pc := 103) 2 dX5_count_103 rfl rfl ?_
    refine g_aload_n (pc := 104) 0 dX5_count_104 rfl rfl ?_
    refine g_get (pc := 105) rfl foX5_56 (v := .int (μ.1 47 4)) rfl dX5_count_105 ?_
    refine g_icmp_ge (pc := 108) 128 dX5_count_108 rfl ?_ ?_
    · refine g_iload_n (pc := 128) 1 dX5_count_128 rfl rfl ?_
      exact g_ireturn (pc := 129) dX5_count_129 rfl
    · refine g_iload_n (pc := 111) 1 dX5_count_111 rfl rfl ?_
      refine g_aload_n (pc := 112) 0 dX5_count_112 rfl rfl ?_
      refine g_iload_n (pc := 113) 2 dX5_count_113 rfl rfl ?_
      refine g_cVI (pc := 114) (st := [.int v2]) [.int v3] rfl rfl moX5_ridesOf lnX5_146 (ctX5_ridesOf ad n v3 μ) rfl ⟨Nat.le_of_ble_eq_true rfl, Nat.le_of_ble_eq_true rfl⟩ rfl (Nat.le_of_ble_eq_true rfl) dX5_count_114 (fun r10 m9 => ?_)
      refine g_cSI (pc := 117) (st := [.int v2]) [.int r10] moX5_bits lnX5_154 (ctX5_bits ad n r10 m9) rfl ⟨Nat.le_of_ble_eq_true rfl, Nat.le_of_ble_eq_true rfl⟩ rfl (Nat.le_of_ble_eq_true rfl) dX5_count_117 (fun r12 m11 => ?_)
      refine g_iadd (pc := 120) dX5_count_120 ?_
      refine g_istore_nB (pc := 121) (fun x13 => [(2, .int x13), (0, .ref (ad 47)), (3, .int v3)]) dX5_count_121 rfl (by decide) (fun _ => rfl) (fun x13 => ?_)
      refine g_iincB (pc := 122) 2 1 1 (fun x14 => [(3, .int x14), (2, .int x13), (0, .ref (ad 47))]) dX5_count_122 rfl (by decide) (by decide) (fun _ => rfl) (fun x14 => ?_)
      refine g_goto (pc := 125) 103 dX5_count_125 rfl ?_
      exact g_sub [2, 1, 0] rfl (ih x13 x14 m11)
set_option maxHeartbeats 4000000 in
set_option maxRecDepth 100000 in
theorem ctX5_count (ad : Nat → Nat) (n : Nat) (a1 : Int32) (μ : Mem) : Ct yX5_count kX5_count ad encI [.ref (ad 47), .int a1] μ (fX5_count n a1 μ) := Ct.of (by decide +kernel) rfl (Nat.le_of_ble_eq_true rfl) (by
  show G kX5_count ad encI 0 [(0, .ref (ad 47)), (1, .int a1)] [] μ (fX5_count n a1 μ)
  unfold fX5_count
  refine g_iload_n (pc := 0) 1 dX5_count_0 rfl rfl ?_
  refine g_bipush (pc := 1) 11 dX5_count_1 (by decide) ?_
  refine g_bipush (pc := 3) 16 dX5_count_3 (by decide) ?_
  refine g_cSI (pc := 5) (st := []) [.int a1, .int 11, .int 16] moX5_isIn lnX5_81 (ctX5_isIn ad n a1 11 16 μ) rfl ⟨Nat.le_of_ble_eq_true rfl, Nat.le_of_ble_eq_true rfl⟩ rfl (Nat.le_of_ble_eq_true rfl) dX5_count_5 (fun r2 m1 => ?_)
  refine g_if_eq (pc := 8) 21 dX5_count_8 rfl ?_ ?_
  · refine g_iconst (pc := 21) 0 dX5_count_21 (by decide) ?_
    refine g_istore_n (pc := 22) [(2, .int 0), (0, .ref (ad 47)), (1, .int a1)] dX5_count_22 rfl (by decide) rfl ?_
    refine g_iload_n (pc := 23) 2 dX5_count_23 rfl rfl ?_
    refine g_swx (fun sx3 => ?_)
    refine g_ite (fun hq => ?_) (fun hs4 => ?_)
    · subst hq
      refine g_tabIn (pc := 24) 64 40 dX5_count_24 (by decide) ?_
      refine g_aload_n (pc := 64) 1 dX5_count_64 rfl rfl ?_
      refine g_get (pc := 65) rfl foX5_56 (v := .int (m1.1 47 4)) rfl dX5_count_65 ?_
      exact g_ireturn (pc := 68) dX5_count_68 rfl
    ·
      refine g_ite (fun hq => ?_) (fun hs7 => ?_)
      · subst hq
        refine g_tabIn (pc := 24) 69 45 dX5_count_24 (by decide) ?_
        refine g_iconst (pc := 69) 0 dX5_count_69 (by decide) ?_
        refine g_istore_n (pc := 70) [(3, .int 0), (2, .int 0), (0, .ref (ad 47)), (1, .int a1)] dX5_count_70 rfl (by decide) rfl ?_
        exact g_sub [2, 1, 0] rfl (wX5_count_L71 ad n n 0 0 m1)
      ·
        refine g_ite (fun hq => ?_) (fun hs8 => ?_)
        · subst hq
          refine g_tabIn (pc := 24) 96 72 dX5_count_24 (by decide) ?_
          refine g_aload_n (pc := 96) 1 dX5_count_96 rfl rfl ?_
          refine g_get (pc := 97) rfl foX5_103 (v := .int (m1.1 47 5)) rfl dX5_count_97 ?_
          exact g_ireturn (pc := 100) dX5_count_100 rfl
        ·
          refine g_ite (fun hq => ?_) (fun hs15 => ?_)
          · subst hq
            refine g_tabIn (pc := 24) 101 77 dX5_count_24 (by decide) ?_
            refine g_iconst (pc := 101) 0 dX5_count_101 (by decide) ?_
            refine g_istore_n (pc := 102) [(3, .int 0), (2, .int 0), (0, .ref (ad 47)), (1, .int a1)] dX5_count_102 rfl (by decide) rfl ?_
            exact g_sub [2, 1, 0] rfl (wX5_count_L103 ad n n 0 0 m1)
          ·
            refine g_ite (fun hq => ?_) (fun hs16 => ?_)
            · subst hq
              refine g_tabIn (pc := 24) 130 106 dX5_count_24 (by decide) ?_
              refine g_aload_n (pc := 130) 1 dX5_count_130 rfl rfl ?_
              refine g_get (pc := 131) rfl foX5_198 (v := .int (m1.1 47 22)) rfl dX5_count_131 ?_
              exact g_ireturn (pc := 134) dX5_count_134 rfl
            ·
              refine g_ite (fun hq => ?_) (fun hs17 => ?_)
              · subst hq
                refine g_tabIn (pc := 24) 135 111 dX5_count_24 (by decide) ?_
                refine g_aload_n (pc := 135) 1 dX5_count_135 rfl rfl ?_
                refine g_get (pc := 136) rfl foX5_64 (v := .int (m1.1 47 12)) rfl dX5_count_136 ?_
                exact g_ireturn (pc := 139) dX5_count_139 rfl
              ·
                refine g_tabD (pc := 24) 140 dX5_count_24 [0, 1, 2, 3, 4, 5] (by decide) ⟨hs4, hs7, hs8, hs15, hs16, hs17, trivial⟩ rfl ?_
                refine g_bipush (pc := 140) (-9) dX5_count_140 (by decide) ?_
                exact g_ireturn (pc := 142) dX5_count_142 rfl
  · refine g_aload_n (pc := 11) 0 dX5_count_11 rfl rfl ?_
    refine g_get (pc := 12) rfl foX5_7 (v := .ref (ad 48)) rfl dX5_count_12 ?_
    refine g_iload_n (pc := 15) 1 dX5_count_15 rfl rfl ?_
    refine g_bipush (pc := 16) 10 dX5_count_16 (by decide) ?_
    refine g_isub (pc := 18) dX5_count_18 ?_
    refine g_iald (pc := 19) rfl (by decide) dX5_count_19 ?_
    exact g_ireturn (pc := 20) dX5_count_20 rfl)
