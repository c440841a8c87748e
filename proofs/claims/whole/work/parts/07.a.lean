-- StopsByLettersModel.no(I)I
abbrev kX5_no : Cfg := (RX5, cX5_no, 2, (some .int), 0)
theorem dX5_no_0 : decode cX5_no 0 = .ok (.aload_n 0, 1) := by decide +kernel
theorem dX5_no_1 : decode cX5_no 1 = .ok (.getfield 7, 3) := by decide +kernel
theorem dX5_no_4 : decode cX5_no 4 = .ok (.iload_n 1, 1) := by decide +kernel
theorem dX5_no_5 : decode cX5_no 5 = .ok (.ineg, 1) := by decide +kernel
theorem dX5_no_6 : decode cX5_no 6 = .ok (.dup2, 1) := by decide +kernel
theorem dX5_no_7 : decode cX5_no 7 = .ok (.iaload, 1) := by decide +kernel
theorem dX5_no_8 : decode cX5_no 8 = .ok (.iconst 1, 1) := by decide +kernel
theorem dX5_no_9 : decode cX5_no 9 = .ok (.iadd, 1) := by decide +kernel
theorem dX5_no_10 : decode cX5_no 10 = .ok (.iastore, 1) := by decide +kernel
theorem dX5_no_11 : decode cX5_no 11 = .ok (.iload_n 1, 1) := by decide +kernel
theorem dX5_no_12 : decode cX5_no 12 = .ok (.ireturn, 1) := by decide +kernel
theorem foX5_7 : Fo 5 RX5 TX5 23 0 RX5 7 := ⟨rfl, by decide, rfl, uwX5, rfl, Or.inl (tb_in 696 (by decide +kernel) rfl)⟩
def fX5_no (n : Nat) (a1 : Int32) (μ : Mem) : Option (Int32 × Mem) :=
  gd (inb (-a1) 7) (gd (inb (-a1) 7) (bnd (setI μ 48 (Int32.toNatClampNeg (-a1)) ((μ.1 48 (Int32.toNatClampNeg (-a1))) + 1)) (fun m1 => some (a1, m1))))
set_option maxHeartbeats 4000000 in
set_option maxRecDepth 100000 in
theorem ctX5_no (ad : Nat → Nat) (n : Nat) (a1 : Int32) (μ : Mem) : Ct yX5_no kX5_no ad encI [.ref (ad 47), .int a1] μ (fX5_no n a1 μ) := Ct.of (by decide +kernel) rfl (Nat.le_of_ble_eq_true rfl) (by
  show G kX5_no ad encI 0 [(0, .ref (ad 47)), (1, .int a1)] [] μ (fX5_no n a1 μ)
  unfold fX5_no
  refine g_aload_n (pc := 0) 0 dX5_no_0 rfl rfl ?_
  refine g_get (pc := 1) rfl foX5_7 (v := .ref (ad 48)) rfl dX5_no_1 ?_
  refine g_iload_n (pc := 4) 1 dX5_no_4 rfl rfl ?_
  refine g_ineg (pc := 5) dX5_no_5 ?_
  refine g_dup2 (pc := 6) dX5_no_6 rfl rfl ?_
  refine g_iald (pc := 7) rfl (by decide) dX5_no_7 ?_
  refine g_iconst (pc := 8) 1 dX5_no_8 (by decide) ?_
  refine g_iadd (pc := 9) dX5_no_9 ?_
  refine g_iast (pc := 10) rfl (by decide) dX5_no_10 (fun m1 => ?_)
  refine g_iload_n (pc := 11) 1 dX5_no_11 rfl rfl ?_
  exact g_ireturn (pc := 12) dX5_no_12 rfl)
-- StopsByLettersModel.lower(I)I
abbrev kX5_lower : Cfg := (RX5, cX5_lower, 2, (some .int), 0)
theorem dX5_lower_0 : decode cX5_lower 0 = .ok (.aload_n 0, 1) := by decide +kernel
theorem dX5_lower_1 : decode cX5_lower 1 = .ok (.getfield 7, 3) := by decide +kernel
theorem dX5_lower_4 : decode cX5_lower 4 = .ok (.iload_n 1, 1) := by decide +kernel
theorem dX5_lower_5 : decode cX5_lower 5 = .ok (.ineg, 1) := by decide +kernel
theorem dX5_lower_6 : decode cX5_lower 6 = .ok (.dup2, 1) := by decide +kernel
theorem dX5_lower_7 : decode cX5_lower 7 = .ok (.iaload, 1) := by decide +kernel
theorem dX5_lower_8 : decode cX5_lower 8 = .ok (.iconst 1, 1) := by decide +kernel
theorem dX5_lower_9 : decode cX5_lower 9 = .ok (.iadd, 1) := by decide +kernel
theorem dX5_lower_10 : decode cX5_lower 10 = .ok (.iastore, 1) := by decide +kernel
theorem dX5_lower_11 : decode cX5_lower 11 = .ok (.ldc 53, 2) := by decide +kernel
theorem dX5_lower_13 : decode cX5_lower 13 = .ok (.iload_n 1, 1) := by decide +kernel
theorem dX5_lower_14 : decode cX5_lower 14 = .ok (.isub, 1) := by decide +kernel
theorem dX5_lower_15 : decode cX5_lower 15 = .ok (.ireturn, 1) := by decide +kernel
theorem cwX5_53 : Cond.constant RX5 53 (1000000000 : Int32) ∈ TB := tb_in 943 (by decide +kernel) rfl
def fX5_lower (n : Nat) (a1 : Int32) (μ : Mem) : Option (Int32 × Mem) :=
  gd (inb (-a1) 7) (gd (inb (-a1) 7) (bnd (setI μ 48 (Int32.toNatClampNeg (-a1)) ((μ.1 48 (Int32.toNatClampNeg (-a1))) + 1)) (fun m1 => some ((1000000000 - a1), m1))))
set_option maxHeartbeats 4000000 in
set_option maxRecDepth 100000 in
theorem ctX5_lower (ad : Nat → Nat) (n : Nat) (a1 : Int32) (μ : Mem) : Ct yX5_lower kX5_lower ad encI [.ref (ad 47), .int a1] μ (fX5_lower n a1 μ) := Ct.of (by decide +kernel) rfl (Nat.le_of_ble_eq_true rfl) (by
  show G kX5_lower ad encI 0 [(0, .ref (ad 47)), (1, .int a1)] [] μ (fX5_lower n a1 μ)
  unfold fX5_lower
  refine g_aload_n (pc := 0) 0 dX5_lower_0 rfl rfl ?_
  refine g_get (pc := 1) rfl foX5_7 (v := .ref (ad 48)) rfl dX5_lower_1 ?_
  refine g_iload_n (pc := 4) 1 dX5_lower_4 rfl rfl ?_
  refine g_ineg (pc := 5) dX5_lower_5 ?_
  refine g_dup2 (pc := 6) dX5_lower_6 rfl rfl ?_
  refine g_iald (pc := 7) rfl (by decide) dX5_lower_7 ?_
  refine g_iconst (pc := 8) 1 dX5_lower_8 (by decide) ?_
  refine g_iadd (pc := 9) dX5_lower_9 ?_
  refine g_iast (pc := 10) rfl (by decide) dX5_lower_10 (fun m1 => ?_)
  refine g_ldc (pc := 11) dX5_lower_11 cwX5_53 ?_
  refine g_iload_n (pc := 13) 1 dX5_lower_13 rfl rfl ?_
  refine g_isub (pc := 14) dX5_lower_14 ?_
  exact g_ireturn (pc := 15) dX5_lower_15 rfl)
-- StopsByLettersModel.lowest(I)J
abbrev kX5_lowest : Cfg := (RX5, cX5_lowest, 2, (some .long), 0)
theorem dX5_lowest_0 : decode cX5_lowest 0 = .ok (.aload_n 0, 1) := by decide +kernel
theorem dX5_lowest_1 : decode cX5_lowest 1 = .ok (.getfield 7, 3) := by decide +kernel
theorem dX5_lowest_4 : decode cX5_lowest 4 = .ok (.iload_n 1, 1) := by decide +kernel
theorem dX5_lowest_5 : decode cX5_lowest 5 = .ok (.ineg, 1) := by decide +kernel
theorem dX5_lowest_6 : decode cX5_lowest 6 = .ok (.dup2, 1) := by decide +kernel
theorem dX5_lowest_7 : decode cX5_lowest 7 = .ok (.iaload, 1) := by decide +kernel
theorem dX5_lowest_8 : decode cX5_lowest 8 = .ok (.iconst 1, 1) := by decide +kernel
theorem dX5_lowest_9 : decode cX5_lowest 9 = .ok (.iadd, 1) := by decide +kernel
theorem dX5_lowest_10 : decode cX5_lowest 10 = .ok (.iastore, 1) := by decide +kernel
theorem dX5_lowest_11 : decode cX5_lowest 11 = .ok (.ldc2_w 54, 3) := by decide +kernel
theorem dX5_lowest_14 : decode cX5_lowest 14 = .ok (.iload_n 1, 1) := by decide +kernel
theorem dX5_lowest_15 : decode cX5_lowest 15 = .ok (.i2l, 1) := by decide +kernel
theorem dX5_lowest_16 : decode cX5_lowest 16 = .ok (.lsub, 1) := by decide +kernel
theorem dX5_lowest_17 : decode cX5_lowest 17 = .ok (.lreturn, 1) := by decide +kernel
theorem cwX5_54 : Cond.constantLong RX5 54 (4000000000000000000 : Int64) ∈ TB := tb_in 886 (by decide +kernel) rfl
def fX5_lowest (n : Nat) (a1 : Int32) (μ : Mem) : Option (Int64 × Mem) :=
  gd (inb (-a1) 7) (gd (inb (-a1) 7) (bnd (setI μ 48 (Int32.toNatClampNeg (-a1)) ((μ.1 48 (Int32.toNatClampNeg (-a1))) + 1)) (fun m1 => some ((4000000000000000000 - a1.toInt64), m1))))
set_option maxHeartbeats 4000000 in
set_option maxRecDepth 100000 in
theorem ctX5_lowest (ad : Nat → Nat) (n : Nat) (a1 : Int32) (μ : Mem) : Ct yX5_lowest kX5_lowest ad encJ [.ref (ad 47), .int a1] μ (fX5_lowest n a1 μ) := Ct.of (by decide +kernel) rfl (Nat.le_of_ble_eq_true rfl) (by
  show G kX5_lowest ad encJ 0 [(0, .ref (ad 47)), (1, .int a1)] [] μ (fX5_lowest n a1 μ)
  unfold fX5_lowest
  refine g_aload_n (pc := 0) 0 dX5_lowest_0 rfl rfl ?_
  refine g_get (pc := 1) rfl foX5_7 (v := .ref (ad 48)) rfl dX5_lowest_1 ?_
  refine g_iload_n (pc := 4) 1 dX5_lowest_4 rfl rfl ?_
  refine g_ineg (pc := 5) dX5_lowest_5 ?_
  refine g_dup2 (pc := 6) dX5_lowest_6 rfl rfl ?_
  refine g_iald (pc := 7) rfl (by decide) dX5_lowest_7 ?_
  refine g_iconst (pc := 8) 1 dX5_lowest_8 (by decide) ?_
  refine g_iadd (pc := 9) dX5_lowest_9 ?_
  refine g_iast (pc := 10) rfl (by decide) dX5_lowest_10 (fun m1 => ?_)
  refine g_ldc2 (pc := 11) dX5_lowest_11 cwX5_54 ?_
  refine g_iload_n (pc := 14) 1 dX5_lowest_14 rfl rfl ?_
  refine g_i2l (pc := 15) dX5_lowest_15 ?_
  refine g_lsub (pc := 16) dX5_lowest_16 ?_
  exact g_lreturn (pc := 17) dX5_lowest_17 rfl)
-- StopsByLettersModel.isIn(III)Z
abbrev kX5_isIn : Cfg := (RX5, cX5_isIn, 3, (some .boolean), 0)
theorem dX5_isIn_0 : decode cX5_isIn 0 = .ok (.iload_n 0, 1) := by decide +kernel
theorem dX5_isIn_1 : decode cX5_isIn 1 = .ok (.iload_n 1, 1) := by decide +kernel
theorem dX5_isIn_2 : decode cX5_isIn 2 = .ok (.if_icmp .lt 12, 3) := by decide +kernel
theorem dX5_isIn_5 : decode cX5_isIn 5 = .ok (.iload_n 0, 1) := by decide +kernel
theorem dX5_isIn_6 : decode cX5_isIn 6 = .ok (.iload_n 2, 1) := by decide +kernel
theorem dX5_isIn_7 : decode cX5_isIn 7 = .ok (.if_icmp .gt 7, 3) := by decide +kernel
theorem dX5_isIn_10 : decode cX5_isIn 10 = .ok (.iconst 1, 1) := by decide +kernel
theorem dX5_isIn_11 : decode cX5_isIn 11 = .ok (.goto 4, 3) := by decide +kernel
theorem dX5_isIn_14 : decode cX5_isIn 14 = .ok (.iconst 0, 1) := by decide +kernel
theorem dX5_isIn_15 : decode cX5_isIn 15 = .ok (.ireturn, 1) := by decide +kernel
def fX5_isIn (n : Nat) (a0 : Int32) (a1 : Int32) (a2 : Int32) (μ : Mem) : Option (Int32 × Mem) :=
  if a0 < a1 then some (0, μ) else if a2 < a0 then some (0, μ) else some (1, μ)
set_option maxHeartbeats 4000000 in
set_option maxRecDepth 100000 in
theorem ctX5_isIn (ad : Nat → Nat) (n : Nat) (a0 : Int32) (a1 : Int32) (a2 : Int32) (μ : Mem) : Ct yX5_isIn kX5_isIn ad encI [.int a0, .int a1, .int a2] μ (fX5_isIn n a0 a1 a2 μ) := Ct.of (by decide +kernel) rfl (Nat.le_of_ble_eq_true rfl) (by
  show G kX5_isIn ad encI 0 [(0, .int a0), (1, .int a1), (2, .int a2)] [] μ (fX5_isIn n a0 a1 a2 μ)
  unfold fX5_isIn
  refine g_iload_n (pc := 0) 0 dX5_isIn_0 rfl rfl ?_
  refine g_iload_n (pc := 1) 1 dX5_isIn_1 rfl rfl ?_
  refine g_icmp_lt (pc := 2) 14 dX5_isIn_2 rfl ?_ ?_
  · refine g_iconst (pc := 14) 0 dX5_isIn_14 (by decide) ?_
    exact g_zreturn (pc := 15) (by decide) dX5_isIn_15 rfl
  · refine g_iload_n (pc := 5) 0 dX5_isIn_5 rfl rfl ?_
    refine g_iload_n (pc := 6) 2 dX5_isIn_6 rfl rfl ?_
    refine g_icmp_gt (pc := 7) 14 dX5_isIn_7 rfl ?_ ?_
    · refine g_iconst (pc := 14) 0 dX5_isIn_14 (by decide) ?_
      exact g_zreturn (pc := 15) (by decide) dX5_isIn_15 rfl
    · refine g_iconst (pc := 10) 1 dX5_isIn_10 (by decide) ?_
      refine g_goto (pc := 11) 15 dX5_isIn_11 rfl ?_
      exact g_zreturn (pc := 15) (by decide) dX5_isIn_15 rfl)
-- StopsByLettersModel.bound(III)I
abbrev kX5_bound : Cfg := (RX5, cX5_bound, 3, (some .int), 0)
theorem dX5_bound_0 : decode cX5_bound 0 = .ok (.iload_n 0, 1) := by decide +kernel
theorem dX5_bound_1 : decode cX5_bound 1 = .ok (.iload_n 1, 1) := by decide +kernel
theorem dX5_bound_2 : decode cX5_bound 2 = .ok (.if_icmp .ge 8, 3) := by decide +kernel
theorem dX5_bound_5 : decode cX5_bound 5 = .ok (.bipush (-4), 2) := by decide +kernel
theorem dX5_bound_7 : decode cX5_bound 7 = .ok (.goto 14, 3) := by decide +kernel
theorem dX5_bound_10 : decode cX5_bound 10 = .ok (.iload_n 0, 1) := by decide +kernel
theorem dX5_bound_11 : decode cX5_bound 11 = .ok (.iload_n 2, 1) := by decide +kernel
theorem dX5_bound_12 : decode cX5_bound 12 = .ok (.if_icmp .le 8, 3) := by decide +kernel
theorem dX5_bound_15 : decode cX5_bound 15 = .ok (.bipush (-6), 2) := by decide +kernel
theorem dX5_bound_17 : decode cX5_bound 17 = .ok (.goto 4, 3) := by decide +kernel
theorem dX5_bound_20 : decode cX5_bound 20 = .ok (.iconst 0, 1) := by decide +kernel
theorem dX5_bound_21 : decode cX5_bound 21 = .ok (.ireturn, 1) := by decide +kernel
def fX5_bound (n : Nat) (a0 : Int32) (a1 : Int32) (a2 : Int32) (μ : Mem) : Option (Int32 × Mem) :=
  if a1 ≤ a0 then if a0 ≤ a2 then some (0, μ) else some ((-6), μ) else some ((-4), μ)
set_option maxHeartbeats 4000000 in
set_option maxRecDepth 100000 in
theorem ctX5_bound (ad : Nat → Nat) (n : Nat) (a0 : Int32) (a1 : Int32) (a2 : Int32) (μ : Mem) : Ct yX5_bound kX5_bound ad encI [.int a0, .int a1, .int a2] μ (fX5_bound n a0 a1 a2 μ) := Ct.of (by decide +kernel) rfl (Nat.le_of_ble_eq_true rfl) (by
  show G kX5_bound ad encI 0 [(0, .int a0), (1, .int a1), (2, .int a2)] [] μ (fX5_bound n a0 a1 a2 μ)
  unfold fX5_bound
  refine g_iload_n (pc := 0) 0 dX5_bound_0 rfl rfl ?_
  refine g_iload_n (pc := 1) 1 dX5_bound_1 rfl rfl ?_
  refine g_icmp_ge (pc := 2) 10 dX5_bound_2 rfl ?_ ?_
  · refine g_iload_n (pc := 10) 0 dX5_bound_10 rfl rfl ?_
    refine g_iload_n (pc := 11) 2 dX5_bound_11 rfl rfl ?_
    refine g_icmp_le (pc := 12) 20 dX5_bound_12 rfl ?_ ?_
    · refine g_iconst (pc := 20) 0 dX5_bound_20 (by decide) ?_
      exact g_ireturn (pc := 21) dX5_bound_21 rfl
    · refine g_bipush (pc := 15) (-6) dX5_bound_15 (by decide) ?_
      refine g_goto (pc := 17) 21 dX5_bound_17 rfl ?_
      exact g_ireturn (pc := 21) dX5_bound_21 rfl
  · refine g_bipush (pc := 5) (-4) dX5_bound_5 (by decide) ?_
    refine g_goto (pc := 7) 21 dX5_bound_7 rfl ?_
    exact g_ireturn (pc := 21) dX5_bound_21 rfl)
-- StopsByLettersModel.isStation(I)Z
abbrev kX5_isStation : Cfg := (RX5, cX5_isStation, 2, (some .boolean), 0)
theorem dX5_isStation_0 : decode cX5_isStation 0 = .ok (.iload_n 1, 1) := by decide +kernel
theorem dX5_isStation_1 : decode cX5_isStation 1 = .ok (.ifCond .lt 15, 3) := by decide +kernel
theorem dX5_isStation_4 : decode cX5_isStation 4 = .ok (.iload_n 1, 1) := by decide +kernel
theorem dX5_isStation_5 : decode cX5_isStation 5 = .ok (.aload_n 0, 1) := by decide +kernel
theorem dX5_isStation_6 : decode cX5_isStation 6 = .ok (.getfield 56, 3) := by decide +kernel
theorem dX5_isStation_9 : decode cX5_isStation 9 = .ok (.if_icmp .ge 7, 3) := by decide +kernel
theorem dX5_isStation_12 : decode cX5_isStation 12 = .ok (.iconst 1, 1) := by decide +kernel
theorem dX5_isStation_13 : decode cX5_isStation 13 = .ok (.goto 4, 3) := by decide +kernel
theorem dX5_isStation_16 : decode cX5_isStation 16 = .ok (.iconst 0, 1) := by decide +kernel
theorem dX5_isStation_17 : decode cX5_isStation 17 = .ok (.ireturn, 1) := by decide +kernel
theorem foX5_56 : Fo 5 RX5 TX5 23 4 RX5 56 := ⟨rfl, by decide, rfl, uwX5, rfl, Or.inl (tb_in 700 (by decide +kernel) rfl)⟩
def fX5_isStation (n : Nat) (a1 : Int32) (μ : Mem) : Option (Int32 × Mem) :=
  if a1 < 0 then some (0, μ) else if (μ.1 47 4) ≤ a1 then some (0, μ) else some (1, μ)
set_option maxHeartbeats 4000000 in
set_option maxRecDepth 100000 in
theorem ctX5_isStation (ad : Nat → Nat) (n : Nat) (a1 : Int32) (μ : Mem) : Ct yX5_isStation kX5_isStation ad encI [.ref (ad 47), .int a1] μ (fX5_isStation n a1 μ) := Ct.of (by decide +kernel) rfl (Nat.le_of_ble_eq_true rfl) (by
  show G kX5_isStation ad encI 0 [(0, .ref (ad 47)), (1, .int a1)] [] μ (fX5_isStation n a1 μ)
  unfold fX5_isStation
  refine g_iload_n (pc := 0) 1 dX5_isStation_0 rfl rfl ?_
  refine g_if_lt (pc := 1) 16 dX5_isStation_1 rfl ?_ ?_
  · refine g_iconst (pc := 16) 0 dX5_isStation_16 (by decide) ?_
    exact g_zreturn (pc := 17) (by decide) dX5_isStation_17 rfl
  · refine g_iload_n (pc := 4) 1 dX5_isStation_4 rfl rfl ?_
    refine g_aload_n (pc := 5) 0 dX5_isStation_5 rfl rfl ?_
    refine g_get (pc := 6) rfl foX5_56 (v := .int (μ.1 47 4)) rfl dX5_isStation_6 ?_
    refine g_icmp_ge (pc := 9) 16 dX5_isStation_9 rfl ?_ ?_
    · refine g_iconst (pc := 16) 0 dX5_isStation_16 (by decide) ?_
      exact g_zreturn (pc := 17) (by decide) dX5_isStation_17 rfl
    · refine g_iconst (pc := 12) 1 dX5_isStation_12 (by decide) ?_
      refine g_goto (pc := 13) 17 dX5_isStation_13 rfl ?_
      exact g_zreturn (pc := 17) (by decide) dX5_isStation_17 rfl)
-- StopsByLettersModel.letter(I)I
abbrev kX5_letter : Cfg := (RX5, cX5_letter, 3, (some .int), 1)
theorem dX5_letter_0 : decode cX5_letter 0 = .ok (.iload_n 1, 1) := by decide +kernel
theorem dX5_letter_1 : decode cX5_letter 1 = .ok (.iconst 0, 1) := by decide +kernel
theorem dX5_letter_2 : decode cX5_letter 2 = .ok (.sipush 255, 3) := by decide +kernel
theorem dX5_letter_5 : decode cX5_letter 5 = .ok (.invokestatic 60, 3) := by decide +kernel
theorem dX5_letter_8 : decode cX5_letter 8 = .ok (.istore_n 2, 1) := by decide +kernel
theorem dX5_letter_9 : decode cX5_letter 9 = .ok (.iload_n 2, 1) := by decide +kernel
theorem dX5_letter_10 : decode cX5_letter 10 = .ok (.ifCond .ne 15, 3) := by decide +kernel
theorem dX5_letter_13 : decode cX5_letter 13 = .ok (.aload_n 0, 1) := by decide +kernel
theorem dX5_letter_14 : decode cX5_letter 14 = .ok (.getfield 64, 3) := by decide +kernel
theorem dX5_letter_17 : decode cX5_letter 17 = .ok (.bipush 96, 2) := by decide +kernel
theorem dX5_letter_19 : decode cX5_letter 19 = .ok (.if_icmp .ne 6, 3) := by decide +kernel
theorem dX5_letter_22 : decode cX5_letter 22 = .ok (.bipush (-6), 2) := by decide +kernel
theorem dX5_letter_24 : decode cX5_letter 24 = .ok (.istore_n 2, 1) := by decide +kernel
theorem dX5_letter_25 : decode cX5_letter 25 = .ok (.iload_n 2, 1) := by decide +kernel
theorem dX5_letter_26 : decode cX5_letter 26 = .ok (.ifCond .eq 9, 3) := by decide +kernel
theorem dX5_letter_29 : decode cX5_letter 29 = .ok (.aload_n 0, 1) := by decide +kernel
theorem dX5_letter_30 : decode cX5_letter 30 = .ok (.iload_n 2, 1) := by decide +kernel
theorem dX5_letter_31 : decode cX5_letter 31 = .ok (.invokevirtual 67, 3) := by decide +kernel
theorem dX5_letter_34 : decode cX5_letter 34 = .ok (.ireturn, 1) := by decide +kernel
theorem dX5_letter_35 : decode cX5_letter 35 = .ok (.aload_n 0, 1) := by decide +kernel
theorem dX5_letter_36 : decode cX5_letter 36 = .ok (.getfield 22, 3) := by decide +kernel
theorem dX5_letter_39 : decode cX5_letter 39 = .ok (.aload_n 0, 1) := by decide +kernel
theorem dX5_letter_40 : decode cX5_letter 40 = .ok (.getfield 64, 3) := by decide +kernel
theorem dX5_letter_43 : decode cX5_letter 43 = .ok (.iload_n 1, 1) := by decide +kernel
theorem dX5_letter_44 : decode cX5_letter 44 = .ok (.iastore, 1) := by decide +kernel
theorem dX5_letter_45 : decode cX5_letter 45 = .ok (.aload_n 0, 1) := by decide +kernel
theorem dX5_letter_46 : decode cX5_letter 46 = .ok (.dup, 1) := by decide +kernel
theorem dX5_letter_47 : decode cX5_letter 47 = .ok (.getfield 64, 3) := by decide +kernel
theorem dX5_letter_50 : decode cX5_letter 50 = .ok (.iconst 1, 1) := by decide +kernel
theorem dX5_letter_51 : decode cX5_letter 51 = .ok (.iadd, 1) := by decide +kernel
theorem dX5_letter_52 : decode cX5_letter 52 = .ok (.putfield 64, 3) := by decide +kernel
theorem dX5_letter_55 : decode cX5_letter 55 = .ok (.aload_n 0, 1) := by decide +kernel
theorem dX5_letter_56 : decode cX5_letter 56 = .ok (.getfield 64, 3) := by decide +kernel
theorem dX5_letter_59 : decode cX5_letter 59 = .ok (.ireturn, 1) := by decide +kernel
theorem foX5_22 : Fo 5 RX5 TX5 23 6 RX5 22 := ⟨rfl, by decide, rfl, uwX5, rfl, Or.inl (tb_in 702 (by decide +kernel) rfl)⟩
theorem foX5_64 : Fo 5 RX5 TX5 23 12 RX5 64 := ⟨rfl, by decide, rfl, uwX5, rfl, Or.inl (tb_in 708 (by decide +kernel) rfl)⟩
theorem fpX5_12 : Fp TX5 23 tyX5 12 := ⟨tyX5_ok, nmX5, rfl⟩
theorem lnX5_67 : Ln RX5 67 yX5_no := Or.inl (tb_in 773 (by decide +kernel) rfl)
theorem moX5_no : Mv yX5_no kX5_no 1 := ⟨⟨tb_in 776 (by decide +kernel) rfl, tb_in 92 (by decide +kernel) rfl, ⟨by decide, by decide⟩, by decide +kernel⟩, tb_in 775 (by decide +kernel) rfl, tb_in 56 (by decide +kernel) rfl⟩
theorem lnX5_60 : Ln RX5 60 yX5_bound := Or.inl (tb_in 770 (by decide +kernel) rfl)
theorem moX5_bound : Ms yX5_bound kX5_bound 3 := ⟨⟨tb_in 772 (by decide +kernel) rfl, tb_in 92 (by decide +kernel) rfl, ⟨by decide, by decide⟩, by decide +kernel⟩, tb_in 771 (by decide +kernel) rfl⟩
def fX5_letter (n : Nat) (a1 : Int32) (μ : Mem) : Option (Int32 × Mem) :=
  bd (fX5_bound n a1 0 255 μ) (fun r2 m1 => bnd (fun (x4 : Int32) (m5 : Mem) => if x4 = 0 then gd (inb (m5.1 47 12) 96) (bnd (setI m5 52 (Int32.toNatClampNeg (m5.1 47 12)) a1) (fun m6 => bnd (setI m6 47 12 ((m6.1 47 12) + 1)) (fun m7 => some ((m7.1 47 12), m7)))) else bd (fX5_no n x4 m5) (fun r9 m8 => some (r9, m8))) (fun kb3 => if r2 = 0 then if (m1.1 47 12) = 96 then kb3 (-6) m1 else kb3 r2 m1 else kb3 r2 m1))
set_option maxHeartbeats 4000000 in
set_option maxRecDepth 100000 in
theorem ctX5_letter (ad : Nat → Nat) (n : Nat) (a1 : Int32) (μ : Mem) : Ct yX5_letter kX5_letter ad encI [.ref (ad 47), .int a1] μ (fX5_letter n a1 μ) := Ct.of (by decide +kernel) rfl (Nat.le_of_ble_eq_true rfl) (by
  show G kX5_letter ad encI 0 [(0, .ref (ad 47)), (1, .int a1)] [] μ (fX5_letter n a1 μ)
  unfold fX5_letter
  refine g_iload_n (pc := 0) 1 dX5_letter_0 rfl rfl ?_
  refine g_iconst (pc := 1) 0 dX5_letter_1 (by decide) ?_
  refine g_sipush (pc := 2) 255 dX5_letter_2 (by decide) ?_
  refine g_cSI (pc := 5) (st := []) [.int a1, .int 0, .int 255] moX5_bound lnX5_60 (ctX5_bound ad n a1 0 255 μ) rfl ⟨Nat.le_of_ble_eq_true rfl, Nat.le_of_ble_eq_true rfl⟩ rfl (Nat.le_of_ble_eq_true rfl) dX5_letter_5 (fun r2 m1 => ?_)
  refine g_istore_n (pc := 8) [(2, .int r2), (0, .ref (ad 47)), (1, .int a1)] dX5_letter_8 rfl (by decide) rfl ?_
  refine g_iload_n (pc := 9) 0 dX5_letter_9 rfl rfl ?_
  refine g_join (fun kb => ∀ (x4 : Int32) (m5 : Mem), G kX5_letter ad encI 25 [(0, .ref (ad 47)), (1, .int a1), (2, .int x4)] [] m5 (kb x4 m5)) (fun x4 m5 => ?_) (fun kb3 hkb3 => ?_)
  · refine g_iload_n (pc := 25) 2 dX5_letter_25 rfl rfl ?_
    refine g_if_eq (pc := 26) 35 dX5_letter_26 rfl ?_ ?_
    · refine g_aload_n (pc := 35) 0 dX5_letter_35 rfl rfl ?_
      refine g_get (pc := 36) rfl foX5_22 (v := .ref (ad 52)) rfl dX5_letter_36 ?_
      refine g_aload_n (pc := 39) 0 dX5_letter_39 rfl rfl ?_
      refine g_get (pc := 40) rfl foX5_64 (v := .int (m5.1 47 12)) rfl dX5_letter_40 ?_
      refine g_iload_n (pc := 43) 1 dX5_letter_43 rfl rfl ?_
      refine g_iast (pc := 44) rfl (by decide) dX5_letter_44 (fun m6 => ?_)
      refine g_aload_n (pc := 45) 0 dX5_letter_45 rfl rfl ?_
      refine g_dup (pc := 46) dX5_letter_46 rfl ?_
      refine g_get (pc := 47) rfl foX5_64 (v := .int (m6.1 47 12)) rfl dX5_letter_47 ?_
      refine g_iconst (pc := 50) 1 dX5_letter_50 (by decide) ?_
      refine g_iadd (pc := 51) dX5_letter_51 ?_
      refine g_put (pc := 52) rfl foX5_64 fpX5_12 rfl rfl dX5_letter_52 (fun m7 => ?_)
      refine g_aload_n (pc := 55) 0 dX5_letter_55 rfl rfl ?_
      refine g_get (pc := 56) rfl foX5_64 (v := .int (m7.1 47 12)) rfl dX5_letter_56 ?_
      exact g_ireturn (pc := 59) dX5_letter_59 rfl
    · refine g_aload_n (pc := 29) 0 dX5_letter_29 rfl rfl ?_
      refine g_iload_n (pc := 30) 2 dX5_letter_30 rfl rfl ?_
      refine g_cVI (pc := 31) (st := []) [.int x4] rfl rfl moX5_no lnX5_67 (ctX5_no ad n x4 m5) rfl ⟨Nat.le_of_ble_eq_true rfl, Nat.le_of_ble_eq_true rfl⟩ rfl (Nat.le_of_ble_eq_true rfl) dX5_letter_31 (fun r9 m8 => ?_)
      exact g_ireturn (pc := 34) dX5_letter_34 rfl
  ·
    refine g_if_ne (pc := 10) 25 dX5_letter_10 rfl ?_ ?_
    · exact g_sub [1, 2, 0] rfl (hkb3 r2 m1)
    · refine g_aload_n (pc := 13) 1 dX5_letter_13 rfl rfl ?_
      refine g_get (pc := 14) rfl foX5_64 (v := .int (m1.1 47 12)) rfl dX5_letter_14 ?_
      refine g_bipush (pc := 17) 96 dX5_letter_17 (by decide) ?_
      refine g_icmp_ne (pc := 19) 25 dX5_letter_19 rfl ?_ ?_
      · exact g_sub [1, 2, 0] rfl (hkb3 r2 m1)
      · refine g_bipush (pc := 22) (-6) dX5_letter_22 (by decide) ?_
        refine g_istore_n (pc := 24) [(2, .int (-6)), (0, .ref (ad 47)), (1, .int a1)] dX5_letter_24 rfl (by decide) rfl ?_
        exact g_sub [1, 2, 0] rfl (hkb3 (-6) m1))
-- StopsByLettersModel.next()I
abbrev kX5_next : Cfg := (RX5, cX5_next, 1, (some .int), 0)
theorem dX5_next_0 : decode cX5_next 0 = .ok (.aload_n 0, 1) := by decide +kernel
theorem dX5_next_1 : decode cX5_next 1 = .ok (.getfield 71, 3) := by decide +kernel
theorem dX5_next_4 : decode cX5_next 4 = .ok (.aload_n 0, 1) := by decide +kernel
theorem dX5_next_5 : decode cX5_next 5 = .ok (.getfield 64, 3) := by decide +kernel
theorem dX5_next_8 : decode cX5_next 8 = .ok (.if_icmp .ge 15, 3) := by decide +kernel
theorem dX5_next_11 : decode cX5_next 11 = .ok (.aload_n 0, 1) := by decide +kernel
theorem dX5_next_12 : decode cX5_next 12 = .ok (.getfield 22, 3) := by decide +kernel
theorem dX5_next_15 : decode cX5_next 15 = .ok (.aload_n 0, 1) := by decide +kernel
theorem dX5_next_16 : decode cX5_next 16 = .ok (.getfield 71, 3) := by decide +kernel
theorem dX5_next_19 : decode cX5_next 19 = .ok (.iaload, 1) := by decide +kernel
theorem dX5_next_20 : decode cX5_next 20 = .ok (.goto 4, 3) := by decide +kernel
theorem dX5_next_23 : decode cX5_next 23 = .ok (.iconst (-1), 1) := by decide +kernel
theorem dX5_next_24 : decode cX5_next 24 = .ok (.ireturn, 1) := by decide +kernel
theorem foX5_71 : Fo 5 RX5 TX5 23 13 RX5 71 := ⟨rfl, by decide, rfl, uwX5, rfl, Or.inl (tb_in 709 (by decide +kernel) rfl)⟩
def fX5_next (n : Nat) (μ : Mem) : Option (Int32 × Mem) :=
  if (μ.1 47 12) ≤ (μ.1 47 13) then some ((-1), μ) else gd (inb (μ.1 47 13) 96) (some ((μ.1 52 (Int32.toNatClampNeg (μ.1 47 13))), μ))
set_option maxHeartbeats 4000000 in
set_option maxRecDepth 100000 in
theorem ctX5_next (ad : Nat → Nat) (n : Nat) (μ : Mem) : Ct yX5_next kX5_next ad encI [.ref (ad 47)] μ (fX5_next n μ) := Ct.of (by decide +kernel) rfl (Nat.le_of_ble_eq_true rfl) (by
  show G kX5_next ad encI 0 [(0, .ref (ad 47))] [] μ (fX5_next n μ)
  unfold fX5_next
  refine g_aload_n (pc := 0) 0 dX5_next_0 rfl rfl ?_
  refine g_get (pc := 1) rfl foX5_71 (v := .int (μ.1 47 13)) rfl dX5_next_1 ?_
  refine g_aload_n (pc := 4) 0 dX5_next_4 rfl rfl ?_
  refine g_get (pc := 5) rfl foX5_64 (v := .int (μ.1 47 12)) rfl dX5_next_5 ?_
  refine g_icmp_ge (pc := 8) 23 dX5_next_8 rfl ?_ ?_
  · refine g_iconst (pc := 23) (-1) dX5_next_23 (by decide) ?_
    exact g_ireturn (pc := 24) dX5_next_24 rfl
  · refine g_aload_n (pc := 11) 0 dX5_next_11 rfl rfl ?_
    refine g_get (pc := 12) rfl foX5_22 (v := .ref (ad 52)) rfl dX5_next_12 ?_
    refine g_aload_n (pc := 15) 0 dX5_next_15 rfl rfl ?_
    refine g_get (pc := 16) rfl foX5_71 (v := .int (μ.1 47 13)) rfl dX5_next_16 ?_
    refine g_iald (pc := 19) rfl (by decide) dX5_next_19 ?_
    refine g_goto (pc := 20) 24 dX5_next_20 rfl ?_
    exact g_ireturn (pc := 24) dX5_next_24 rfl)
-- StopsByLettersModel.isNext(I)Z
abbrev kX5_isNext : Cfg := (RX5, cX5_isNext, 2, (some .boolean), 1)
theorem dX5_isNext_0 : decode cX5_isNext 0 = .ok (.aload_n 0, 1) := by decide +kernel
theorem dX5_isNext_1 : decode cX5_isNext 1 = .ok (.invokevirtual 74, 3) := by decide +kernel
theorem dX5_isNext_4 : decode cX5_isNext 4 = .ok (.iload_n 1, 1) := by decide +kernel
theorem dX5_isNext_5 : decode cX5_isNext 5 = .ok (.if_icmp .eq 5, 3) := by decide +kernel
theorem dX5_isNext_8 : decode cX5_isNext 8 = .ok (.iconst 0, 1) := by decide +kernel
theorem dX5_isNext_9 : decode cX5_isNext 9 = .ok (.ireturn, 1) := by decide +kernel
theorem dX5_isNext_10 : decode cX5_isNext 10 = .ok (.aload_n 0, 1) := by decide +kernel
theorem dX5_isNext_11 : decode cX5_isNext 11 = .ok (.dup, 1) := by decide +kernel
theorem dX5_isNext_12 : decode cX5_isNext 12 = .ok (.getfield 71, 3) := by decide +kernel
theorem dX5_isNext_15 : decode cX5_isNext 15 = .ok (.iconst 1, 1) := by decide +kernel
theorem dX5_isNext_16 : decode cX5_isNext 16 = .ok (.iadd, 1) := by decide +kernel
theorem dX5_isNext_17 : decode cX5_isNext 17 = .ok (.putfield 71, 3) := by decide +kernel
theorem dX5_isNext_20 : decode cX5_isNext 20 = .ok (.iconst 1, 1) := by decide +kernel
theorem dX5_isNext_21 : decode cX5_isNext 21 = .ok (.ireturn, 1) := by decide +kernel
theorem fpX5_13 : Fp TX5 23 tyX5 13 := ⟨tyX5_ok, nmX5, rfl⟩
theorem lnX5_74 : Ln RX5 74 yX5_next := Or.inl (tb_in 785 (by decide +kernel) rfl)
theorem moX5_next : Mv yX5_next kX5_next 0 := ⟨⟨tb_in 788 (by decide +kernel) rfl, tb_in 92 (by decide +kernel) rfl, ⟨by decide, by decide⟩, by decide +kernel⟩, tb_in 787 (by decide +kernel) rfl, tb_in 58 (by decide +kernel) rfl⟩
def fX5_isNext (n : Nat) (a1 : Int32) (μ : Mem) : Option (Int32 × Mem) :=
  bd (fX5_next n μ) (fun r2 m1 => if r2 = a1 then bnd (setI m1 47 13 ((m1.1 47 13) + 1)) (fun m3 => some (1, m3)) else some (0, m1))
set_option maxHeartbeats 4000000 in
set_option maxRecDepth 100000 in
theorem ctX5_isNext (ad : Nat → Nat) (n : Nat) (a1 : Int32) (μ : Mem) : Ct yX5_isNext kX5_isNext ad encI [.ref (ad 47), .int a1] μ (fX5_isNext n a1 μ) := Ct.of (by decide +kernel) rfl (Nat.le_of_ble_eq_true rfl) (by
  show G kX5_isNext ad encI 0 [(0, .ref (ad 47)), (1, .int a1)] [] μ (fX5_isNext n a1 μ)
  unfold fX5_isNext
  refine g_aload_n (pc := 0) 0 dX5_isNext_0 rfl rfl ?_
  refine g_cVI (pc := 1) (st := []) [] rfl rfl moX5_next lnX5_74 (ctX5_next ad n μ) rfl ⟨Nat.le_of_ble_eq_true rfl, Nat.le_of_ble_eq_true rfl⟩ rfl (Nat.le_of_ble_eq_true rfl) dX5_isNext_1 (fun r2 m1 => ?_)
  refine g_iload_n (pc := 4) 1 dX5_isNext_4 rfl rfl ?_
  refine g_icmp_eq (pc := 5) 10 dX5_isNext_5 rfl ?_ ?_
  · refine g_aload_n (pc := 10) 0 dX5_isNext_10 rfl rfl ?_
    refine g_dup (pc := 11) dX5_isNext_11 rfl ?_
    refine g_get (pc := 12) rfl foX5_71 (v := .int (m1.1 47 13)) rfl dX5_isNext_12 ?_
    refine g_iconst (pc := 15) 1 dX5_isNext_15 (by decide) ?_
    refine g_iadd (pc := 16) dX5_isNext_16 ?_
    refine g_put (pc := 17) rfl foX5_71 fpX5_13 rfl rfl dX5_isNext_17 (fun m3 => ?_)
    refine g_iconst (pc := 20) 1 dX5_isNext_20 (by decide) ?_
    exact g_zreturn (pc := 21) (by decide) dX5_isNext_21 rfl
  · refine g_iconst (pc := 8) 0 dX5_isNext_8 (by decide) ?_
    exact g_zreturn (pc := 9) (by decide) dX5_isNext_9 rfl)
-- StopsByLettersModel.kindOf(I)I
abbrev kX5_kindOf : Cfg := (RX5, cX5_kindOf, 1, (some .int), 0)
theorem dX5_kindOf_0 : decode cX5_kindOf 0 = .ok (.iload_n 0, 1) := by decide +kernel
theorem dX5_kindOf_1 : decode cX5_kindOf 1 = .ok (.tableswitch 99 101 118 #[95, 89, 99, 99, 99, 93, 99, 97, 99, 99, 99, 99, 99, 99, 87, 99, 99, 91], 87) := by decide +kernel
theorem dX5_kindOf_88 : decode cX5_kindOf 88 = .ok (.iconst 0, 1) := by decide +kernel
theorem dX5_kindOf_89 : decode cX5_kindOf 89 = .ok (.ireturn, 1) := by decide +kernel
theorem dX5_kindOf_90 : decode cX5_kindOf 90 = .ok (.iconst 1, 1) := by decide +kernel
theorem dX5_kindOf_91 : decode cX5_kindOf 91 = .ok (.ireturn, 1) := by decide +kernel
theorem dX5_kindOf_92 : decode cX5_kindOf 92 = .ok (.iconst 2, 1) := by decide +kernel
theorem dX5_kindOf_93 : decode cX5_kindOf 93 = .ok (.ireturn, 1) := by decide +kernel
theorem dX5_kindOf_94 : decode cX5_kindOf 94 = .ok (.iconst 3, 1) := by decide +kernel
theorem dX5_kindOf_95 : decode cX5_kindOf 95 = .ok (.ireturn, 1) := by decide +kernel
theorem dX5_kindOf_96 : decode cX5_kindOf 96 = .ok (.iconst 4, 1) := by decide +kernel
theorem dX5_kindOf_97 : decode cX5_kindOf 97 = .ok (.ireturn, 1) := by decide +kernel
theorem dX5_kindOf_98 : decode cX5_kindOf 98 = .ok (.iconst 5, 1) := by decide +kernel
theorem dX5_kindOf_99 : decode cX5_kindOf 99 = .ok (.ireturn, 1) := by decide +kernel
theorem dX5_kindOf_100 : decode cX5_kindOf 100 = .ok (.iconst (-1), 1) := by decide +kernel
theorem dX5_kindOf_101 : decode cX5_kindOf 101 = .ok (.ireturn, 1) := by decide +kernel
def fX5_kindOf (n : Nat) (a0 : Int32) (μ : Mem) : Option (Int32 × Mem) :=
  bnd a0 (fun sx1 => if sx1 = 101 then some (4, μ) else if sx1 = 102 then some (1, μ) else if sx1 = 106 then some (3, μ) else if sx1 = 108 then some (5, μ) else if sx1 = 115 then some (0, μ) else if sx1 = 118 then some (2, μ) else some ((-1), μ))
set_option maxHeartbeats 4000000 in
set_option maxRecDepth 100000 in
theorem ctX5_kindOf (ad : Nat → Nat) (n : Nat) (a0 : Int32) (μ : Mem) : Ct yX5_kindOf kX5_kindOf ad encI [.int a0] μ (fX5_kindOf n a0 μ) := Ct.of (by decide +kernel) rfl (Nat.le_of_ble_eq_true rfl) (by
  show G kX5_kindOf ad encI 0 [(0, .int a0)] [] μ (fX5_kindOf n a0 μ)
  unfold fX5_kindOf
  refine g_iload_n (pc := 0) 0 dX5_kindOf_0 rfl rfl ?_
  refine g_swx (fun sx1 => ?_)
  refine g_ite (fun hq => ?_) (fun hs2 => ?_)
  · subst hq
    refine g_tabIn (pc := 1) 96 95 dX5_kindOf_1 (by decide) ?_
    refine g_iconst (pc := 96) 4 dX5_kindOf_96 (by decide) ?_
    exact g_ireturn (pc := 97) dX5_kindOf_97 rfl
  ·
    refine g_ite (fun hq => ?_) (fun hs3 => ?_)
    · subst hq
      refine g_tabIn (pc := 1) 90 89 dX5_kindOf_1 (by decide) ?_
      refine g_iconst (pc := 90) 1 dX5_kindOf_90 (by decide) ?_
      exact g_ireturn (pc := 91) dX5_kindOf_91 rfl
    ·
      refine g_ite (fun hq => ?_) (fun hs4 => ?_)
      · subst hq
        refine g_tabIn (pc := 1) 94 93 dX5_kindOf_1 (by decide) ?_
        refine g_iconst (pc := 94) 3 dX5_kindOf_94 (by decide) ?_
        exact g_ireturn (pc := 95) dX5_kindOf_95 rfl
      ·
        refine g_ite (fun hq => ?_) (fun hs5 => ?_)
        · subst hq
          refine g_tabIn (pc := 1) 98 97 dX5_kindOf_1 (by decide) ?_
          refine g_iconst (pc := 98) 5 dX5_kindOf_98 (by decide) ?_
          exact g_ireturn (pc := 99) dX5_kindOf_99 rfl
        ·
          refine g_ite (fun hq => ?_) (fun hs6 => ?_)
          · subst hq
            refine g_tabIn (pc := 1) 88 87 dX5_kindOf_1 (by decide) ?_
            refine g_iconst (pc := 88) 0 dX5_kindOf_88 (by decide) ?_
            exact g_ireturn (pc := 89) dX5_kindOf_89 rfl
          ·
            refine g_ite (fun hq => ?_) (fun hs7 => ?_)
            · subst hq
              refine g_tabIn (pc := 1) 92 91 dX5_kindOf_1 (by decide) ?_
              refine g_iconst (pc := 92) 2 dX5_kindOf_92 (by decide) ?_
              exact g_ireturn (pc := 93) dX5_kindOf_93 rfl
            ·
              refine g_tabD (pc := 1) 100 dX5_kindOf_1 [101, 102, 106, 108, 115, 118] (by decide) ⟨hs2, hs3, hs4, hs5, hs6, hs7, trivial⟩ rfl ?_
              refine g_iconst (pc := 100) (-1) dX5_kindOf_100 (by decide) ?_
              exact g_ireturn (pc := 101) dX5_kindOf_101 rfl)
-- StopsByLettersModel.readsName()Z
abbrev kX5_readsName : Cfg := (RX5, cX5_readsName, 1, (some .boolean), 1)
theorem dX5_readsName_0 : decode cX5_readsName 0 = .ok (.aload_n 0, 1) := by decide +kernel
theorem dX5_readsName_1 : decode cX5_readsName 1 = .ok (.getfield 34, 3) := by decide +kernel
theorem dX5_readsName_4 : decode cX5_readsName 4 = .ok (.aload_n 0, 1) := by decide +kernel
theorem dX5_readsName_5 : decode cX5_readsName 5 = .ok (.getfield 78, 3) := by decide +kernel
theorem dX5_readsName_8 : decode cX5_readsName 8 = .ok (.aload_n 0, 1) := by decide +kernel
theorem dX5_readsName_9 : decode cX5_readsName 9 = .ok (.getfield 71, 3) := by decide +kernel
theorem dX5_readsName_12 : decode cX5_readsName 12 = .ok (.iastore, 1) := by decide +kernel
theorem dX5_readsName_13 : decode cX5_readsName 13 = .ok (.aload_n 0, 1) := by decide +kernel
theorem dX5_readsName_14 : decode cX5_readsName 14 = .ok (.getfield 71, 3) := by decide +kernel
theorem dX5_readsName_17 : decode cX5_readsName 17 = .ok (.aload_n 0, 1) := by decide +kernel
theorem dX5_readsName_18 : decode cX5_readsName 18 = .ok (.getfield 34, 3) := by decide +kernel
theorem dX5_readsName_21 : decode cX5_readsName 21 = .ok (.aload_n 0, 1) := by decide +kernel
theorem dX5_readsName_22 : decode cX5_readsName 22 = .ok (.getfield 78, 3) := by decide +kernel
theorem dX5_readsName_25 : decode cX5_readsName 25 = .ok (.iaload, 1) := by decide +kernel
theorem dX5_readsName_26 : decode cX5_readsName 26 = .ok (.isub, 1) := by decide +kernel
theorem dX5_readsName_27 : decode cX5_readsName 27 = .ok (.bipush 9, 2) := by decide +kernel
theorem dX5_readsName_29 : decode cX5_readsName 29 = .ok (.if_icmp .ge 30, 3) := by decide +kernel
theorem dX5_readsName_32 : decode cX5_readsName 32 = .ok (.aload_n 0, 1) := by decide +kernel
theorem dX5_readsName_33 : decode cX5_readsName 33 = .ok (.invokevirtual 74, 3) := by decide +kernel
theorem dX5_readsName_36 : decode cX5_readsName 36 = .ok (.bipush 97, 2) := by decide +kernel
theorem dX5_readsName_38 : decode cX5_readsName 38 = .ok (.bipush 122, 2) := by decide +kernel
theorem dX5_readsName_40 : decode cX5_readsName 40 = .ok (.invokestatic 81, 3) := by decide +kernel
theorem dX5_readsName_43 : decode cX5_readsName 43 = .ok (.ifCond .eq 16, 3) := by decide +kernel
theorem dX5_readsName_46 : decode cX5_readsName 46 = .ok (.aload_n 0, 1) := by decide +kernel
theorem dX5_readsName_47 : decode cX5_readsName 47 = .ok (.dup, 1) := by decide +kernel
theorem dX5_readsName_48 : decode cX5_readsName 48 = .ok (.getfield 71, 3) := by decide +kernel
theorem dX5_readsName_51 : decode cX5_readsName 51 = .ok (.iconst 1, 1) := by decide +kernel
theorem dX5_readsName_52 : decode cX5_readsName 52 = .ok (.iadd, 1) := by decide +kernel
theorem dX5_readsName_53 : decode cX5_readsName 53 = .ok (.putfield 71, 3) := by decide +kernel
theorem dX5_readsName_56 : decode cX5_readsName 56 = .ok (.goto (-43), 3) := by decide +kernel
theorem dX5_readsName_59 : decode cX5_readsName 59 = .ok (.aload_n 0, 1) := by decide +kernel
theorem dX5_readsName_60 : decode cX5_readsName 60 = .ok (.getfield 37, 3) := by decide +kernel
theorem dX5_readsName_63 : decode cX5_readsName 63 = .ok (.aload_n 0, 1) := by decide +kernel
theorem dX5_readsName_64 : decode cX5_readsName 64 = .ok (.getfield 78, 3) := by decide +kernel
theorem dX5_readsName_67 : decode cX5_readsName 67 = .ok (.aload_n 0, 1) := by decide +kernel
theorem dX5_readsName_68 : decode cX5_readsName 68 = .ok (.getfield 71, 3) := by decide +kernel
theorem dX5_readsName_71 : decode cX5_readsName 71 = .ok (.iastore, 1) := by decide +kernel
theorem dX5_readsName_72 : decode cX5_readsName 72 = .ok (.aload_n 0, 1) := by decide +kernel
theorem dX5_readsName_73 : decode cX5_readsName 73 = .ok (.getfield 71, 3) := by decide +kernel
theorem dX5_readsName_76 : decode cX5_readsName 76 = .ok (.aload_n 0, 1) := by decide +kernel
theorem dX5_readsName_77 : decode cX5_readsName 77 = .ok (.getfield 34, 3) := by decide +kernel
theorem dX5_readsName_80 : decode cX5_readsName 80 = .ok (.aload_n 0, 1) := by decide +kernel
theorem dX5_readsName_81 : decode cX5_readsName 81 = .ok (.getfield 78, 3) := by decide +kernel
theorem dX5_readsName_84 : decode cX5_readsName 84 = .ok (.iaload, 1) := by decide +kernel
theorem dX5_readsName_85 : decode cX5_readsName 85 = .ok (.if_icmp .le 7, 3) := by decide +kernel
theorem dX5_readsName_88 : decode cX5_readsName 88 = .ok (.iconst 1, 1) := by decide +kernel
theorem dX5_readsName_89 : decode cX5_readsName 89 = .ok (.goto 4, 3) := by decide +kernel
theorem dX5_readsName_92 : decode cX5_readsName 92 = .ok (.iconst 0, 1) := by decide +kernel
theorem dX5_readsName_93 : decode cX5_readsName 93 = .ok (.ireturn, 1) := by decide +kernel
theorem foX5_34 : Fo 5 RX5 TX5 23 10 RX5 34 := ⟨rfl, by decide, rfl, uwX5, rfl, Or.inl (tb_in 706 (by decide +kernel) rfl)⟩
theorem foX5_78 : Fo 5 RX5 TX5 23 14 RX5 78 := ⟨rfl, by decide, rfl, uwX5, rfl, Or.inl (tb_in 710 (by decide +kernel) rfl)⟩
theorem lnX5_81 : Ln RX5 81 yX5_isIn := Or.inl (tb_in 792 (by decide +kernel) rfl)
theorem moX5_isIn : Ms yX5_isIn kX5_isIn 3 := ⟨⟨tb_in 794 (by decide +kernel) rfl, tb_in 92 (by decide +kernel) rfl, ⟨by decide, by decide⟩, by decide +kernel⟩, tb_in 793 (by decide +kernel) rfl⟩
def fX5_readsName_L13 (n : Nat) (K1 : Mem → Option (Int32 × Mem)) : Nat → Mem → Option (Int32 × Mem)
  | 0, _ => none
  | F + 1, μ => gd (inb (μ.1 47 14) 50) (if 9 ≤ ((μ.1 47 13) - (μ.1 56 (Int32.toNatClampNeg (μ.1 47 14)))) then K1 μ else bd (fX5_next n μ) (fun r3 m2 => bd (fX5_isIn n r3 97 122 m2) (fun r5 m4 => if r5 = 0 then K1 m4 else bnd (setI m4 47 13 ((m4.1 47 13) + 1)) (fun m6 => fX5_readsName_L13 n K1 F m6))))
theorem foX5_37 : Fo 5 RX5 TX5 23 11 RX5 37 := ⟨rfl, by decide, rfl, uwX5, rfl, Or.inl (tb_in 707 (by decide +kernel) rfl)⟩
def fX5_readsName (n : Nat) (μ : Mem) : Option (Int32 × Mem) :=
  gd (inb (μ.1 47 14) 50) (bnd (setI μ 56 (Int32.toNatClampNeg (μ.1 47 14)) (μ.1 47 13)) (fun m1 => fX5_readsName_L13 n (fun (m7 : Mem) => gd (inb (m7.1 47 14) 50) (bnd (setI m7 57 (Int32.toNatClampNeg (m7.1 47 14)) (m7.1 47 13)) (fun m8 => gd (inb (m8.1 47 14) 50) (if (m8.1 47 13) ≤ (m8.1 56 (Int32.toNatClampNeg (m8.1 47 14))) then some (0, m8) else some (1, m8))))) n m1))
set_option maxHeartbeats 4000000 in
set_option maxRecDepth 100000 in
theorem wX5_readsName_L13 (ad : Nat → Nat) (n : Nat) (K1 : Mem → Option (Int32 × Mem)) (hK1 : ∀ (μ : Mem), G kX5_readsName ad encI 59 [(0, .ref (ad 47))] [] μ (K1 μ)) : ∀ (F : Nat) (μ : Mem), G kX5_readsName ad encI 13 [(0, .ref (ad 47))] [] μ (fX5_readsName_L13 n K1 F μ) := by
  intro F
  induction F with
  | zero =>
    intro μ
    exact g_none
  | succ F ih =>
    intro μ
    rw [fX5_readsName_L13]
    refine g_aload_n (pc := 13) 0 dX5_readsName_13 rfl rfl ?_
    refine g_get (pc := 14) rfl foX5_71 (v := .int (μ.1 47 13)) rfl dX5_readsName_14 ?_
    refine g_aload_n (pc := 17) 0 dX5_readsName_17 rfl rfl ?_
    refine g_get (pc := 18) rfl foX5_34 (v := .ref (ad 56)) rfl dX5_readsName_18 ?_
    refine g_aload_n (pc := 21) 0 dX5_readsName_21 rfl rfl ?_
    refine g_get (pc := 22) rfl foX5_78 (v := .int (μ.1 47 14)) rfl dX5_readsName_22 ?_
    refine g_iald (pc := 25) rfl (by decide) dX5_readsName_25 ?_
    refine g_isub (pc := 26) dX5_readsName_26 ?_
    refine g_bipush (pc := 27) 9 dX5_readsName_27 (by decide) ?_
    refine g_icmp_ge (pc := 29) 59 dX5_readsName_29 rfl ?_ ?_
    · exact g_sub [0] rfl (hK1 μ)
    · refine g_aload_n (pc := 32) 0 dX5_readsName_32 rfl rfl ?_
      refine g_cVI (pc := 33) (st := []) [] rfl rfl moX5_next lnX5_74 (ctX5_next ad n μ) rfl ⟨Nat.le_of_ble_eq_true rfl, Nat.le_of_ble_eq_true rfl⟩ rfl (Nat.le_of_ble_eq_true rfl) dX5_readsName_33 (fun r3 m2 => ?_)
      refine g_bipush (pc := 36) 97 dX5_readsName_36 (by decide) ?_
      refine g_bipush (pc := 38) 122 dX5_readsName_38 (by decide) ?_
      refine g_cSI (pc := 40) (st := []) [.int r3, .int 97, .int 122] moX5_isIn lnX5_81 (ctX5_isIn ad n r3 97 122 m2) rfl ⟨Nat.le_of_ble_eq_true rfl, Nat.le_of_ble_eq_true rfl⟩ rfl (Nat.le_of_ble_eq_true rfl) dX5_readsName_40 (fun r5 m4 => ?_)
      refine g_if_eq (pc := 43) 59 dX5_readsName_43 rfl ?_ ?_
      · exact g_sub [0] rfl (hK1 m4)
      · refine g_aload_n (pc := 46) 0 dX5_readsName_46 rfl rfl ?_
        refine g_dup (pc := 47) dX5_readsName_47 rfl ?_
        refine g_get (pc := 48) rfl foX5_71 (v := .int (m4.1 47 13)) rfl dX5_readsName_48 ?_
        refine g_iconst (pc := 51) 1 dX5_readsName_51 (by decide) ?_
        refine g_iadd (pc := 52) dX5_readsName_52 ?_
        refine g_put (pc := 53) rfl foX5_71 fpX5_13 rfl rfl dX5_readsName_53 (fun m6 => ?_)
        refine g_goto (pc := 56) 13 dX5_readsName_56 rfl ?_
        exact g_sub [0] rfl (ih m6)
set_option maxHeartbeats 4000000 in
set_option maxRecDepth 100000 in
theorem ctX5_readsName (ad : Nat → Nat) (n : Nat) (μ : Mem) : Ct yX5_readsName kX5_readsName ad encI [.ref (ad 47)] μ (fX5_readsName n μ) := Ct.of (by decide +kernel) rfl (Nat.le_of_ble_eq_true rfl) (by
  show G kX5_readsName ad encI 0 [(0, .ref (ad 47))] [] μ (fX5_readsName n μ)
  unfold fX5_readsName
  refine g_aload_n (pc := 0) 0 dX5_readsName_0 rfl rfl ?_
  refine g_get (pc := 1) rfl foX5_34 (v := .ref (ad 56)) rfl dX5_readsName_1 ?_
  refine g_aload_n (pc := 4) 0 dX5_readsName_4 rfl rfl ?_
  refine g_get (pc := 5) rfl foX5_78 (v := .int (μ.1 47 14)) rfl dX5_readsName_5 ?_
  refine g_aload_n (pc := 8) 0 dX5_readsName_8 rfl rfl ?_
  refine g_get (pc := 9) rfl foX5_71 (v := .int (μ.1 47 13)) rfl dX5_readsName_9 ?_
  refine g_iast (pc := 12) rfl (by decide) dX5_readsName_12 (fun m1 => ?_)
  refine g_sub [0] rfl (wX5_readsName_L13 ad n _ (fun m7 => ?_) n m1)
  refine g_aload_n (pc := 59) 0 dX5_readsName_59 rfl rfl ?_
  refine g_get (pc := 60) rfl foX5_37 (v := .ref (ad 57)) rfl dX5_readsName_60 ?_
  refine g_aload_n (pc := 63) 0 dX5_readsName_63 rfl rfl ?_
  refine g_get (pc := 64) rfl foX5_78 (v := .int (m7.1 47 14)) rfl dX5_readsName_64 ?_
  refine g_aload_n (pc := 67) 0 dX5_readsName_67 rfl rfl ?_
  refine g_get (pc := 68) rfl foX5_71 (v := .int (m7.1 47 13)) rfl dX5_readsName_68 ?_
  refine g_iast (pc := 71) rfl (by decide) dX5_readsName_71 (fun m8 => ?_)
  refine g_aload_n (pc := 72) 0 dX5_readsName_72 rfl rfl ?_
  refine g_get (pc := 73) rfl foX5_71 (v := .int (m8.1 47 13)) rfl dX5_readsName_73 ?_
  refine g_aload_n (pc := 76) 0 dX5_readsName_76 rfl rfl ?_
  refine g_get (pc := 77) rfl foX5_34 (v := .ref (ad 56)) rfl dX5_readsName_77 ?_
  refine g_aload_n (pc := 80) 0 dX5_readsName_80 rfl rfl ?_
  refine g_get (pc := 81) rfl foX5_78 (v := .int (m8.1 47 14)) rfl dX5_readsName_81 ?_
  refine g_iald (pc := 84) rfl (by decide) dX5_readsName_84 ?_
  refine g_icmp_le (pc := 85) 92 dX5_readsName_85 rfl ?_ ?_
  · refine g_iconst (pc := 92) 0 dX5_readsName_92 (by decide) ?_
    exact g_zreturn (pc := 93) (by decide) dX5_readsName_93 rfl
  · refine g_iconst (pc := 88) 1 dX5_readsName_88 (by decide) ?_
    refine g_goto (pc := 89) 93 dX5_readsName_89 rfl ?_
    exact g_zreturn (pc := 93) (by decide) dX5_readsName_93 rfl)
-- StopsByLettersModel.statement()Z
abbrev kX5_statement : Cfg := (RX5, cX5_statement, 2, (some .boolean), 2)
theorem dX5_statement_0 : decode cX5_statement 0 = .ok (.aload_n 0, 1) := by decide +kernel
theorem dX5_statement_1 : decode cX5_statement 1 = .ok (.invokevirtual 74, 3) := by decide +kernel
theorem dX5_statement_4 : decode cX5_statement 4 = .ok (.istore_n 1, 1) := by decide +kernel
theorem dX5_statement_5 : decode cX5_statement 5 = .ok (.iload_n 1, 1) := by decide +kernel
theorem dX5_statement_6 : decode cX5_statement 6 = .ok (.bipush 115, 2) := by decide +kernel
theorem dX5_statement_8 : decode cX5_statement 8 = .ok (.if_icmp .eq 23, 3) := by decide +kernel
theorem dX5_statement_11 : decode cX5_statement 11 = .ok (.iload_n 1, 1) := by decide +kernel
theorem dX5_statement_12 : decode cX5_statement 12 = .ok (.bipush 110, 2) := by decide +kernel
theorem dX5_statement_14 : decode cX5_statement 14 = .ok (.if_icmp .eq 17, 3) := by decide +kernel
theorem dX5_statement_17 : decode cX5_statement 17 = .ok (.iload_n 1, 1) := by decide +kernel
theorem dX5_statement_18 : decode cX5_statement 18 = .ok (.bipush 114, 2) := by decide +kernel
theorem dX5_statement_20 : decode cX5_statement 20 = .ok (.if_icmp .eq 11, 3) := by decide +kernel
theorem dX5_statement_23 : decode cX5_statement 23 = .ok (.iload_n 1, 1) := by decide +kernel
theorem dX5_statement_24 : decode cX5_statement 24 = .ok (.bipush 111, 2) := by decide +kernel
theorem dX5_statement_26 : decode cX5_statement 26 = .ok (.if_icmp .eq 5, 3) := by decide +kernel
theorem dX5_statement_29 : decode cX5_statement 29 = .ok (.iconst 0, 1) := by decide +kernel
theorem dX5_statement_30 : decode cX5_statement 30 = .ok (.ireturn, 1) := by decide +kernel
theorem dX5_statement_31 : decode cX5_statement 31 = .ok (.aload_n 0, 1) := by decide +kernel
theorem dX5_statement_32 : decode cX5_statement 32 = .ok (.getfield 25, 3) := by decide +kernel
theorem dX5_statement_35 : decode cX5_statement 35 = .ok (.aload_n 0, 1) := by decide +kernel
theorem dX5_statement_36 : decode cX5_statement 36 = .ok (.getfield 78, 3) := by decide +kernel
theorem dX5_statement_39 : decode cX5_statement 39 = .ok (.iload_n 1, 1) := by decide +kernel
theorem dX5_statement_40 : decode cX5_statement 40 = .ok (.iastore, 1) := by decide +kernel
theorem dX5_statement_41 : decode cX5_statement 41 = .ok (.aload_n 0, 1) := by decide +kernel
theorem dX5_statement_42 : decode cX5_statement 42 = .ok (.getfield 28, 3) := by decide +kernel
theorem dX5_statement_45 : decode cX5_statement 45 = .ok (.aload_n 0, 1) := by decide +kernel
theorem dX5_statement_46 : decode cX5_statement 46 = .ok (.getfield 78, 3) := by decide +kernel
theorem dX5_statement_49 : decode cX5_statement 49 = .ok (.aload_n 0, 1) := by decide +kernel
theorem dX5_statement_50 : decode cX5_statement 50 = .ok (.getfield 71, 3) := by decide +kernel
theorem dX5_statement_53 : decode cX5_statement 53 = .ok (.iastore, 1) := by decide +kernel
theorem dX5_statement_54 : decode cX5_statement 54 = .ok (.aload_n 0, 1) := by decide +kernel
theorem dX5_statement_55 : decode cX5_statement 55 = .ok (.dup, 1) := by decide +kernel
theorem dX5_statement_56 : decode cX5_statement 56 = .ok (.getfield 71, 3) := by decide +kernel
theorem dX5_statement_59 : decode cX5_statement 59 = .ok (.iconst 1, 1) := by decide +kernel
theorem dX5_statement_60 : decode cX5_statement 60 = .ok (.iadd, 1) := by decide +kernel
theorem dX5_statement_61 : decode cX5_statement 61 = .ok (.putfield 71, 3) := by decide +kernel
theorem dX5_statement_64 : decode cX5_statement 64 = .ok (.iload_n 1, 1) := by decide +kernel
theorem dX5_statement_65 : decode cX5_statement 65 = .ok (.bipush 115, 2) := by decide +kernel
theorem dX5_statement_67 : decode cX5_statement 67 = .ok (.if_icmp .eq 9, 3) := by decide +kernel
theorem dX5_statement_70 : decode cX5_statement 70 = .ok (.iload_n 1, 1) := by decide +kernel
theorem dX5_statement_71 : decode cX5_statement 71 = .ok (.bipush 110, 2) := by decide +kernel
theorem dX5_statement_73 : decode cX5_statement 73 = .ok (.if_icmp .ne 95, 3) := by decide +kernel
theorem dX5_statement_76 : decode cX5_statement 76 = .ok (.aload_n 0, 1) := by decide +kernel
theorem dX5_statement_77 : decode cX5_statement 77 = .ok (.getfield 31, 3) := by decide +kernel
theorem dX5_statement_80 : decode cX5_statement 80 = .ok (.aload_n 0, 1) := by decide +kernel
theorem dX5_statement_81 : decode cX5_statement 81 = .ok (.getfield 78, 3) := by decide +kernel
theorem dX5_statement_84 : decode cX5_statement 84 = .ok (.iload_n 1, 1) := by decide +kernel
theorem dX5_statement_85 : decode cX5_statement 85 = .ok (.bipush 115, 2) := by decide +kernel
theorem dX5_statement_87 : decode cX5_statement 87 = .ok (.if_icmp .ne 13, 3) := by decide +kernel
theorem dX5_statement_90 : decode cX5_statement 90 = .ok (.aload_n 0, 1) := by decide +kernel
theorem dX5_statement_91 : decode cX5_statement 91 = .ok (.invokevirtual 74, 3) := by decide +kernel
theorem dX5_statement_94 : decode cX5_statement 94 = .ok (.invokestatic 85, 3) := by decide +kernel
theorem dX5_statement_97 : decode cX5_statement 97 = .ok (.goto 28, 3) := by decide +kernel
theorem dX5_statement_100 : decode cX5_statement 100 = .ok (.aload_n 0, 1) := by decide +kernel
theorem dX5_statement_101 : decode cX5_statement 101 = .ok (.invokevirtual 74, 3) := by decide +kernel
theorem dX5_statement_104 : decode cX5_statement 104 = .ok (.bipush 48, 2) := by decide +kernel
theorem dX5_statement_106 : decode cX5_statement 106 = .ok (.bipush 57, 2) := by decide +kernel
theorem dX5_statement_108 : decode cX5_statement 108 = .ok (.invokestatic 81, 3) := by decide +kernel
theorem dX5_statement_111 : decode cX5_statement 111 = .ok (.ifCond .eq 13, 3) := by decide +kernel
theorem dX5_statement_114 : decode cX5_statement 114 = .ok (.aload_n 0, 1) := by decide +kernel
theorem dX5_statement_115 : decode cX5_statement 115 = .ok (.invokevirtual 74, 3) := by decide +kernel
theorem dX5_statement_118 : decode cX5_statement 118 = .ok (.bipush 48, 2) := by decide +kernel
theorem dX5_statement_120 : decode cX5_statement 120 = .ok (.isub, 1) := by decide +kernel
theorem dX5_statement_121 : decode cX5_statement 121 = .ok (.goto 4, 3) := by decide +kernel
theorem dX5_statement_124 : decode cX5_statement 124 = .ok (.iconst (-1), 1) := by decide +kernel
theorem dX5_statement_125 : decode cX5_statement 125 = .ok (.iastore, 1) := by decide +kernel
theorem dX5_statement_126 : decode cX5_statement 126 = .ok (.aload_n 0, 1) := by decide +kernel
theorem dX5_statement_127 : decode cX5_statement 127 = .ok (.getfield 31, 3) := by decide +kernel
theorem dX5_statement_130 : decode cX5_statement 130 = .ok (.aload_n 0, 1) := by decide +kernel
theorem dX5_statement_131 : decode cX5_statement 131 = .ok (.getfield 78, 3) := by decide +kernel
theorem dX5_statement_134 : decode cX5_statement 134 = .ok (.iaload, 1) := by decide +kernel
theorem dX5_statement_135 : decode cX5_statement 135 = .ok (.ifCond .ge 5, 3) := by decide +kernel
theorem dX5_statement_138 : decode cX5_statement 138 = .ok (.iconst 0, 1) := by decide +kernel
theorem dX5_statement_139 : decode cX5_statement 139 = .ok (.ireturn, 1) := by decide +kernel
theorem dX5_statement_140 : decode cX5_statement 140 = .ok (.aload_n 0, 1) := by decide +kernel
theorem dX5_statement_141 : decode cX5_statement 141 = .ok (.dup, 1) := by decide +kernel
theorem dX5_statement_142 : decode cX5_statement 142 = .ok (.getfield 71, 3) := by decide +kernel
theorem dX5_statement_145 : decode cX5_statement 145 = .ok (.iconst 1, 1) := by decide +kernel
theorem dX5_statement_146 : decode cX5_statement 146 = .ok (.iadd, 1) := by decide +kernel
theorem dX5_statement_147 : decode cX5_statement 147 = .ok (.putfield 71, 3) := by decide +kernel
theorem dX5_statement_150 : decode cX5_statement 150 = .ok (.aload_n 0, 1) := by decide +kernel
theorem dX5_statement_151 : decode cX5_statement 151 = .ok (.bipush 61, 2) := by decide +kernel
theorem dX5_statement_153 : decode cX5_statement 153 = .ok (.invokevirtual 88, 3) := by decide +kernel
theorem dX5_statement_156 : decode cX5_statement 156 = .ok (.ifCond .eq 10, 3) := by decide +kernel
theorem dX5_statement_159 : decode cX5_statement 159 = .ok (.aload_n 0, 1) := by decide +kernel
theorem dX5_statement_160 : decode cX5_statement 160 = .ok (.invokevirtual 92, 3) := by decide +kernel
theorem dX5_statement_163 : decode cX5_statement 163 = .ok (.ifCond .ne 5, 3) := by decide +kernel
theorem dX5_statement_166 : decode cX5_statement 166 = .ok (.iconst 0, 1) := by decide +kernel
theorem dX5_statement_167 : decode cX5_statement 167 = .ok (.ireturn, 1) := by decide +kernel
theorem dX5_statement_168 : decode cX5_statement 168 = .ok (.aload_n 0, 1) := by decide +kernel
theorem dX5_statement_169 : decode cX5_statement 169 = .ok (.bipush 59, 2) := by decide +kernel
theorem dX5_statement_171 : decode cX5_statement 171 = .ok (.invokevirtual 88, 3) := by decide +kernel
theorem dX5_statement_174 : decode cX5_statement 174 = .ok (.ireturn, 1) := by decide +kernel
theorem foX5_25 : Fo 5 RX5 TX5 23 7 RX5 25 := ⟨rfl, by decide, rfl, uwX5, rfl, Or.inl (tb_in 703 (by decide +kernel) rfl)⟩
theorem foX5_28 : Fo 5 RX5 TX5 23 8 RX5 28 := ⟨rfl, by decide, rfl, uwX5, rfl, Or.inl (tb_in 704 (by decide +kernel) rfl)⟩
theorem foX5_31 : Fo 5 RX5 TX5 23 9 RX5 31 := ⟨rfl, by decide, rfl, uwX5, rfl, Or.inl (tb_in 705 (by decide +kernel) rfl)⟩
theorem lnX5_88 : Ln RX5 88 yX5_isNext := Or.inl (tb_in 795 (by decide +kernel) rfl)
theorem moX5_isNext : Mv yX5_isNext kX5_isNext 1 := ⟨⟨tb_in 798 (by decide +kernel) rfl, tb_in 92 (by decide +kernel) rfl, ⟨by decide, by decide⟩, by decide +kernel⟩, tb_in 797 (by decide +kernel) rfl, tb_in 59 (by decide +kernel) rfl⟩
theorem lnX5_92 : Ln RX5 92 yX5_readsName := Or.inl (tb_in 799 (by decide +kernel) rfl)
theorem moX5_readsName : Mv yX5_readsName kX5_readsName 0 := ⟨⟨tb_in 802 (by decide +kernel) rfl, tb_in 92 (by decide +kernel) rfl, ⟨by decide, by decide⟩, by decide +kernel⟩, tb_in 801 (by decide +kernel) rfl, tb_in 60 (by decide +kernel) rfl⟩
theorem lnX5_85 : Ln RX5 85 yX5_kindOf := Or.inl (tb_in 789 (by decide +kernel) rfl)
theorem moX5_kindOf : Ms yX5_kindOf kX5_kindOf 1 := ⟨⟨tb_in 791 (by decide +kernel) rfl, tb_in 92 (by decide +kernel) rfl, ⟨by decide, by decide⟩, by decide +kernel⟩, tb_in 790 (by decide +kernel) rfl⟩
def fX5_statement (n : Nat) (μ : Mem) : Option (Int32 × Mem) :=
  bd (fX5_next n μ) (fun r2 m1 => bnd (fun (m4 : Mem) => gd (inb (m4.1 47 14) 50) (bnd (setI m4 53 (Int32.toNatClampNeg (m4.1 47 14)) r2) (fun m5 => gd (inb (m5.1 47 14) 50) (bnd (setI m5 54 (Int32.toNatClampNeg (m5.1 47 14)) (m5.1 47 13)) (fun m6 => bnd (setI m6 47 13 ((m6.1 47 13) + 1)) (fun m7 => bnd (fun (m9 : Mem) => bnd (fun (x11 : Int32) (m12 : Mem) => gd (inb (m9.1 47 14) 50) (bnd (setI m12 55 (Int32.toNatClampNeg (m9.1 47 14)) x11) (fun m13 => gd (inb (m13.1 47 14) 50) (if 0 ≤ (m13.1 55 (Int32.toNatClampNeg (m13.1 47 14))) then bnd (setI m13 47 13 ((m13.1 47 13) + 1)) (fun m14 => bd (fX5_isNext n 61 m14) (fun r16 m15 => if r16 = 0 then some (0, m15) else bd (fX5_readsName n m15) (fun r18 m17 => if r18 = 0 then some (0, m17) else bd (fX5_isNext n 59 m17) (fun r20 m19 => gd (isB r20) (some (r20, m19)))))) else some (0, m13))))) (fun kb10 => if r2 = 115 then bd (fX5_next n m9) (fun r28 m27 => bd (fX5_kindOf n r28 m27) (fun r30 m29 => kb10 r30 m29)) else bd (fX5_next n m9) (fun r22 m21 => bd (fX5_isIn n r22 48 57 m21) (fun r24 m23 => if r24 = 0 then kb10 (-1) m23 else bd (fX5_next n m23) (fun r26 m25 => kb10 (r26 - 48) m25))))) (fun kb8 => if r2 = 115 then kb8 m7 else if r2 = 110 then kb8 m7 else bd (fX5_isNext n 59 m7) (fun r32 m31 => gd (isB r32) (some (r32, m31)))))))))) (fun kb3 => if r2 = 115 then kb3 m1 else if r2 = 110 then kb3 m1 else if r2 = 114 then kb3 m1 else if r2 = 111 then kb3 m1 else some (0, m1)))
set_option maxHeartbeats 4000000 in
set_option maxRecDepth 100000 in
theorem ctX5_statement (ad : Nat → Nat) (n : Nat) (μ : Mem) : Ct yX5_statement kX5_statement ad encI [.ref (ad 47)] μ (fX5_statement n μ) := Ct.of (by decide +kernel) rfl (Nat.le_of_ble_eq_true rfl) (by
  show G kX5_statement ad encI 0 [(0, .ref (ad 47))] [] μ (fX5_statement n μ)
  unfold fX5_statement
  refine g_aload_n (pc := 0) 0 dX5_statement_0 rfl rfl ?_
  refine g_cVI (pc := 1) (st := []) [] rfl rfl moX5_next lnX5_74 (ctX5_next ad n μ) rfl ⟨Nat.le_of_ble_eq_true rfl, Nat.le_of_ble_eq_true rfl⟩ rfl (Nat.le_of_ble_eq_true rfl) dX5_statement_1 (fun r2 m1 => ?_)
  refine g_istore_n (pc := 4) [(1, .int r2), (0, .ref (ad 47))] dX5_statement_4 rfl (by decide) rfl ?_
  refine g_iload_n (pc := 5) 0 dX5_statement_5 rfl rfl ?_
  refine g_bipush (pc := 6) 115 dX5_statement_6 (by decide) ?_
  refine g_join (fun kb => ∀ (m4 : Mem), G kX5_statement ad encI 31 [(0, .ref (ad 47)), (1, .int r2)] [] m4 (kb m4)) (fun m4 => ?_) (fun kb3 hkb3 => ?_)
  · refine g_aload_n (pc := 31) 0 dX5_statement_31 rfl rfl ?_
    refine g_get (pc := 32) rfl foX5_25 (v := .ref (ad 53)) rfl dX5_statement_32 ?_
    refine g_aload_n (pc := 35) 0 dX5_statement_35 rfl rfl ?_
    refine g_get (pc := 36) rfl foX5_78 (v := .int (m4.1 47 14)) rfl dX5_statement_36 ?_
    refine g_iload_n (pc := 39) 1 dX5_statement_39 rfl rfl ?_
    refine g_iast (pc := 40) rfl (by decide) dX5_statement_40 (fun m5 => ?_)
    refine g_aload_n (pc := 41) 0 dX5_statement_41 rfl rfl ?_
    refine g_get (pc := 42) rfl foX5_28 (v := .ref (ad 54)) rfl dX5_statement_42 ?_
    refine g_aload_n (pc := 45) 0 dX5_statement_45 rfl rfl ?_
    refine g_get (pc := 46) rfl foX5_78 (v := .int (m5.1 47 14)) rfl dX5_statement_46 ?_
    refine g_aload_n (pc := 49) 0 dX5_statement_49 rfl rfl ?_
    refine g_get (pc := 50) rfl foX5_71 (v := .int (m5.1 47 13)) rfl dX5_statement_50 ?_
    refine g_iast (pc := 53) rfl (by decide) dX5_statement_53 (fun m6 => ?_)
    refine g_aload_n (pc := 54) 0 dX5_statement_54 rfl rfl ?_
    refine g_dup (pc := 55) dX5_statement_55 rfl ?_
    refine g_get (pc := 56) rfl foX5_71 (v := .int (m6.1 47 13)) rfl dX5_statement_56 ?_
    refine g_iconst (pc := 59) 1 dX5_statement_59 (by decide) ?_
    refine g_iadd (pc := 60) dX5_statement_60 ?_
    refine g_put (pc := 61) rfl foX5_71 fpX5_13 rfl rfl dX5_statement_61 (fun m7 => ?_)
    refine g_iload_n (pc := 64) 1 dX5_statement_64 rfl rfl ?_
    refine g_bipush (pc := 65) 115 dX5_statement_65 (by decide) ?_
    refine g_join (fun kb => ∀ (m9 : Mem), G kX5_statement ad encI 76 [(0, .ref (ad 47)), (1, .int r2)] [] m9 (kb m9)) (fun m9 => ?_) (fun kb8 hkb8 => ?_)
    · refine g_aload_n (pc := 76) 0 dX5_statement_76 rfl rfl ?_
      refine g_get (pc := 77) rfl foX5_31 (v := .ref (ad 55)) rfl dX5_statement_77 ?_
      refine g_aload_n (pc := 80) 0 dX5_statement_80 rfl rfl ?_
      refine g_get (pc := 81) rfl foX5_78 (v := .int (m9.1 47 14)) rfl dX5_statement_81 ?_
      refine g_iload_n (pc := 84) 1 dX5_statement_84 rfl rfl ?_
      refine g_bipush (pc := 85) 115 dX5_statement_85 (by decide) ?_
      refine g_join (fun kb => ∀ (x11 : Int32) (m12 : Mem), G kX5_statement ad encI 125 [(0, .ref (ad 47))] [.int x11, .int (m9.1 47 14), .ref (ad 55)] m12 (kb x11 m12)) (fun x11 m12 => ?_) (fun kb10 hkb10 => ?_)
      · refine g_iast (pc := 125) rfl (by decide) dX5_statement_125 (fun m13 => ?_)
        refine g_aload_n (pc := 126) 0 dX5_statement_126 rfl rfl ?_
        refine g_get (pc := 127) rfl foX5_31 (v := .ref (ad 55)) rfl dX5_statement_127 ?_
        refine g_aload_n (pc := 130) 0 dX5_statement_130 rfl rfl ?_
        refine g_get (pc := 131) rfl foX5_78 (v := .int (m13.1 47 14)) rfl dX5_statement_131 ?_
        refine g_iald (pc := 134) rfl (by decide) dX5_statement_134 ?_
        refine g_if_ge (pc := 135) 140 dX5_statement_135 rfl ?_ ?_
        · refine g_aload_n (pc := 140) 0 dX5_statement_140 rfl rfl ?_
          refine g_dup (pc := 141) dX5_statement_141 rfl ?_
          refine g_get (pc := 142) rfl foX5_71 (v := .int (m13.1 47 13)) rfl dX5_statement_142 ?_
          refine g_iconst (pc := 145) 1 dX5_statement_145 (by decide) ?_
          refine g_iadd (pc := 146) dX5_statement_146 ?_
          refine g_put (pc := 147) rfl foX5_71 fpX5_13 rfl rfl dX5_statement_147 (fun m14 => ?_)
          refine g_aload_n (pc := 150) 0 dX5_statement_150 rfl rfl ?_
          refine g_bipush (pc := 151) 61 dX5_statement_151 (by decide) ?_
          refine g_cVI (pc := 153) (st := []) [.int 61] rfl rfl moX5_isNext lnX5_88 (ctX5_isNext ad n 61 m14) rfl ⟨Nat.le_of_ble_eq_true rfl, Nat.le_of_ble_eq_true rfl⟩ rfl (Nat.le_of_ble_eq_true rfl) dX5_statement_153 (fun r16 m15 => ?_)
          refine g_if_eq (pc := 156) 166 dX5_statement_156 rfl ?_ ?_
          · refine g_iconst (pc := 166) 0 dX5_statement_166 (by decide) ?_
            exact g_zreturn (pc := 167) (by decide) dX5_statement_167 rfl
          · refine g_aload_n (pc := 159) 0 dX5_statement_159 rfl rfl ?_
            refine g_cVI (pc := 160) (st := []) [] rfl rfl moX5_readsName lnX5_92 (ctX5_readsName ad n m15) rfl ⟨Nat.le_of_ble_eq_true rfl, Nat.le_of_ble_eq_true rfl⟩ rfl (Nat.le_of_ble_eq_true rfl) dX5_statement_160 (fun r18 m17 => ?_)
            refine g_if_ne (pc := 163) 168 dX5_statement_163 rfl ?_ ?_
            · refine g_aload_n (pc := 168) 0 dX5_statement_168 rfl rfl ?_
              refine g_bipush (pc := 169) 59 dX5_statement_169 (by decide) ?_
              refine g_cVI (pc := 171) (st := []) [.int 59] rfl rfl moX5_isNext lnX5_88 (ctX5_isNext ad n 59 m17) rfl ⟨Nat.le_of_ble_eq_true rfl, Nat.le_of_ble_eq_true rfl⟩ rfl (Nat.le_of_ble_eq_true rfl) dX5_statement_171 (fun r20 m19 => ?_)
              exact g_zreturnG (pc := 174) dX5_statement_174 rfl
            · refine g_iconst (pc := 166) 0 dX5_statement_166 (by decide) ?_
              exact g_zreturn (pc := 167) (by decide) dX5_statement_167 rfl
        · refine g_iconst (pc := 138) 0 dX5_statement_138 (by decide) ?_
          exact g_zreturn (pc := 139) (by decide) dX5_statement_139 rfl
      ·
        refine g_icmp_ne (pc := 87) 100 dX5_statement_87 rfl ?_ ?_
        · refine g_aload_n (pc := 100) 0 dX5_statement_100 rfl rfl ?_
          refine g_cVI (pc := 101) (st := [.int (m9.1 47 14), .ref (ad 55)]) [] rfl rfl moX5_next lnX5_74 (ctX5_next ad n m9) rfl ⟨Nat.le_of_ble_eq_true rfl, Nat.le_of_ble_eq_true rfl⟩ rfl (Nat.le_of_ble_eq_true rfl) dX5_statement_101 (fun r22 m21 => ?_)
          refine g_bipush (pc := 104) 48 dX5_statement_104 (by decide) ?_
          refine g_bipush (pc := 106) 57 dX5_statement_106 (by decide) ?_
          refine g_cSI (pc := 108) (st := [.int (m9.1 47 14), .ref (ad 55)]) [.int r22, .int 48, .int 57] moX5_isIn lnX5_81 (ctX5_isIn ad n r22 48 57 m21) rfl ⟨Nat.le_of_ble_eq_true rfl, Nat.le_of_ble_eq_true rfl⟩ rfl (Nat.le_of_ble_eq_true rfl) dX5_statement_108 (fun r24 m23 => ?_)
          refine g_if_eq (pc := 111) 124 dX5_statement_111 rfl ?_ ?_
          · refine g_iconst (pc := 124) (-1) dX5_statement_124 (by decide) ?_
            exact g_sub [0] rfl (hkb10 (-1) m23)
          · refine g_aload_n (pc := 114) 0 dX5_statement_114 rfl rfl ?_
            refine g_cVI (pc := 115) (st := [.int (m9.1 47 14), .ref (ad 55)]) [] rfl rfl moX5_next lnX5_74 (ctX5_next ad n m23) rfl ⟨Nat.le_of_ble_eq_true rfl, Nat.le_of_ble_eq_true rfl⟩ rfl (Nat.le_of_ble_eq_true rfl) dX5_statement_115 (fun r26 m25 => ?_)
            refine g_bipush (pc := 118) 48 dX5_statement_118 (by decide) ?_
            refine g_isub (pc := 120) dX5_statement_120 ?_
            refine g_goto (pc := 121) 125 dX5_statement_121 rfl ?_
            exact g_sub [0] rfl (hkb10 (r26 - 48) m25)
        · refine g_aload_n (pc := 90) 0 dX5_statement_90 rfl rfl ?_
          refine g_cVI (pc := 91) (st := [.int (m9.1 47 14), .ref (ad 55)]) [] rfl rfl moX5_next lnX5_74 (ctX5_next ad n m9) rfl ⟨Nat.le_of_ble_eq_true rfl, Nat.le_of_ble_eq_true rfl⟩ rfl (Nat.le_of_ble_eq_true rfl) dX5_statement_91 (fun r28 m27 => ?_)
          refine g_cSI (pc := 94) (st := [.int (m9.1 47 14), .ref (ad 55)]) [.int r28] moX5_kindOf lnX5_85 (ctX5_kindOf ad n r28 m27) rfl ⟨Nat.le_of_ble_eq_true rfl, Nat.le_of_ble_eq_true rfl⟩ rfl (Nat.le_of_ble_eq_true rfl) dX5_statement_94 (fun r30 m29 => ?_)
          refine g_goto (pc := 97) 125 dX5_statement_97 rfl ?_
          exact g_sub [0] rfl (hkb10 r30 m29)
    ·
      refine g_icmp_eq (pc := 67) 76 dX5_statement_67 rfl ?_ ?_
      · exact g_sub [0, 1] rfl (hkb8 m7)
      · refine g_iload_n (pc := 70) 1 dX5_statement_70 rfl rfl ?_
        refine g_bipush (pc := 71) 110 dX5_statement_71 (by decide) ?_
        refine g_icmp_ne (pc := 73) 168 dX5_statement_73 rfl ?_ ?_
        · refine g_aload_n (pc := 168) 0 dX5_statement_168 rfl rfl ?_
          refine g_bipush (pc := 169) 59 dX5_statement_169 (by decide) ?_
          refine g_cVI (pc := 171) (st := []) [.int 59] rfl rfl moX5_isNext lnX5_88 (ctX5_isNext ad n 59 m7) rfl ⟨Nat.le_of_ble_eq_true rfl, Nat.le_of_ble_eq_true rfl⟩ rfl (Nat.le_of_ble_eq_true rfl) dX5_statement_171 (fun r32 m31 => ?_)
          exact g_zreturnG (pc := 174) dX5_statement_174 rfl
        · exact g_sub [0, 1] rfl (hkb8 m7)
  ·
    refine g_icmp_eq (pc := 8) 31 dX5_statement_8 rfl ?_ ?_
    · exact g_sub [1, 0] rfl (hkb3 m1)
    · refine g_iload_n (pc := 11) 0 dX5_statement_11 rfl rfl ?_
      refine g_bipush (pc := 12) 110 dX5_statement_12 (by decide) ?_
      refine g_icmp_eq (pc := 14) 31 dX5_statement_14 rfl ?_ ?_
      · exact g_sub [1, 0] rfl (hkb3 m1)
      · refine g_iload_n (pc := 17) 0 dX5_statement_17 rfl rfl ?_
        refine g_bipush (pc := 18) 114 dX5_statement_18 (by decide) ?_
        refine g_icmp_eq (pc := 20) 31 dX5_statement_20 rfl ?_ ?_
        · exact g_sub [1, 0] rfl (hkb3 m1)
        · refine g_iload_n (pc := 23) 0 dX5_statement_23 rfl rfl ?_
          refine g_bipush (pc := 24) 111 dX5_statement_24 (by decide) ?_
          refine g_icmp_eq (pc := 26) 31 dX5_statement_26 rfl ?_ ?_
          · exact g_sub [1, 0] rfl (hkb3 m1)
          · refine g_iconst (pc := 29) 0 dX5_statement_29 (by decide) ?_
            exact g_zreturn (pc := 30) (by decide) dX5_statement_30 rfl)
-- StopsByLettersModel.spells(II)V
abbrev kX5_spells : Cfg := (RX5, cX5_spells, 4, none, 0)
theorem dX5_spells_0 : decode cX5_spells 0 = .ok (.aload_n 0, 1) := by decide +kernel
theorem dX5_spells_1 : decode cX5_spells 1 = .ok (.getfield 16, 3) := by decide +kernel
theorem dX5_spells_4 : decode cX5_spells 4 = .ok (.iload_n 1, 1) := by decide +kernel
theorem dX5_spells_5 : decode cX5_spells 5 = .ok (.aload_n 0, 1) := by decide +kernel
theorem dX5_spells_6 : decode cX5_spells 6 = .ok (.getfield 37, 3) := by decide +kernel
theorem dX5_spells_9 : decode cX5_spells 9 = .ok (.iload_n 2, 1) := by decide +kernel
theorem dX5_spells_10 : decode cX5_spells 10 = .ok (.iaload, 1) := by decide +kernel
theorem dX5_spells_11 : decode cX5_spells 11 = .ok (.aload_n 0, 1) := by decide +kernel
theorem dX5_spells_12 : decode cX5_spells 12 = .ok (.getfield 34, 3) := by decide +kernel
theorem dX5_spells_15 : decode cX5_spells 15 = .ok (.iload_n 2, 1) := by decide +kernel
theorem dX5_spells_16 : decode cX5_spells 16 = .ok (.iaload, 1) := by decide +kernel
theorem dX5_spells_17 : decode cX5_spells 17 = .ok (.isub, 1) := by decide +kernel
theorem dX5_spells_18 : decode cX5_spells 18 = .ok (.iastore, 1) := by decide +kernel
theorem dX5_spells_19 : decode cX5_spells 19 = .ok (.iconst 0, 1) := by decide +kernel
theorem dX5_spells_20 : decode cX5_spells 20 = .ok (.istore_n 3, 1) := by decide +kernel
theorem dX5_spells_21 : decode cX5_spells 21 = .ok (.iload_n 3, 1) := by decide +kernel
theorem dX5_spells_22 : decode cX5_spells 22 = .ok (.aload_n 0, 1) := by decide +kernel
theorem dX5_spells_23 : decode cX5_spells 23 = .ok (.getfield 16, 3) := by decide +kernel
theorem dX5_spells_26 : decode cX5_spells 26 = .ok (.iload_n 1, 1) := by decide +kernel
theorem dX5_spells_27 : decode cX5_spells 27 = .ok (.iaload, 1) := by decide +kernel
theorem dX5_spells_28 : decode cX5_spells 28 = .ok (.if_icmp .ge 36, 3) := by decide +kernel
theorem dX5_spells_31 : decode cX5_spells 31 = .ok (.aload_n 0, 1) := by decide +kernel
theorem dX5_spells_32 : decode cX5_spells 32 = .ok (.getfield 13, 3) := by decide +kernel
theorem dX5_spells_35 : decode cX5_spells 35 = .ok (.bipush 10, 2) := by decide +kernel
theorem dX5_spells_37 : decode cX5_spells 37 = .ok (.iload_n 1, 1) := by decide +kernel
theorem dX5_spells_38 : decode cX5_spells 38 = .ok (.imul, 1) := by decide +kernel
theorem dX5_spells_39 : decode cX5_spells 39 = .ok (.iload_n 3, 1) := by decide +kernel
theorem dX5_spells_40 : decode cX5_spells 40 = .ok (.iadd, 1) := by decide +kernel
theorem dX5_spells_41 : decode cX5_spells 41 = .ok (.aload_n 0, 1) := by decide +kernel
theorem dX5_spells_42 : decode cX5_spells 42 = .ok (.getfield 22, 3) := by decide +kernel
theorem dX5_spells_45 : decode cX5_spells 45 = .ok (.aload_n 0, 1) := by decide +kernel
theorem dX5_spells_46 : decode cX5_spells 46 = .ok (.getfield 34, 3) := by decide +kernel
theorem dX5_spells_49 : decode cX5_spells 49 = .ok (.iload_n 2, 1) := by decide +kernel
theorem dX5_spells_50 : decode cX5_spells 50 = .ok (.iaload, 1) := by decide +kernel
theorem dX5_spells_51 : decode cX5_spells 51 = .ok (.iload_n 3, 1) := by decide +kernel
theorem dX5_spells_52 : decode cX5_spells 52 = .ok (.iadd, 1) := by decide +kernel
theorem dX5_spells_53 : decode cX5_spells 53 = .ok (.iaload, 1) := by decide +kernel
theorem dX5_spells_54 : decode cX5_spells 54 = .ok (.bipush 97, 2) := by decide +kernel
theorem dX5_spells_56 : decode cX5_spells 56 = .ok (.isub, 1) := by decide +kernel
theorem dX5_spells_57 : decode cX5_spells 57 = .ok (.iastore, 1) := by decide +kernel
theorem dX5_spells_58 : decode cX5_spells 58 = .ok (.iinc 3 1, 3) := by decide +kernel
theorem dX5_spells_61 : decode cX5_spells 61 = .ok (.goto (-40), 3) := by decide +kernel
theorem dX5_spells_64 : decode cX5_spells 64 = .ok (.return_, 1) := by decide +kernel
theorem foX5_16 : Fo 5 RX5 TX5 23 2 RX5 16 := ⟨rfl, by decide, rfl, uwX5, rfl, Or.inl (tb_in 698 (by decide +kernel) rfl)⟩
theorem foX5_13 : Fo 5 RX5 TX5 23 1 RX5 13 := ⟨rfl, by decide, rfl, uwX5, rfl, Or.inl (tb_in 697 (by decide +kernel) rfl)⟩
def fX5_spells_L21 (n : Nat) (v1 : Int32) (v2 : Int32) : Nat → Int32 → Mem → Option (Unit × Mem)
  | 0, _, _ => none
  | F + 1, v3, μ => gd (inb v1 9) (if (μ.1 50 (Int32.toNatClampNeg v1)) ≤ v3 then some ((), μ) else gd (inb v2 50) (gd (inb ((μ.1 56 (Int32.toNatClampNeg v2)) + v3) 96) (gd (inb ((10 * v1) + v3) 90) (bnd (setI μ 49 (Int32.toNatClampNeg ((10 * v1) + v3)) ((μ.1 52 (Int32.toNatClampNeg ((μ.1 56 (Int32.toNatClampNeg v2)) + v3))) - 97)) (fun m2 => bnd (v3 + 1) (fun x3 => fX5_spells_L21 n v1 v2 F x3 m2))))))
def fX5_spells (n : Nat) (a1 : Int32) (a2 : Int32) (μ : Mem) : Option (Unit × Mem) :=
  gd (inb a2 50) (gd (inb a2 50) (gd (inb a1 9) (bnd (setI μ 50 (Int32.toNatClampNeg a1) ((μ.1 57 (Int32.toNatClampNeg a2)) - (μ.1 56 (Int32.toNatClampNeg a2)))) (fun m1 => fX5_spells_L21 n a1 a2 n 0 m1))))
set_option maxHeartbeats 4000000 in
set_option maxRecDepth 100000 in
theorem wX5_spells_L21 (ad : Nat → Nat) (n : Nat) (v1 : Int32) (v2 : Int32) : ∀ (F : Nat) (v3 : Int32) (μ : Mem), G kX5_spells ad encV 21 [(0, .ref (ad 47)), (1, .int v1), (2, .int v2), (3, .int v3)] [] μ (fX5_spells_L21 n v1 v2 F v3 μ) := by
  intro F
  induction F with
  | zero =>
    intro v3 μ
    exact g_none
  | succ F ih =>
    intro v3 μ
    rw [fX5_spells_L21]
    refine g_iload_n (pc := 21) 3 dX5_spells_21 rfl rfl ?_
    refine g_aload_n (pc := 22) 0 dX5_spells_22 rfl rfl ?_
    refine g_get (pc := 23) rfl foX5_16 (v := .ref (ad 50)) rfl dX5_spells_23 ?_
    refine g_iload_n (pc := 26) 1 dX5_spells_26 rfl rfl ?_
    refine g_iald (pc := 27) rfl (by decide) dX5_spells_27 ?_
    refine g_icmp_ge (pc := 28) 64 dX5_spells_28 rfl ?_ ?_
    · exact g_return (pc := 64) dX5_spells_64 rfl
    · refine g_aload_n (pc := 31) 0 dX5_spells_31 rfl rfl ?_
      refine g_get (pc := 32) rfl foX5_13 (v := .ref (ad 49)) rfl dX5_spells_32 ?_
      refine g_bipush (pc := 35) 10 dX5_spells_35 (by decide) ?_
      refine g_iload_n (pc := 37) 1 dX5_spells_37 rfl rfl ?_
      refine g_imul (pc := 38) dX5_spells_38 ?_
      refine g_iload_n (pc := 39) 3 dX5_spells_39 rfl rfl ?_
      refine g_iadd (pc := 40) dX5_spells_40 ?_
      refine g_aload_n (pc := 41) 0 dX5_spells_41 rfl rfl ?_
      refine g_get (pc := 42) rfl foX5_22 (v := .ref (ad 52)) rfl dX5_spells_42 ?_
      refine g_aload_n (pc := 45) 0 dX5_spells_45 rfl rfl ?_
      refine g_get (pc := 46) rfl foX5_34 (v := .ref (ad 56)) rfl dX5_spells_46 ?_
      refine g_iload_n (pc := 49) 2 dX5_spells_49 rfl rfl ?_
      refine g_iald (pc := 50) rfl (by decide) dX5_spells_50 ?_
      refine g_iload_n (pc := 51) 3 dX5_spells_51 rfl rfl ?_
      refine g_iadd (pc := 52) dX5_spells_52 ?_
      refine g_iald (pc := 53) rfl (by decide) dX5_spells_53 ?_
      refine g_bipush (pc := 54) 97 dX5_spells_54 (by decide) ?_
      refine g_isub (pc := 56) dX5_spells_56 ?_
      refine g_iast (pc := 57) rfl (by decide) dX5_spells_57 (fun m2 => ?_)
      refine g_iincB (pc := 58) 3 1 1 (fun x3 => [(3, .int x3), (0, .ref (ad 47)), (1, .int v1), (2, .int v2)]) dX5_spells_58 rfl (by decide) (by decide) (fun _ => rfl) (fun x3 => ?_)
      refine g_goto (pc := 61) 21 dX5_spells_61 rfl ?_
      exact g_sub [1, 2, 3, 0] rfl (ih x3 m2)
set_option maxHeartbeats 4000000 in
set_option maxRecDepth 100000 in
theorem ctX5_spells (ad : Nat → Nat) (n : Nat) (a1 : Int32) (a2 : Int32) (μ : Mem) : Ct yX5_spells kX5_spells ad encV [.ref (ad 47), .int a1, .int a2] μ (fX5_spells n a1 a2 μ) := Ct.of (by decide +kernel) rfl (Nat.le_of_ble_eq_true rfl) (by
  show G kX5_spells ad encV 0 [(0, .ref (ad 47)), (1, .int a1), (2, .int a2)] [] μ (fX5_spells n a1 a2 μ)
  unfold fX5_spells
  refine g_aload_n (pc := 0) 0 dX5_spells_0 rfl rfl ?_
  refine g_get (pc := 1) rfl foX5_16 (v := .ref (ad 50)) rfl dX5_spells_1 ?_
  refine g_iload_n (pc := 4) 1 dX5_spells_4 rfl rfl ?_
  refine g_aload_n (pc := 5) 0 dX5_spells_5 rfl rfl ?_
  refine g_get (pc := 6) rfl foX5_37 (v := .ref (ad 57)) rfl dX5_spells_6 ?_
  refine g_iload_n (pc := 9) 2 dX5_spells_9 rfl rfl ?_
  refine g_iald (pc := 10) rfl (by decide) dX5_spells_10 ?_
  refine g_aload_n (pc := 11) 0 dX5_spells_11 rfl rfl ?_
  refine g_get (pc := 12) rfl foX5_34 (v := .ref (ad 56)) rfl dX5_spells_12 ?_
  refine g_iload_n (pc := 15) 2 dX5_spells_15 rfl rfl ?_
  refine g_iald (pc := 16) rfl (by decide) dX5_spells_16 ?_
  refine g_isub (pc := 17) dX5_spells_17 ?_
  refine g_iast (pc := 18) rfl (by decide) dX5_spells_18 (fun m1 => ?_)
  refine g_iconst (pc := 19) 0 dX5_spells_19 (by decide) ?_
  refine g_istore_n (pc := 20) [(3, .int 0), (0, .ref (ad 47)), (1, .int a1), (2, .int a2)] dX5_spells_20 rfl (by decide) rfl ?_
  exact g_sub [1, 2, 3, 0] rfl (wX5_spells_L21 ad n a1 a2 n 0 m1))
-- StopsByLettersModel.comes(I)Z
abbrev kX5_comes : Cfg := (RX5, cX5_comes, 2, (some .boolean), 1)
theorem dX5_comes_0 : decode cX5_comes 0 = .ok (.aload_n 0, 1) := by decide +kernel
theorem dX5_comes_1 : decode cX5_comes 1 = .ok (.getfield 25, 3) := by decide +kernel
theorem dX5_comes_4 : decode cX5_comes 4 = .ok (.iload_n 1, 1) := by decide +kernel
theorem dX5_comes_5 : decode cX5_comes 5 = .ok (.iaload, 1) := by decide +kernel
theorem dX5_comes_6 : decode cX5_comes 6 = .ok (.lookupswitch 101 #[(110, 73), (115, 26)], 26) := by decide +kernel
theorem dX5_comes_32 : decode cX5_comes 32 = .ok (.aload_n 0, 1) := by decide +kernel
theorem dX5_comes_33 : decode cX5_comes 33 = .ok (.getfield 56, 3) := by decide +kernel
theorem dX5_comes_36 : decode cX5_comes 36 = .ok (.bipush 8, 2) := by decide +kernel
theorem dX5_comes_38 : decode cX5_comes 38 = .ok (.if_icmp .ne 5, 3) := by decide +kernel
theorem dX5_comes_41 : decode cX5_comes 41 = .ok (.iconst 0, 1) := by decide +kernel
theorem dX5_comes_42 : decode cX5_comes 42 = .ok (.ireturn, 1) := by decide +kernel
theorem dX5_comes_43 : decode cX5_comes 43 = .ok (.aload_n 0, 1) := by decide +kernel
theorem dX5_comes_44 : decode cX5_comes 44 = .ok (.getfield 19, 3) := by decide +kernel
theorem dX5_comes_47 : decode cX5_comes 47 = .ok (.aload_n 0, 1) := by decide +kernel
theorem dX5_comes_48 : decode cX5_comes 48 = .ok (.getfield 56, 3) := by decide +kernel
theorem dX5_comes_51 : decode cX5_comes 51 = .ok (.aload_n 0, 1) := by decide +kernel
theorem dX5_comes_52 : decode cX5_comes 52 = .ok (.getfield 31, 3) := by decide +kernel
theorem dX5_comes_55 : decode cX5_comes 55 = .ok (.iload_n 1, 1) := by decide +kernel
theorem dX5_comes_56 : decode cX5_comes 56 = .ok (.iaload, 1) := by decide +kernel
theorem dX5_comes_57 : decode cX5_comes 57 = .ok (.iastore, 1) := by decide +kernel
theorem dX5_comes_58 : decode cX5_comes 58 = .ok (.aload_n 0, 1) := by decide +kernel
theorem dX5_comes_59 : decode cX5_comes 59 = .ok (.aload_n 0, 1) := by decide +kernel
theorem dX5_comes_60 : decode cX5_comes 60 = .ok (.getfield 56, 3) := by decide +kernel
theorem dX5_comes_63 : decode cX5_comes 63 = .ok (.iload_n 1, 1) := by decide +kernel
theorem dX5_comes_64 : decode cX5_comes 64 = .ok (.invokevirtual 96, 3) := by decide +kernel
theorem dX5_comes_67 : decode cX5_comes 67 = .ok (.aload_n 0, 1) := by decide +kernel
theorem dX5_comes_68 : decode cX5_comes 68 = .ok (.dup, 1) := by decide +kernel
theorem dX5_comes_69 : decode cX5_comes 69 = .ok (.getfield 56, 3) := by decide +kernel
theorem dX5_comes_72 : decode cX5_comes 72 = .ok (.iconst 1, 1) := by decide +kernel
theorem dX5_comes_73 : decode cX5_comes 73 = .ok (.iadd, 1) := by decide +kernel
theorem dX5_comes_74 : decode cX5_comes 74 = .ok (.putfield 56, 3) := by decide +kernel
theorem dX5_comes_77 : decode cX5_comes 77 = .ok (.iconst 1, 1) := by decide +kernel
theorem dX5_comes_78 : decode cX5_comes 78 = .ok (.ireturn, 1) := by decide +kernel
theorem dX5_comes_79 : decode cX5_comes 79 = .ok (.aload_n 0, 1) := by decide +kernel
theorem dX5_comes_80 : decode cX5_comes 80 = .ok (.aload_n 0, 1) := by decide +kernel
theorem dX5_comes_81 : decode cX5_comes 81 = .ok (.getfield 31, 3) := by decide +kernel
theorem dX5_comes_84 : decode cX5_comes 84 = .ok (.iload_n 1, 1) := by decide +kernel
theorem dX5_comes_85 : decode cX5_comes 85 = .ok (.iaload, 1) := by decide +kernel
theorem dX5_comes_86 : decode cX5_comes 86 = .ok (.invokevirtual 100, 3) := by decide +kernel
theorem dX5_comes_89 : decode cX5_comes 89 = .ok (.ifCond .ne 5, 3) := by decide +kernel
theorem dX5_comes_92 : decode cX5_comes 92 = .ok (.iconst 0, 1) := by decide +kernel
theorem dX5_comes_93 : decode cX5_comes 93 = .ok (.ireturn, 1) := by decide +kernel
theorem dX5_comes_94 : decode cX5_comes 94 = .ok (.aload_n 0, 1) := by decide +kernel
theorem dX5_comes_95 : decode cX5_comes 95 = .ok (.aload_n 0, 1) := by decide +kernel
theorem dX5_comes_96 : decode cX5_comes 96 = .ok (.getfield 31, 3) := by decide +kernel
theorem dX5_comes_99 : decode cX5_comes 99 = .ok (.iload_n 1, 1) := by decide +kernel
theorem dX5_comes_100 : decode cX5_comes 100 = .ok (.iaload, 1) := by decide +kernel
theorem dX5_comes_101 : decode cX5_comes 101 = .ok (.iload_n 1, 1) := by decide +kernel
theorem dX5_comes_102 : decode cX5_comes 102 = .ok (.invokevirtual 96, 3) := by decide +kernel
theorem dX5_comes_105 : decode cX5_comes 105 = .ok (.iconst 1, 1) := by decide +kernel
theorem dX5_comes_106 : decode cX5_comes 106 = .ok (.ireturn, 1) := by decide +kernel
theorem dX5_comes_107 : decode cX5_comes 107 = .ok (.aload_n 0, 1) := by decide +kernel
theorem dX5_comes_108 : decode cX5_comes 108 = .ok (.aload_n 0, 1) := by decide +kernel
theorem dX5_comes_109 : decode cX5_comes 109 = .ok (.getfield 25, 3) := by decide +kernel
theorem dX5_comes_112 : decode cX5_comes 112 = .ok (.iload_n 1, 1) := by decide +kernel
theorem dX5_comes_113 : decode cX5_comes 113 = .ok (.iaload, 1) := by decide +kernel
theorem dX5_comes_114 : decode cX5_comes 114 = .ok (.bipush 114, 2) := by decide +kernel
theorem dX5_comes_116 : decode cX5_comes 116 = .ok (.if_icmp .ne 7, 3) := by decide +kernel
theorem dX5_comes_119 : decode cX5_comes 119 = .ok (.iconst 1, 1) := by decide +kernel
theorem dX5_comes_120 : decode cX5_comes 120 = .ok (.goto 4, 3) := by decide +kernel
theorem dX5_comes_123 : decode cX5_comes 123 = .ok (.iconst 0, 1) := by decide +kernel
theorem dX5_comes_124 : decode cX5_comes 124 = .ok (.putfield 103, 3) := by decide +kernel
theorem dX5_comes_127 : decode cX5_comes 127 = .ok (.iconst 1, 1) := by decide +kernel
theorem dX5_comes_128 : decode cX5_comes 128 = .ok (.ireturn, 1) := by decide +kernel
theorem lnX5_96 : Ln RX5 96 yX5_spells := Or.inl (tb_in 819 (by decide +kernel) rfl)
theorem moX5_spells : Mv yX5_spells kX5_spells 2 := ⟨⟨tb_in 822 (by decide +kernel) rfl, tb_in 92 (by decide +kernel) rfl, ⟨by decide, by decide⟩, by decide +kernel⟩, tb_in 821 (by decide +kernel) rfl, tb_in 65 (by decide +kernel) rfl⟩
theorem lnX5_100 : Ln RX5 100 yX5_isStation := Or.inl (tb_in 823 (by decide +kernel) rfl)
theorem moX5_isStation : Mv yX5_isStation kX5_isStation 1 := ⟨⟨tb_in 826 (by decide +kernel) rfl, tb_in 92 (by decide +kernel) rfl, ⟨by decide, by decide⟩, by decide +kernel⟩, tb_in 825 (by decide +kernel) rfl, tb_in 66 (by decide +kernel) rfl⟩
theorem foX5_19 : Fo 5 RX5 TX5 23 3 RX5 19 := ⟨rfl, by decide, rfl, uwX5, rfl, Or.inl (tb_in 699 (by decide +kernel) rfl)⟩
theorem fpX5_4 : Fp TX5 23 tyX5 4 := ⟨tyX5_ok, nmX5, rfl⟩
theorem foX5_103 : Fo 5 RX5 TX5 23 5 RX5 103 := ⟨rfl, by decide, rfl, uwX5, rfl, Or.inl (tb_in 701 (by decide +kernel) rfl)⟩
theorem fpX5_5 : Fp TX5 23 tyX5 5 := ⟨tyX5_ok, nmX5, rfl⟩
def fX5_comes (n : Nat) (a1 : Int32) (μ : Mem) : Option (Int32 × Mem) :=
  gd (inb a1 50) (bnd (μ.1 53 (Int32.toNatClampNeg a1)) (fun sx1 => if sx1 = 110 then gd (inb a1 50) (bd (fX5_isStation n (μ.1 55 (Int32.toNatClampNeg a1)) μ) (fun r3 m2 => if r3 = 0 then some (0, m2) else gd (inb a1 50) (bd (fX5_spells n (m2.1 55 (Int32.toNatClampNeg a1)) a1 m2) (fun r5 m4 => some (1, m4))))) else if sx1 = 115 then if (μ.1 47 4) = 8 then some (0, μ) else gd (inb a1 50) (gd (inb (μ.1 47 4) 9) (bnd (setI μ 51 (Int32.toNatClampNeg (μ.1 47 4)) (μ.1 55 (Int32.toNatClampNeg a1))) (fun m7 => bd (fX5_spells n (m7.1 47 4) a1 m7) (fun r9 m8 => bnd (setI m8 47 4 ((m8.1 47 4) + 1)) (fun m10 => some (1, m10)))))) else gd (inb a1 50) (if (μ.1 53 (Int32.toNatClampNeg a1)) = 114 then bnd (setI μ 47 5 1) (fun m13 => some (1, m13)) else bnd (setI μ 47 5 0) (fun m12 => some (1, m12)))))
set_option maxHeartbeats 4000000 in
set_option maxRecDepth 100000 in
theorem ctX5_comes (ad : Nat → Nat) (n : Nat) (a1 : Int32) (μ : Mem) : Ct yX5_comes kX5_comes ad encI [.ref (ad 47), .int a1] μ (fX5_comes n a1 μ) := Ct.of (by decide +kernel) rfl (Nat.le_of_ble_eq_true rfl) (by
  show G kX5_comes ad encI 0 [(0, .ref (ad 47)), (1, .int a1)] [] μ (fX5_comes n a1 μ)
  unfold fX5_comes
  refine g_aload_n (pc := 0) 0 dX5_comes_0 rfl rfl ?_
  refine g_get (pc := 1) rfl foX5_25 (v := .ref (ad 53)) rfl dX5_comes_1 ?_
  refine g_iload_n (pc := 4) 1 dX5_comes_4 rfl rfl ?_
  refine g_iald (pc := 5) rfl (by decide) dX5_comes_5 ?_
  refine g_swx (fun sx1 => ?_)
  refine g_ite (fun hq => ?_) (fun hs6 => ?_)
  · subst hq
    refine g_look (pc := 6) 79 73 dX5_comes_6 rfl (by decide) rfl ?_
    refine g_aload_n (pc := 79) 0 dX5_comes_79 rfl rfl ?_
    refine g_aload_n (pc := 80) 0 dX5_comes_80 rfl rfl ?_
    refine g_get (pc := 81) rfl foX5_31 (v := .ref (ad 55)) rfl dX5_comes_81 ?_
    refine g_iload_n (pc := 84) 1 dX5_comes_84 rfl rfl ?_
    refine g_iald (pc := 85) rfl (by decide) dX5_comes_85 ?_
    refine g_cVI (pc := 86) (st := []) [.int (μ.1 55 (Int32.toNatClampNeg a1))] rfl rfl moX5_isStation lnX5_100 (ctX5_isStation ad n (μ.1 55 (Int32.toNatClampNeg a1)) μ) rfl ⟨Nat.le_of_ble_eq_true rfl, Nat.le_of_ble_eq_true rfl⟩ rfl (Nat.le_of_ble_eq_true rfl) dX5_comes_86 (fun r3 m2 => ?_)
    refine g_if_ne (pc := 89) 94 dX5_comes_89 rfl ?_ ?_
    · refine g_aload_n (pc := 94) 0 dX5_comes_94 rfl rfl ?_
      refine g_aload_n (pc := 95) 0 dX5_comes_95 rfl rfl ?_
      refine g_get (pc := 96) rfl foX5_31 (v := .ref (ad 55)) rfl dX5_comes_96 ?_
      refine g_iload_n (pc := 99) 1 dX5_comes_99 rfl rfl ?_
      refine g_iald (pc := 100) rfl (by decide) dX5_comes_100 ?_
      refine g_iload_n (pc := 101) 1 dX5_comes_101 rfl rfl ?_
      refine g_cVV (pc := 102) (st := []) [.int (m2.1 55 (Int32.toNatClampNeg a1)), .int a1] rfl rfl moX5_spells lnX5_96 (ctX5_spells ad n (m2.1 55 (Int32.toNatClampNeg a1)) a1 m2) rfl ⟨Nat.le_of_ble_eq_true rfl, Nat.le_of_ble_eq_true rfl⟩ rfl (Nat.le_of_ble_eq_true rfl) dX5_comes_102 (fun r5 m4 => ?_)
      refine g_iconst (pc := 105) 1 dX5_comes_105 (by decide) ?_
      exact g_zreturn (pc := 106) (by decide) dX5_comes_106 rfl
    · refine g_iconst (pc := 92) 0 dX5_comes_92 (by decide) ?_
      exact g_zreturn (pc := 93) (by decide) dX5_comes_93 rfl
  ·
    refine g_ite (fun hq => ?_) (fun hs11 => ?_)
    · subst hq
      refine g_look (pc := 6) 32 26 dX5_comes_6 rfl (by decide) rfl ?_
      refine g_aload_n (pc := 32) 0 dX5_comes_32 rfl rfl ?_
      refine g_get (pc := 33) rfl foX5_56 (v := .int (μ.1 47 4)) rfl dX5_comes_33 ?_
      refine g_bipush (pc := 36) 8 dX5_comes_36 (by decide) ?_
      refine g_icmp_ne (pc := 38) 43 dX5_comes_38 rfl ?_ ?_
      · refine g_aload_n (pc := 43) 0 dX5_comes_43 rfl rfl ?_
        refine g_get (pc := 44) rfl foX5_19 (v := .ref (ad 51)) rfl dX5_comes_44 ?_
        refine g_aload_n (pc := 47) 0 dX5_comes_47 rfl rfl ?_
        refine g_get (pc := 48) rfl foX5_56 (v := .int (μ.1 47 4)) rfl dX5_comes_48 ?_
        refine g_aload_n (pc := 51) 0 dX5_comes_51 rfl rfl ?_
        refine g_get (pc := 52) rfl foX5_31 (v := .ref (ad 55)) rfl dX5_comes_52 ?_
        refine g_iload_n (pc := 55) 1 dX5_comes_55 rfl rfl ?_
        refine g_iald (pc := 56) rfl (by decide) dX5_comes_56 ?_
        refine g_iast (pc := 57) rfl (by decide) dX5_comes_57 (fun m7 => ?_)
        refine g_aload_n (pc := 58) 0 dX5_comes_58 rfl rfl ?_
        refine g_aload_n (pc := 59) 0 dX5_comes_59 rfl rfl ?_
        refine g_get (pc := 60) rfl foX5_56 (v := .int (m7.1 47 4)) rfl dX5_comes_60 ?_
        refine g_iload_n (pc := 63) 1 dX5_comes_63 rfl rfl ?_
        refine g_cVV (pc := 64) (st := []) [.int (m7.1 47 4), .int a1] rfl rfl moX5_spells lnX5_96 (ctX5_spells ad n (m7.1 47 4) a1 m7) rfl ⟨Nat.le_of_ble_eq_true rfl, Nat.le_of_ble_eq_true rfl⟩ rfl (Nat.le_of_ble_eq_true rfl) dX5_comes_64 (fun r9 m8 => ?_)
        refine g_aload_n (pc := 67) 0 dX5_comes_67 rfl rfl ?_
        refine g_dup (pc := 68) dX5_comes_68 rfl ?_
        refine g_get (pc := 69) rfl foX5_56 (v := .int (m8.1 47 4)) rfl dX5_comes_69 ?_
        refine g_iconst (pc := 72) 1 dX5_comes_72 (by decide) ?_
        refine g_iadd (pc := 73) dX5_comes_73 ?_
        refine g_put (pc := 74) rfl foX5_56 fpX5_4 rfl rfl dX5_comes_74 (fun m10 => ?_)
        refine g_iconst (pc := 77) 1 dX5_comes_77 (by decide) ?_
        exact g_zreturn (pc := 78) (by decide) dX5_comes_78 rfl
      · refine g_iconst (pc := 41) 0 dX5_comes_41 (by decide) ?_
        exact g_zreturn (pc := 42) (by decide) dX5_comes_42 rfl
    ·
      refine g_look (pc := 6) 107 101 dX5_comes_6 rfl (look_def2 (va := 110) (vb := 115) rfl rfl hs6 hs11) rfl ?_
      refine g_aload_n (pc := 107) 0 dX5_comes_107 rfl rfl ?_
      refine g_aload_n (pc := 108) 0 dX5_comes_108 rfl rfl ?_
      refine g_get (pc := 109) rfl foX5_25 (v := .ref (ad 53)) rfl dX5_comes_109 ?_
      refine g_iload_n (pc := 112) 1 dX5_comes_112 rfl rfl ?_
      refine g_iald (pc := 113) rfl (by decide) dX5_comes_113 ?_
      refine g_bipush (pc := 114) 114 dX5_comes_114 (by decide) ?_
      refine g_icmp_ne (pc := 116) 123 dX5_comes_116 rfl ?_ ?_
      · refine g_iconst (pc := 123) 0 dX5_comes_123 (by decide) ?_
        refine g_put (pc := 124) rfl foX5_103 fpX5_5 rfl rfl dX5_comes_124 (fun m12 => ?_)
        refine g_iconst (pc := 127) 1 dX5_comes_127 (by decide) ?_
        exact g_zreturn (pc := 128) (by decide) dX5_comes_128 rfl
      · refine g_iconst (pc := 119) 1 dX5_comes_119 (by decide) ?_
        refine g_goto (pc := 120) 124 dX5_comes_120 rfl ?_
        refine g_put (pc := 124) rfl foX5_103 fpX5_5 rfl rfl dX5_comes_124 (fun m13 => ?_)
        refine g_iconst (pc := 127) 1 dX5_comes_127 (by decide) ?_
        exact g_zreturn (pc := 128) (by decide) dX5_comes_128 rfl)
-- StopsByLettersModel.passes([I)V
abbrev kX5_passes : Cfg := (RX5, cX5_passes, 3, none, 0)
theorem dX5_passes_0 : decode cX5_passes 0 = .ok (.iconst 0, 1) := by decide +kernel
theorem dX5_passes_1 : decode cX5_passes 1 = .ok (.istore_n 2, 1) := by decide +kernel
theorem dX5_passes_2 : decode cX5_passes 2 = .ok (.iload_n 2, 1) := by decide +kernel
theorem dX5_passes_3 : decode cX5_passes 3 = .ok (.aload_n 1, 1) := by decide +kernel
theorem dX5_passes_4 : decode cX5_passes 4 = .ok (.arraylength, 1) := by decide +kernel
theorem dX5_passes_5 : decode cX5_passes 5 = .ok (.if_icmp .ge 53, 3) := by decide +kernel
theorem dX5_passes_8 : decode cX5_passes 8 = .ok (.aload_n 0, 1) := by decide +kernel
theorem dX5_passes_9 : decode cX5_passes 9 = .ok (.getfield 116, 3) := by decide +kernel
theorem dX5_passes_12 : decode cX5_passes 12 = .ok (.ifCond .eq 18, 3) := by decide +kernel
theorem dX5_passes_15 : decode cX5_passes 15 = .ok (.aload_n 0, 1) := by decide +kernel
theorem dX5_passes_16 : decode cX5_passes 16 = .ok (.getfield 40, 3) := by decide +kernel
theorem dX5_passes_19 : decode cX5_passes 19 = .ok (.aload_n 0, 1) := by decide +kernel
theorem dX5_passes_20 : decode cX5_passes 20 = .ok (.getfield 120, 3) := by decide +kernel
theorem dX5_passes_23 : decode cX5_passes 23 = .ok (.aload_n 1, 1) := by decide +kernel
theorem dX5_passes_24 : decode cX5_passes 24 = .ok (.iload_n 2, 1) := by decide +kernel
theorem dX5_passes_25 : decode cX5_passes 25 = .ok (.iaload, 1) := by decide +kernel
theorem dX5_passes_26 : decode cX5_passes 26 = .ok (.iastore, 1) := by decide +kernel
theorem dX5_passes_27 : decode cX5_passes 27 = .ok (.goto 15, 3) := by decide +kernel
theorem dX5_passes_30 : decode cX5_passes 30 = .ok (.aload_n 1, 1) := by decide +kernel
theorem dX5_passes_31 : decode cX5_passes 31 = .ok (.iload_n 2, 1) := by decide +kernel
theorem dX5_passes_32 : decode cX5_passes 32 = .ok (.aload_n 0, 1) := by decide +kernel
theorem dX5_passes_33 : decode cX5_passes 33 = .ok (.getfield 40, 3) := by decide +kernel
theorem dX5_passes_36 : decode cX5_passes 36 = .ok (.aload_n 0, 1) := by decide +kernel
theorem dX5_passes_37 : decode cX5_passes 37 = .ok (.getfield 120, 3) := by decide +kernel
theorem dX5_passes_40 : decode cX5_passes 40 = .ok (.iaload, 1) := by decide +kernel
theorem dX5_passes_41 : decode cX5_passes 41 = .ok (.iastore, 1) := by decide +kernel
theorem dX5_passes_42 : decode cX5_passes 42 = .ok (.aload_n 0, 1) := by decide +kernel
theorem dX5_passes_43 : decode cX5_passes 43 = .ok (.dup, 1) := by decide +kernel
theorem dX5_passes_44 : decode cX5_passes 44 = .ok (.getfield 120, 3) := by decide +kernel
theorem dX5_passes_47 : decode cX5_passes 47 = .ok (.iconst 1, 1) := by decide +kernel
theorem dX5_passes_48 : decode cX5_passes 48 = .ok (.iadd, 1) := by decide +kernel
theorem dX5_passes_49 : decode cX5_passes 49 = .ok (.putfield 120, 3) := by decide +kernel
theorem dX5_passes_52 : decode cX5_passes 52 = .ok (.iinc 2 1, 3) := by decide +kernel
theorem dX5_passes_55 : decode cX5_passes 55 = .ok (.goto (-53), 3) := by decide +kernel
theorem dX5_passes_58 : decode cX5_passes 58 = .ok (.return_, 1) := by decide +kernel
theorem foX5_116 : Fo 5 RX5 TX5 23 17 RX5 116 := ⟨rfl, by decide, rfl, uwX5, rfl, Or.inl (tb_in 713 (by decide +kernel) rfl)⟩
theorem foX5_120 : Fo 5 RX5 TX5 23 18 RX5 120 := ⟨rfl, by decide, rfl, uwX5, rfl, Or.inl (tb_in 714 (by decide +kernel) rfl)⟩
theorem fpX5_18 : Fp TX5 23 tyX5 18 := ⟨tyX5_ok, nmX5, rfl⟩
theorem foX5_40 : Fo 5 RX5 TX5 23 15 RX5 40 := ⟨rfl, by decide, rfl, uwX5, rfl, Or.inl (tb_in 711 (by decide +kernel) rfl)⟩
def fX5_passes_L2 (n : Nat) (k1 l1 : Nat) : Nat → Int32 → Mem → Option (Unit × Mem)
  | 0, _, _ => none
  | F + 1, v2, μ => if (Int32.ofNat l1) ≤ v2 then some ((), μ) else bnd (fun (m2 : Mem) => bnd (setI m2 47 18 ((m2.1 47 18) + 1)) (fun m3 => bnd (v2 + 1) (fun x4 => fX5_passes_L2 n k1 l1 F x4 m3))) (fun kb1 => if (μ.1 47 17) = 0 then gd (inb (μ.1 47 18) 240) (gd (inb v2 l1) (bnd (setI μ k1 (Int32.toNatClampNeg v2) (μ.1 58 (Int32.toNatClampNeg (μ.1 47 18)))) (fun m5 => kb1 m5))) else gd (inb v2 l1) (gd (inb (μ.1 47 18) 240) (bnd (setI μ 58 (Int32.toNatClampNeg (μ.1 47 18)) (μ.1 k1 (Int32.toNatClampNeg v2))) (fun m6 => kb1 m6))))
def fX5_passes (n : Nat) (k1 l1 : Nat) (μ : Mem) : Option (Unit × Mem) :=
  fX5_passes_L2 n k1 l1 n 0 μ
set_option maxHeartbeats 4000000 in
set_option maxRecDepth 100000 in
theorem wX5_passes_L2 (ad : Nat → Nat) (n : Nat) (k1 l1 : Nat) (h1 : lay k1 = (0, l1) ∧ l1 ≠ 0) : ∀ (F : Nat) (v2 : Int32) (μ : Mem), G kX5_passes ad encV 2 [(0, .ref (ad 47)), (1, .ref (ad k1)), (2, .int v2)] [] μ (fX5_passes_L2 n k1 l1 F v2 μ) := by
  intro F
  induction F with
  | zero =>
    intro v2 μ
    exact g_none
  | succ F ih =>
    intro v2 μ
    rw [fX5_passes_L2]
    refine g_iload_n (pc := 2) 2 dX5_passes_2 rfl rfl ?_
    refine g_aload_n (pc := 3) 1 dX5_passes_3 rfl rfl ?_
    refine g_alen (pc := 4) (h1.1) h1.2 (v := (Int32.ofNat l1)) rfl dX5_passes_4 ?_
    refine g_icmp_ge (pc := 5) 58 dX5_passes_5 rfl ?_ ?_
    · exact g_return (pc := 58) dX5_passes_58 rfl
    · refine g_aload_n (pc := 8) 0 dX5_passes_8 rfl rfl ?_
      refine g_get (pc := 9) rfl foX5_116 (v := .int (μ.1 47 17)) rfl dX5_passes_9 ?_
      refine g_join (fun kb => ∀ (m2 : Mem), G kX5_passes ad encV 42 [(0, .ref (ad 47)), (1, .ref (ad k1)), (2, .int v2)] [] m2 (kb m2)) (fun m2 => ?_) (fun kb1 hkb1 => ?_)
      · refine g_aload_n (pc := 42) 0 dX5_passes_42 rfl rfl ?_
        refine g_dup (pc := 43) dX5_passes_43 rfl ?_
        refine g_get (pc := 44) rfl foX5_120 (v := .int (m2.1 47 18)) rfl dX5_passes_44 ?_
        refine g_iconst (pc := 47) 1 dX5_passes_47 (by decide) ?_
        refine g_iadd (pc := 48) dX5_passes_48 ?_
        refine g_put (pc := 49) rfl foX5_120 fpX5_18 rfl rfl dX5_passes_49 (fun m3 => ?_)
        refine g_iincB (pc := 52) 2 1 1 (fun x4 => [(2, .int x4), (0, .ref (ad 47)), (1, .ref (ad k1))]) dX5_passes_52 rfl (by decide) (by decide) (fun _ => rfl) (fun x4 => ?_)
        refine g_goto (pc := 55) 2 dX5_passes_55 rfl ?_
        exact g_sub [1, 2, 0] rfl (ih x4 m3)
      ·
        refine g_if_eq (pc := 12) 30 dX5_passes_12 rfl ?_ ?_
        · refine g_aload_n (pc := 30) 1 dX5_passes_30 rfl rfl ?_
          refine g_iload_n (pc := 31) 2 dX5_passes_31 rfl rfl ?_
          refine g_aload_n (pc := 32) 0 dX5_passes_32 rfl rfl ?_
          refine g_get (pc := 33) rfl foX5_40 (v := .ref (ad 58)) rfl dX5_passes_33 ?_
          refine g_aload_n (pc := 36) 0 dX5_passes_36 rfl rfl ?_
          refine g_get (pc := 37) rfl foX5_120 (v := .int (μ.1 47 18)) rfl dX5_passes_37 ?_
          refine g_iald (pc := 40) rfl (by decide) dX5_passes_40 ?_
          refine g_iast (pc := 41) (h1.1) h1.2 dX5_passes_41 (fun m5 => ?_)
          exact g_sub [0, 1, 2] rfl (hkb1 m5)
        · refine g_aload_n (pc := 15) 0 dX5_passes_15 rfl rfl ?_
          refine g_get (pc := 16) rfl foX5_40 (v := .ref (ad 58)) rfl dX5_passes_16 ?_
          refine g_aload_n (pc := 19) 0 dX5_passes_19 rfl rfl ?_
          refine g_get (pc := 20) rfl foX5_120 (v := .int (μ.1 47 18)) rfl dX5_passes_20 ?_
          refine g_aload_n (pc := 23) 1 dX5_passes_23 rfl rfl ?_
          refine g_iload_n (pc := 24) 2 dX5_passes_24 rfl rfl ?_
          refine g_iald (pc := 25) (h1.1) h1.2 dX5_passes_25 ?_
          refine g_iast (pc := 26) rfl (by decide) dX5_passes_26 (fun m6 => ?_)
          refine g_goto (pc := 27) 42 dX5_passes_27 rfl ?_
          exact g_sub [0, 1, 2] rfl (hkb1 m6)
set_option maxHeartbeats 4000000 in
set_option maxRecDepth 100000 in
theorem ctX5_passes (ad : Nat → Nat) (n : Nat) (k1 l1 : Nat) (h1 : lay k1 = (0, l1) ∧ l1 ≠ 0) (μ : Mem) : Ct yX5_passes kX5_passes ad encV [.ref (ad 47), .ref (ad k1)] μ (fX5_passes n k1 l1 μ) := Ct.of (by decide +kernel) rfl (Nat.le_of_ble_eq_true rfl) (by
  show G kX5_passes ad encV 0 [(0, .ref (ad 47)), (1, .ref (ad k1))] [] μ (fX5_passes n k1 l1 μ)
  unfold fX5_passes
  refine g_iconst (pc := 0) 0 dX5_passes_0 (by decide) ?_
  refine g_istore_n (pc := 1) [(2, .int 0), (0, .ref (ad 47)), (1, .ref (ad k1))] dX5_passes_1 rfl (by decide) rfl ?_
  exact g_sub [1, 2, 0] rfl (wX5_passes_L2 ad n k1 l1 h1 n 0 μ))
-- StopsByLettersModel.passOne(I)I
abbrev kX5_passOne : Cfg := (RX5, cX5_passOne, 3, (some .int), 0)
theorem dX5_passOne_0 : decode cX5_passOne 0 = .ok (.aload_n 0, 1) := by decide +kernel
theorem dX5_passOne_1 : decode cX5_passOne 1 = .ok (.getfield 116, 3) := by decide +kernel
theorem dX5_passOne_4 : decode cX5_passOne 4 = .ok (.ifCond .eq 7, 3) := by decide +kernel
theorem dX5_passOne_7 : decode cX5_passOne 7 = .ok (.iload_n 1, 1) := by decide +kernel
theorem dX5_passOne_8 : decode cX5_passOne 8 = .ok (.goto 12, 3) := by decide +kernel
theorem dX5_passOne_11 : decode cX5_passOne 11 = .ok (.aload_n 0, 1) := by decide +kernel
theorem dX5_passOne_12 : decode cX5_passOne 12 = .ok (.getfield 40, 3) := by decide +kernel
theorem dX5_passOne_15 : decode cX5_passOne 15 = .ok (.aload_n 0, 1) := by decide +kernel
theorem dX5_passOne_16 : decode cX5_passOne 16 = .ok (.getfield 120, 3) := by decide +kernel
theorem dX5_passOne_19 : decode cX5_passOne 19 = .ok (.iaload, 1) := by decide +kernel
theorem dX5_passOne_20 : decode cX5_passOne 20 = .ok (.istore_n 2, 1) := by decide +kernel
theorem dX5_passOne_21 : decode cX5_passOne 21 = .ok (.aload_n 0, 1) := by decide +kernel
theorem dX5_passOne_22 : decode cX5_passOne 22 = .ok (.getfield 116, 3) := by decide +kernel
theorem dX5_passOne_25 : decode cX5_passOne 25 = .ok (.ifCond .eq 13, 3) := by decide +kernel
theorem dX5_passOne_28 : decode cX5_passOne 28 = .ok (.aload_n 0, 1) := by decide +kernel
theorem dX5_passOne_29 : decode cX5_passOne 29 = .ok (.getfield 40, 3) := by decide +kernel
theorem dX5_passOne_32 : decode cX5_passOne 32 = .ok (.aload_n 0, 1) := by decide +kernel
theorem dX5_passOne_33 : decode cX5_passOne 33 = .ok (.getfield 120, 3) := by decide +kernel
theorem dX5_passOne_36 : decode cX5_passOne 36 = .ok (.iload_n 1, 1) := by decide +kernel
theorem dX5_passOne_37 : decode cX5_passOne 37 = .ok (.iastore, 1) := by decide +kernel
theorem dX5_passOne_38 : decode cX5_passOne 38 = .ok (.aload_n 0, 1) := by decide +kernel
theorem dX5_passOne_39 : decode cX5_passOne 39 = .ok (.dup, 1) := by decide +kernel
theorem dX5_passOne_40 : decode cX5_passOne 40 = .ok (.getfield 120, 3) := by decide +kernel
theorem dX5_passOne_43 : decode cX5_passOne 43 = .ok (.iconst 1, 1) := by decide +kernel
theorem dX5_passOne_44 : decode cX5_passOne 44 = .ok (.iadd, 1) := by decide +kernel
theorem dX5_passOne_45 : decode cX5_passOne 45 = .ok (.putfield 120, 3) := by decide +kernel
theorem dX5_passOne_48 : decode cX5_passOne 48 = .ok (.iload_n 2, 1) := by decide +kernel
theorem dX5_passOne_49 : decode cX5_passOne 49 = .ok (.ireturn, 1) := by decide +kernel
def fX5_passOne (n : Nat) (a1 : Int32) (μ : Mem) : Option (Int32 × Mem) :=
  bnd (fun (x2 : Int32) (m3 : Mem) => if (m3.1 47 17) = 0 then bnd (setI m3 47 18 ((m3.1 47 18) + 1)) (fun m4 => some (x2, m4)) else gd (inb (m3.1 47 18) 240) (bnd (setI m3 58 (Int32.toNatClampNeg (m3.1 47 18)) a1) (fun m5 => bnd (setI m5 47 18 ((m5.1 47 18) + 1)) (fun m6 => some (x2, m6))))) (fun kb1 => if (μ.1 47 17) = 0 then gd (inb (μ.1 47 18) 240) (kb1 (μ.1 58 (Int32.toNatClampNeg (μ.1 47 18))) μ) else kb1 a1 μ)
set_option maxHeartbeats 4000000 in
set_option maxRecDepth 100000 in
theorem ctX5_passOne (ad : Nat → Nat) (n : Nat) (a1 : Int32) (μ : Mem) : Ct yX5_passOne kX5_passOne ad encI [.ref (ad 47), .int a1] μ (fX5_passOne n a1 μ) := Ct.of (by decide +kernel) rfl (Nat.le_of_ble_eq_true rfl) (by
  show G kX5_passOne ad encI 0 [(0, .ref (ad 47)), (1, .int a1)] [] μ (fX5_passOne n a1 μ)
  unfold fX5_passOne
  refine g_aload_n (pc := 0) 0 dX5_passOne_0 rfl rfl ?_
  refine g_get (pc := 1) rfl foX5_116 (v := .int (μ.1 47 17)) rfl dX5_passOne_1 ?_
  refine g_join (fun kb => ∀ (x2 : Int32) (m3 : Mem), G kX5_passOne ad encI 20 [(0, .ref (ad 47)), (1, .int a1)] [.int x2] m3 (kb x2 m3)) (fun x2 m3 => ?_) (fun kb1 hkb1 => ?_)
  · refine g_istore_n (pc := 20) [(2, .int x2), (0, .ref (ad 47)), (1, .int a1)] dX5_passOne_20 rfl (by decide) rfl ?_
    refine g_aload_n (pc := 21) 1 dX5_passOne_21 rfl rfl ?_
    refine g_get (pc := 22) rfl foX5_116 (v := .int (m3.1 47 17)) rfl dX5_passOne_22 ?_
    refine g_if_eq (pc := 25) 38 dX5_passOne_25 rfl ?_ ?_
    · refine g_aload_n (pc := 38) 1 dX5_passOne_38 rfl rfl ?_
      refine g_dup (pc := 39) dX5_passOne_39 rfl ?_
      refine g_get (pc := 40) rfl foX5_120 (v := .int (m3.1 47 18)) rfl dX5_passOne_40 ?_
      refine g_iconst (pc := 43) 1 dX5_passOne_43 (by decide) ?_
      refine g_iadd (pc := 44) dX5_passOne_44 ?_
      refine g_put (pc := 45) rfl foX5_120 fpX5_18 rfl rfl dX5_passOne_45 (fun m4 => ?_)
      refine g_iload_n (pc := 48) 0 dX5_passOne_48 rfl rfl ?_
      exact g_ireturn (pc := 49) dX5_passOne_49 rfl
    · refine g_aload_n (pc := 28) 1 dX5_passOne_28 rfl rfl ?_
      refine g_get (pc := 29) rfl foX5_40 (v := .ref (ad 58)) rfl dX5_passOne_29 ?_
      refine g_aload_n (pc := 32) 1 dX5_passOne_32 rfl rfl ?_
      refine g_get (pc := 33) rfl foX5_120 (v := .int (m3.1 47 18)) rfl dX5_passOne_33 ?_
      refine g_iload_n (pc := 36) 2 dX5_passOne_36 rfl rfl ?_
      refine g_iast (pc := 37) rfl (by decide) dX5_passOne_37 (fun m5 => ?_)
      refine g_aload_n (pc := 38) 1 dX5_passOne_38 rfl rfl ?_
      refine g_dup (pc := 39) dX5_passOne_39 rfl ?_
      refine g_get (pc := 40) rfl foX5_120 (v := .int (m5.1 47 18)) rfl dX5_passOne_40 ?_
      refine g_iconst (pc := 43) 1 dX5_passOne_43 (by decide) ?_
      refine g_iadd (pc := 44) dX5_passOne_44 ?_
      refine g_put (pc := 45) rfl foX5_120 fpX5_18 rfl rfl dX5_passOne_45 (fun m6 => ?_)
      refine g_iload_n (pc := 48) 0 dX5_passOne_48 rfl rfl ?_
      exact g_ireturn (pc := 49) dX5_passOne_49 rfl
  ·
    refine g_if_eq (pc := 4) 11 dX5_passOne_4 rfl ?_ ?_
    · refine g_aload_n (pc := 11) 0 dX5_passOne_11 rfl rfl ?_
      refine g_get (pc := 12) rfl foX5_40 (v := .ref (ad 58)) rfl dX5_passOne_12 ?_
      refine g_aload_n (pc := 15) 0 dX5_passOne_15 rfl rfl ?_
      refine g_get (pc := 16) rfl foX5_120 (v := .int (μ.1 47 18)) rfl dX5_passOne_16 ?_
      refine g_iald (pc := 19) rfl (by decide) dX5_passOne_19 ?_
      exact g_sub [0, 1] rfl (hkb1 (μ.1 58 (Int32.toNatClampNeg (μ.1 47 18))) μ)
    · refine g_iload_n (pc := 7) 1 dX5_passOne_7 rfl rfl ?_
      refine g_goto (pc := 8) 20 dX5_passOne_8 rfl ?_
      exact g_sub [0, 1] rfl (hkb1 a1 μ))
-- StopsByLettersModel.passesAll(IZ)V
abbrev kX5_passesAll : Cfg := (RX5, cX5_passesAll, 3, none, 1)
theorem dX5_passesAll_0 : decode cX5_passesAll 0 = .ok (.aload_n 0, 1) := by decide +kernel
theorem dX5_passesAll_1 : decode cX5_passesAll 1 = .ok (.bipush 120, 2) := by decide +kernel
theorem dX5_passesAll_3 : decode cX5_passesAll 3 = .ok (.iload_n 1, 1) := by decide +kernel
theorem dX5_passesAll_4 : decode cX5_passesAll 4 = .ok (.imul, 1) := by decide +kernel
theorem dX5_passesAll_5 : decode cX5_passesAll 5 = .ok (.putfield 120, 3) := by decide +kernel
theorem dX5_passesAll_8 : decode cX5_passesAll 8 = .ok (.aload_n 0, 1) := by decide +kernel
theorem dX5_passesAll_9 : decode cX5_passesAll 9 = .ok (.iload_n 2, 1) := by decide +kernel
theorem dX5_passesAll_10 : decode cX5_passesAll 10 = .ok (.putfield 116, 3) := by decide +kernel
theorem dX5_passesAll_13 : decode cX5_passesAll 13 = .ok (.aload_n 0, 1) := by decide +kernel
theorem dX5_passesAll_14 : decode cX5_passesAll 14 = .ok (.aload_n 0, 1) := by decide +kernel
theorem dX5_passesAll_15 : decode cX5_passesAll 15 = .ok (.getfield 13, 3) := by decide +kernel
theorem dX5_passesAll_18 : decode cX5_passesAll 18 = .ok (.invokevirtual 123, 3) := by decide +kernel
theorem dX5_passesAll_21 : decode cX5_passesAll 21 = .ok (.aload_n 0, 1) := by decide +kernel
theorem dX5_passesAll_22 : decode cX5_passesAll 22 = .ok (.aload_n 0, 1) := by decide +kernel
theorem dX5_passesAll_23 : decode cX5_passesAll 23 = .ok (.getfield 16, 3) := by decide +kernel
theorem dX5_passesAll_26 : decode cX5_passesAll 26 = .ok (.invokevirtual 123, 3) := by decide +kernel
theorem dX5_passesAll_29 : decode cX5_passesAll 29 = .ok (.aload_n 0, 1) := by decide +kernel
theorem dX5_passesAll_30 : decode cX5_passesAll 30 = .ok (.aload_n 0, 1) := by decide +kernel
theorem dX5_passesAll_31 : decode cX5_passesAll 31 = .ok (.getfield 19, 3) := by decide +kernel
theorem dX5_passesAll_34 : decode cX5_passesAll 34 = .ok (.invokevirtual 123, 3) := by decide +kernel
theorem dX5_passesAll_37 : decode cX5_passesAll 37 = .ok (.aload_n 0, 1) := by decide +kernel
theorem dX5_passesAll_38 : decode cX5_passesAll 38 = .ok (.aload_n 0, 1) := by decide +kernel
theorem dX5_passesAll_39 : decode cX5_passesAll 39 = .ok (.aload_n 0, 1) := by decide +kernel
theorem dX5_passesAll_40 : decode cX5_passesAll 40 = .ok (.getfield 56, 3) := by decide +kernel
theorem dX5_passesAll_43 : decode cX5_passesAll 43 = .ok (.invokevirtual 127, 3) := by decide +kernel
theorem dX5_passesAll_46 : decode cX5_passesAll 46 = .ok (.putfield 56, 3) := by decide +kernel
theorem dX5_passesAll_49 : decode cX5_passesAll 49 = .ok (.aload_n 0, 1) := by decide +kernel
theorem dX5_passesAll_50 : decode cX5_passesAll 50 = .ok (.aload_n 0, 1) := by decide +kernel
theorem dX5_passesAll_51 : decode cX5_passesAll 51 = .ok (.aload_n 0, 1) := by decide +kernel
theorem dX5_passesAll_52 : decode cX5_passesAll 52 = .ok (.getfield 103, 3) := by decide +kernel
theorem dX5_passesAll_55 : decode cX5_passesAll 55 = .ok (.invokevirtual 127, 3) := by decide +kernel
theorem dX5_passesAll_58 : decode cX5_passesAll 58 = .ok (.putfield 103, 3) := by decide +kernel
theorem dX5_passesAll_61 : decode cX5_passesAll 61 = .ok (.return_, 1) := by decide +kernel
theorem fpX5_17 : Fp TX5 23 tyX5 17 := ⟨tyX5_ok, nmX5, rfl⟩
theorem lnX5_127 : Ln RX5 127 yX5_passOne := Or.inl (tb_in 811 (by decide +kernel) rfl)
theorem moX5_passOne : Mv yX5_passOne kX5_passOne 1 := ⟨⟨tb_in 814 (by decide +kernel) rfl, tb_in 92 (by decide +kernel) rfl, ⟨by decide, by decide⟩, by decide +kernel⟩, tb_in 813 (by decide +kernel) rfl, tb_in 63 (by decide +kernel) rfl⟩
theorem lnX5_123 : Ln RX5 123 yX5_passes := Or.inl (tb_in 807 (by decide +kernel) rfl)
theorem moX5_passes : Mv yX5_passes kX5_passes 1 := ⟨⟨tb_in 810 (by decide +kernel) rfl, tb_in 92 (by decide +kernel) rfl, ⟨by decide, by decide⟩, by decide +kernel⟩, tb_in 809 (by decide +kernel) rfl, tb_in 62 (by decide +kernel) rfl⟩
def fX5_passesAll (n : Nat) (a1 : Int32) (a2 : Int32) (μ : Mem) : Option (Unit × Mem) :=
  bnd (setI μ 47 18 (120 * a1)) (fun m1 => gd (isB a2) (bnd (setI m1 47 17 a2) (fun m2 => bd (fX5_passes n 49 90 m2) (fun r4 m3 => bd (fX5_passes n 50 9 m3) (fun r6 m5 => bd (fX5_passes n 51 9 m5) (fun r8 m7 => bd (fX5_passOne n (m7.1 47 4) m7) (fun r10 m9 => bnd (setI m9 47 4 r10) (fun m11 => bd (fX5_passOne n (m11.1 47 5) m11) (fun r13 m12 => bnd (setI m12 47 5 r13) (fun m14 => some ((), m14)))))))))))
set_option maxHeartbeats 4000000 in
set_option maxRecDepth 100000 in
theorem ctX5_passesAll (ad : Nat → Nat) (n : Nat) (a1 : Int32) (a2 : Int32) (μ : Mem) : Ct yX5_passesAll kX5_passesAll ad encV [.ref (ad 47), .int a1, .int a2] μ (fX5_passesAll n a1 a2 μ) := Ct.of (by decide +kernel) rfl (Nat.le_of_ble_eq_true rfl) (by
  show G kX5_passesAll ad encV 0 [(0, .ref (ad 47)), (1, .int a1), (2, .int a2)] [] μ (fX5_passesAll n a1 a2 μ)
  unfold fX5_passesAll
  refine g_aload_n (pc := 0) 0 dX5_passesAll_0 rfl rfl ?_
  refine g_bipush (pc := 1) 120 dX5_passesAll_1 (by decide) ?_
  refine g_iload_n (pc := 3) 1 dX5_passesAll_3 rfl rfl ?_
  refine g_imul (pc := 4) dX5_passesAll_4 ?_
  refine g_put (pc := 5) rfl foX5_120 fpX5_18 rfl rfl dX5_passesAll_5 (fun m1 => ?_)
  refine g_aload_n (pc := 8) 0 dX5_passesAll_8 rfl rfl ?_
  refine g_iload_n (pc := 9) 2 dX5_passesAll_9 rfl rfl ?_
  refine g_putZG (pc := 10) rfl foX5_116 fpX5_17 rfl rfl dX5_passesAll_10 (fun m2 => ?_)
  refine g_aload_n (pc := 13) 0 dX5_passesAll_13 rfl rfl ?_
  refine g_aload_n (pc := 14) 0 dX5_passesAll_14 rfl rfl ?_
  refine g_get (pc := 15) rfl foX5_13 (v := .ref (ad 49)) rfl dX5_passesAll_15 ?_
  refine g_cVV (pc := 18) (st := []) [.ref (ad 49)] rfl rfl moX5_passes lnX5_123 (ctX5_passes ad n 49 90 ⟨rfl, by decide⟩ m2) rfl ⟨Nat.le_of_ble_eq_true rfl, Nat.le_of_ble_eq_true rfl⟩ rfl (Nat.le_of_ble_eq_true rfl) dX5_passesAll_18 (fun r4 m3 => ?_)
  refine g_aload_n (pc := 21) 0 dX5_passesAll_21 rfl rfl ?_
  refine g_aload_n (pc := 22) 0 dX5_passesAll_22 rfl rfl ?_
  refine g_get (pc := 23) rfl foX5_16 (v := .ref (ad 50)) rfl dX5_passesAll_23 ?_
  refine g_cVV (pc := 26) (st := []) [.ref (ad 50)] rfl rfl moX5_passes lnX5_123 (ctX5_passes ad n 50 9 ⟨rfl, by decide⟩ m3) rfl ⟨Nat.le_of_ble_eq_true rfl, Nat.le_of_ble_eq_true rfl⟩ rfl (Nat.le_of_ble_eq_true rfl) dX5_passesAll_26 (fun r6 m5 => ?_)
  refine g_aload_n (pc := 29) 0 dX5_passesAll_29 rfl rfl ?_
  refine g_aload_n (pc := 30) 0 dX5_passesAll_30 rfl rfl ?_
  refine g_get (pc := 31) rfl foX5_19 (v := .ref (ad 51)) rfl dX5_passesAll_31 ?_
  refine g_cVV (pc := 34) (st := []) [.ref (ad 51)] rfl rfl moX5_passes lnX5_123 (ctX5_passes ad n 51 9 ⟨rfl, by decide⟩ m5) rfl ⟨Nat.le_of_ble_eq_true rfl, Nat.le_of_ble_eq_true rfl⟩ rfl (Nat.le_of_ble_eq_true rfl) dX5_passesAll_34 (fun r8 m7 => ?_)
  refine g_aload_n (pc := 37) 0 dX5_passesAll_37 rfl rfl ?_
  refine g_aload_n (pc := 38) 0 dX5_passesAll_38 rfl rfl ?_
  refine g_aload_n (pc := 39) 0 dX5_passesAll_39 rfl rfl ?_
  refine g_get (pc := 40) rfl foX5_56 (v := .int (m7.1 47 4)) rfl dX5_passesAll_40 ?_
  refine g_cVI (pc := 43) (st := [.ref (ad 47)]) [.int (m7.1 47 4)] rfl rfl moX5_passOne lnX5_127 (ctX5_passOne ad n (m7.1 47 4) m7) rfl ⟨Nat.le_of_ble_eq_true rfl, Nat.le_of_ble_eq_true rfl⟩ rfl (Nat.le_of_ble_eq_true rfl) dX5_passesAll_43 (fun r10 m9 => ?_)
  refine g_put (pc := 46) rfl foX5_56 fpX5_4 rfl rfl dX5_passesAll_46 (fun m11 => ?_)
  refine g_aload_n (pc := 49) 0 dX5_passesAll_49 rfl rfl ?_
  refine g_aload_n (pc := 50) 0 dX5_passesAll_50 rfl rfl ?_
  refine g_aload_n (pc := 51) 0 dX5_passesAll_51 rfl rfl ?_
  refine g_get (pc := 52) rfl foX5_103 (v := .int (m11.1 47 5)) rfl dX5_passesAll_52 ?_
  refine g_cVI (pc := 55) (st := [.ref (ad 47)]) [.int (m11.1 47 5)] rfl rfl moX5_passOne lnX5_127 (ctX5_passOne ad n (m11.1 47 5) m11) rfl ⟨Nat.le_of_ble_eq_true rfl, Nat.le_of_ble_eq_true rfl⟩ rfl (Nat.le_of_ble_eq_true rfl) dX5_passesAll_55 (fun r13 m12 => ?_)
  refine g_put (pc := 58) rfl foX5_103 fpX5_5 rfl rfl dX5_passesAll_58 (fun m14 => ?_)
  exact g_return (pc := 61) dX5_passesAll_61 rfl)
-- StopsByLettersModel.line()I
abbrev kX5_line : Cfg := (RX5, cX5_line, 3, (some .int), 3)
theorem dX5_line_0 : decode cX5_line 0 = .ok (.aload_n 0, 1) := by decide +kernel
theorem dX5_line_1 : decode cX5_line 1 = .ok (.iconst 0, 1) := by decide +kernel
theorem dX5_line_2 : decode cX5_line 2 = .ok (.putfield 71, 3) := by decide +kernel
theorem dX5_line_5 : decode cX5_line 5 = .ok (.aload_n 0, 1) := by decide +kernel
theorem dX5_line_6 : decode cX5_line 6 = .ok (.iconst 0, 1) := by decide +kernel
theorem dX5_line_7 : decode cX5_line 7 = .ok (.putfield 78, 3) := by decide +kernel
theorem dX5_line_10 : decode cX5_line 10 = .ok (.iconst 1, 1) := by decide +kernel
theorem dX5_line_11 : decode cX5_line 11 = .ok (.istore_n 1, 1) := by decide +kernel
theorem dX5_line_12 : decode cX5_line 12 = .ok (.iload_n 1, 1) := by decide +kernel
theorem dX5_line_13 : decode cX5_line 13 = .ok (.ifCond .eq 47, 3) := by decide +kernel
theorem dX5_line_16 : decode cX5_line 16 = .ok (.aload_n 0, 1) := by decide +kernel
theorem dX5_line_17 : decode cX5_line 17 = .ok (.getfield 71, 3) := by decide +kernel
theorem dX5_line_20 : decode cX5_line 20 = .ok (.aload_n 0, 1) := by decide +kernel
theorem dX5_line_21 : decode cX5_line 21 = .ok (.getfield 64, 3) := by decide +kernel
theorem dX5_line_24 : decode cX5_line 24 = .ok (.if_icmp .lt 10, 3) := by decide +kernel
theorem dX5_line_27 : decode cX5_line 27 = .ok (.aload_n 0, 1) := by decide +kernel
theorem dX5_line_28 : decode cX5_line 28 = .ok (.getfield 78, 3) := by decide +kernel
theorem dX5_line_31 : decode cX5_line 31 = .ok (.ifCond .ne 29, 3) := by decide +kernel
theorem dX5_line_34 : decode cX5_line 34 = .ok (.aload_n 0, 1) := by decide +kernel
theorem dX5_line_35 : decode cX5_line 35 = .ok (.invokevirtual 106, 3) := by decide +kernel
theorem dX5_line_38 : decode cX5_line 38 = .ok (.istore_n 1, 1) := by decide +kernel
theorem dX5_line_39 : decode cX5_line 39 = .ok (.aload_n 0, 1) := by decide +kernel
theorem dX5_line_40 : decode cX5_line 40 = .ok (.dup, 1) := by decide +kernel
theorem dX5_line_41 : decode cX5_line 41 = .ok (.getfield 78, 3) := by decide +kernel
theorem dX5_line_44 : decode cX5_line 44 = .ok (.iload_n 1, 1) := by decide +kernel
theorem dX5_line_45 : decode cX5_line 45 = .ok (.ifCond .eq 7, 3) := by decide +kernel
theorem dX5_line_48 : decode cX5_line 48 = .ok (.iconst 1, 1) := by decide +kernel
theorem dX5_line_49 : decode cX5_line 49 = .ok (.goto 4, 3) := by decide +kernel
theorem dX5_line_52 : decode cX5_line 52 = .ok (.iconst 0, 1) := by decide +kernel
theorem dX5_line_53 : decode cX5_line 53 = .ok (.iadd, 1) := by decide +kernel
theorem dX5_line_54 : decode cX5_line 54 = .ok (.putfield 78, 3) := by decide +kernel
theorem dX5_line_57 : decode cX5_line 57 = .ok (.goto (-45), 3) := by decide +kernel
theorem dX5_line_60 : decode cX5_line 60 = .ok (.aload_n 0, 1) := by decide +kernel
theorem dX5_line_61 : decode cX5_line 61 = .ok (.iconst 0, 1) := by decide +kernel
theorem dX5_line_62 : decode cX5_line 62 = .ok (.putfield 64, 3) := by decide +kernel
theorem dX5_line_65 : decode cX5_line 65 = .ok (.iload_n 1, 1) := by decide +kernel
theorem dX5_line_66 : decode cX5_line 66 = .ok (.ifCond .ne 12, 3) := by decide +kernel
theorem dX5_line_69 : decode cX5_line 69 = .ok (.sipush (-1000), 3) := by decide +kernel
theorem dX5_line_72 : decode cX5_line 72 = .ok (.aload_n 0, 1) := by decide +kernel
theorem dX5_line_73 : decode cX5_line 73 = .ok (.getfield 71, 3) := by decide +kernel
theorem dX5_line_76 : decode cX5_line 76 = .ok (.isub, 1) := by decide +kernel
theorem dX5_line_77 : decode cX5_line 77 = .ok (.ireturn, 1) := by decide +kernel
theorem dX5_line_78 : decode cX5_line 78 = .ok (.aload_n 0, 1) := by decide +kernel
theorem dX5_line_79 : decode cX5_line 79 = .ok (.iconst 1, 1) := by decide +kernel
theorem dX5_line_80 : decode cX5_line 80 = .ok (.iconst 1, 1) := by decide +kernel
theorem dX5_line_81 : decode cX5_line 81 = .ok (.invokevirtual 109, 3) := by decide +kernel
theorem dX5_line_84 : decode cX5_line 84 = .ok (.iconst 0, 1) := by decide +kernel
theorem dX5_line_85 : decode cX5_line 85 = .ok (.istore_n 2, 1) := by decide +kernel
theorem dX5_line_86 : decode cX5_line 86 = .ok (.iload_n 2, 1) := by decide +kernel
theorem dX5_line_87 : decode cX5_line 87 = .ok (.aload_n 0, 1) := by decide +kernel
theorem dX5_line_88 : decode cX5_line 88 = .ok (.getfield 78, 3) := by decide +kernel
theorem dX5_line_91 : decode cX5_line 91 = .ok (.if_icmp .ge 37, 3) := by decide +kernel
theorem dX5_line_94 : decode cX5_line 94 = .ok (.aload_n 0, 1) := by decide +kernel
theorem dX5_line_95 : decode cX5_line 95 = .ok (.iload_n 2, 1) := by decide +kernel
theorem dX5_line_96 : decode cX5_line 96 = .ok (.invokevirtual 113, 3) := by decide +kernel
theorem dX5_line_99 : decode cX5_line 99 = .ok (.ifCond .eq 6, 3) := by decide +kernel
theorem dX5_line_102 : decode cX5_line 102 = .ok (.goto 20, 3) := by decide +kernel
theorem dX5_line_105 : decode cX5_line 105 = .ok (.aload_n 0, 1) := by decide +kernel
theorem dX5_line_106 : decode cX5_line 106 = .ok (.iconst 1, 1) := by decide +kernel
theorem dX5_line_107 : decode cX5_line 107 = .ok (.iconst 0, 1) := by decide +kernel
theorem dX5_line_108 : decode cX5_line 108 = .ok (.invokevirtual 109, 3) := by decide +kernel
theorem dX5_line_111 : decode cX5_line 111 = .ok (.sipush (-2000), 3) := by decide +kernel
theorem dX5_line_114 : decode cX5_line 114 = .ok (.aload_n 0, 1) := by decide +kernel
theorem dX5_line_115 : decode cX5_line 115 = .ok (.getfield 28, 3) := by decide +kernel
theorem dX5_line_118 : decode cX5_line 118 = .ok (.iload_n 2, 1) := by decide +kernel
theorem dX5_line_119 : decode cX5_line 119 = .ok (.iaload, 1) := by decide +kernel
theorem dX5_line_120 : decode cX5_line 120 = .ok (.isub, 1) := by decide +kernel
theorem dX5_line_121 : decode cX5_line 121 = .ok (.ireturn, 1) := by decide +kernel
theorem dX5_line_122 : decode cX5_line 122 = .ok (.iinc 2 1, 3) := by decide +kernel
theorem dX5_line_125 : decode cX5_line 125 = .ok (.goto (-39), 3) := by decide +kernel
theorem dX5_line_128 : decode cX5_line 128 = .ok (.aload_n 0, 1) := by decide +kernel
theorem dX5_line_129 : decode cX5_line 129 = .ok (.getfield 78, 3) := by decide +kernel
theorem dX5_line_132 : decode cX5_line 132 = .ok (.ireturn, 1) := by decide +kernel
theorem fpX5_14 : Fp TX5 23 tyX5 14 := ⟨tyX5_ok, nmX5, rfl⟩
theorem lnX5_106 : Ln RX5 106 yX5_statement := Or.inl (tb_in 781 (by decide +kernel) rfl)
theorem moX5_statement : Mv yX5_statement kX5_statement 0 := ⟨⟨tb_in 784 (by decide +kernel) rfl, tb_in 92 (by decide +kernel) rfl, ⟨by decide, by decide⟩, by decide +kernel⟩, tb_in 783 (by decide +kernel) rfl, tb_in 57 (by decide +kernel) rfl⟩
def fX5_line_L12 (n : Nat) (K1 : Int32 → Mem → Option (Int32 × Mem)) : Nat → Int32 → Mem → Option (Int32 × Mem)
  | 0, _, _ => none
  | F + 1, v1, μ => if v1 = 0 then K1 v1 μ else bnd (fun (m4 : Mem) => bd (fX5_statement n m4) (fun r6 m5 => if r6 = 0 then bnd (setI m5 47 14 ((m5.1 47 14) + 0)) (fun m7 => fX5_line_L12 n K1 F r6 m7) else bnd (setI m5 47 14 ((m5.1 47 14) + 1)) (fun m8 => fX5_line_L12 n K1 F r6 m8))) (fun kb3 => if (μ.1 47 13) < (μ.1 47 12) then kb3 μ else if (μ.1 47 14) = 0 then kb3 μ else K1 v1 μ)
theorem lnX5_109 : Ln RX5 109 yX5_passesAll := Or.inl (tb_in 803 (by decide +kernel) rfl)
theorem moX5_passesAll : Mv yX5_passesAll kX5_passesAll 2 := ⟨⟨tb_in 806 (by decide +kernel) rfl, tb_in 92 (by decide +kernel) rfl, ⟨by decide, by decide⟩, by decide +kernel⟩, tb_in 805 (by decide +kernel) rfl, tb_in 61 (by decide +kernel) rfl⟩
theorem lnX5_113 : Ln RX5 113 yX5_comes := Or.inl (tb_in 815 (by decide +kernel) rfl)
theorem moX5_comes : Mv yX5_comes kX5_comes 1 := ⟨⟨tb_in 818 (by decide +kernel) rfl, tb_in 92 (by decide +kernel) rfl, ⟨by decide, by decide⟩, by decide +kernel⟩, tb_in 817 (by decide +kernel) rfl, tb_in 64 (by decide +kernel) rfl⟩
def fX5_line_L86 (n : Nat) : Nat → Int32 → Mem → Option (Int32 × Mem)
  | 0, _, _ => none
  | F + 1, v2, μ => if (μ.1 47 14) ≤ v2 then some ((μ.1 47 14), μ) else bd (fX5_comes n v2 μ) (fun r15 m14 => if r15 = 0 then bd (fX5_passesAll n 1 0 m14) (fun r17 m16 => gd (inb v2 50) (some (((-2000) - (m16.1 54 (Int32.toNatClampNeg v2))), m16))) else bnd (v2 + 1) (fun x18 => fX5_line_L86 n F x18 m14))
def fX5_line (n : Nat) (μ : Mem) : Option (Int32 × Mem) :=
  bnd (setI μ 47 13 0) (fun m1 => bnd (setI m1 47 14 0) (fun m2 => fX5_line_L12 n (fun (x9 : Int32) (m10 : Mem) => bnd (setI m10 47 12 0) (fun m11 => if x9 = 0 then some (((-1000) - (m11.1 47 13)), m11) else bd (fX5_passesAll n 1 1 m11) (fun r13 m12 => fX5_line_L86 n n 0 m12))) n 1 m2))
set_option maxHeartbeats 4000000 in
set_option maxRecDepth 100000 in
theorem wX5_line_L12 (ad : Nat → Nat) (n : Nat) (K1 : Int32 → Mem → Option (Int32 × Mem)) (hK1 : ∀ (u1 : Int32) (μ : Mem), G kX5_line ad encI 60 [(0, .ref (ad 47)), (1, .int u1)] [] μ (K1 u1 μ)) : ∀ (F : Nat) (v1 : Int32) (μ : Mem), G kX5_line ad encI 12 [(0, .ref (ad 47)), (1, .int v1)] [] μ (fX5_line_L12 n K1 F v1 μ) := by
  intro F
  induction F with
  | zero =>
    intro v1 μ
    exact g_none
  | succ F ih =>
    intro v1 μ
    rw [fX5_line_L12]
    refine g_iload_n (pc := 12) 1 dX5_line_12 rfl rfl ?_
    refine g_if_eq (pc := 13) 60 dX5_line_13 rfl ?_ ?_
    · exact g_sub [0, 1] rfl (hK1 v1 μ)
    · refine g_aload_n (pc := 16) 0 dX5_line_16 rfl rfl ?_
      refine g_get (pc := 17) rfl foX5_71 (v := .int (μ.1 47 13)) rfl dX5_line_17 ?_
      refine g_aload_n (pc := 20) 0 dX5_line_20 rfl rfl ?_
      refine g_get (pc := 21) rfl foX5_64 (v := .int (μ.1 47 12)) rfl dX5_line_21 ?_
      refine g_join (fun kb => ∀ (m4 : Mem), G kX5_line ad encI 34 [(0, .ref (ad 47))] [] m4 (kb m4)) (fun m4 => ?_) (fun kb3 hkb3 => ?_)
      · refine g_aload_n (pc := 34) 0 dX5_line_34 rfl rfl ?_
        refine g_cVI (pc := 35) (st := []) [] rfl rfl moX5_statement lnX5_106 (ctX5_statement ad n m4) rfl ⟨Nat.le_of_ble_eq_true rfl, Nat.le_of_ble_eq_true rfl⟩ rfl (Nat.le_of_ble_eq_true rfl) dX5_line_35 (fun r6 m5 => ?_)
        refine g_istore_n (pc := 38) [(1, .int r6), (0, .ref (ad 47))] dX5_line_38 rfl (by decide) rfl ?_
        refine g_aload_n (pc := 39) 1 dX5_line_39 rfl rfl ?_
        refine g_dup (pc := 40) dX5_line_40 rfl ?_
        refine g_get (pc := 41) rfl foX5_78 (v := .int (m5.1 47 14)) rfl dX5_line_41 ?_
        refine g_iload_n (pc := 44) 0 dX5_line_44 rfl rfl ?_
        refine g_if_eq (pc := 45) 52 dX5_line_45 rfl ?_ ?_
        · refine g_iconst (pc := 52) 0 dX5_line_52 (by decide) ?_
          refine g_iadd (pc := 53) dX5_line_53 ?_
          refine g_put (pc := 54) rfl foX5_78 fpX5_14 rfl rfl dX5_line_54 (fun m7 => ?_)
          refine g_goto (pc := 57) 12 dX5_line_57 rfl ?_
          exact g_sub [1, 0] rfl (ih r6 m7)
        · refine g_iconst (pc := 48) 1 dX5_line_48 (by decide) ?_
          refine g_goto (pc := 49) 53 dX5_line_49 rfl ?_
          refine g_iadd (pc := 53) dX5_line_53 ?_
          refine g_put (pc := 54) rfl foX5_78 fpX5_14 rfl rfl dX5_line_54 (fun m8 => ?_)
          refine g_goto (pc := 57) 12 dX5_line_57 rfl ?_
          exact g_sub [1, 0] rfl (ih r6 m8)
      ·
        refine g_icmp_lt (pc := 24) 34 dX5_line_24 rfl ?_ ?_
        · exact g_sub [0] rfl (hkb3 μ)
        · refine g_aload_n (pc := 27) 0 dX5_line_27 rfl rfl ?_
          refine g_get (pc := 28) rfl foX5_78 (v := .int (μ.1 47 14)) rfl dX5_line_28 ?_
          refine g_if_ne (pc := 31) 60 dX5_line_31 rfl ?_ ?_
          · exact g_sub [0, 1] rfl (hK1 v1 μ)
          · exact g_sub [0] rfl (hkb3 μ)
set_option maxHeartbeats 4000000 in
set_option maxRecDepth 100000 in
theorem wX5_line_L86 (ad : Nat → Nat) (n : Nat) : ∀ (F : Nat) (v2 : Int32) (μ : Mem), G kX5_line ad encI 86 [(0, .ref (ad 47)), (2, .int v2)] [] μ (fX5_line_L86 n F v2 μ) := by
  intro F
  induction F with
  | zero =>
    intro v2 μ
    exact g_none
  | succ F ih =>
    intro v2 μ
    rw [fX5_line_L86]
    refine g_iload_n (pc := 86) 1 dX5_line_86 rfl rfl ?_
    refine g_aload_n (pc := 87) 0 dX5_line_87 rfl rfl ?_
    refine g_get (pc := 88) rfl foX5_78 (v := .int (μ.1 47 14)) rfl dX5_line_88 ?_
    refine g_icmp_ge (pc := 91) 128 dX5_line_91 rfl ?_ ?_
    · refine g_aload_n (pc := 128) 0 dX5_line_128 rfl rfl ?_
      refine g_get (pc := 129) rfl foX5_78 (v := .int (μ.1 47 14)) rfl dX5_line_129 ?_
      exact g_ireturn (pc := 132) dX5_line_132 rfl
    · refine g_aload_n (pc := 94) 0 dX5_line_94 rfl rfl ?_
      refine g_iload_n (pc := 95) 1 dX5_line_95 rfl rfl ?_
      refine g_cVI (pc := 96) (st := []) [.int v2] rfl rfl moX5_comes lnX5_113 (ctX5_comes ad n v2 μ) rfl ⟨Nat.le_of_ble_eq_true rfl, Nat.le_of_ble_eq_true rfl⟩ rfl (Nat.le_of_ble_eq_true rfl) dX5_line_96 (fun r15 m14 => ?_)
      refine g_if_eq (pc := 99) 105 dX5_line_99 rfl ?_ ?_
      · refine g_aload_n (pc := 105) 0 dX5_line_105 rfl rfl ?_
        refine g_iconst (pc := 106) 1 dX5_line_106 (by decide) ?_
        refine g_iconst (pc := 107) 0 dX5_line_107 (by decide) ?_
        refine g_cVV (pc := 108) (st := []) [.int 1, .int 0] rfl rfl moX5_passesAll lnX5_109 (ctX5_passesAll ad n 1 0 m14) rfl ⟨Nat.le_of_ble_eq_true rfl, Nat.le_of_ble_eq_true rfl⟩ rfl (Nat.le_of_ble_eq_true rfl) dX5_line_108 (fun r17 m16 => ?_)
        refine g_sipush (pc := 111) (-2000) dX5_line_111 (by decide) ?_
        refine g_aload_n (pc := 114) 0 dX5_line_114 rfl rfl ?_
        refine g_get (pc := 115) rfl foX5_28 (v := .ref (ad 54)) rfl dX5_line_115 ?_
        refine g_iload_n (pc := 118) 1 dX5_line_118 rfl rfl ?_
        refine g_iald (pc := 119) rfl (by decide) dX5_line_119 ?_
        refine g_isub (pc := 120) dX5_line_120 ?_
        exact g_ireturn (pc := 121) dX5_line_121 rfl
      · refine g_goto (pc := 102) 122 dX5_line_102 rfl ?_
        refine g_iincB (pc := 122) 1 1 1 (fun x18 => [(2, .int x18), (0, .ref (ad 47))]) dX5_line_122 rfl (by decide) (by decide) (fun _ => rfl) (fun x18 => ?_)
        refine g_goto (pc := 125) 86 dX5_line_125 rfl ?_
        exact g_sub [1, 0] rfl (ih x18 m14)
set_option maxHeartbeats 4000000 in
set_option maxRecDepth 100000 in
theorem ctX5_line (ad : Nat → Nat) (n : Nat) (μ : Mem) : Ct yX5_line kX5_line ad encI [.ref (ad 47)] μ (fX5_line n μ) := Ct.of (by decide +kernel) rfl (Nat.le_of_ble_eq_true rfl) (by
  show G kX5_line ad encI 0 [(0, .ref (ad 47))] [] μ (fX5_line n μ)
  unfold fX5_line
  refine g_aload_n (pc := 0) 0 dX5_line_0 rfl rfl ?_
  refine g_iconst (pc := 1) 0 dX5_line_1 (by decide) ?_
  refine g_put (pc := 2) rfl foX5_71 fpX5_13 rfl rfl dX5_line_2 (fun m1 => ?_)
  refine g_aload_n (pc := 5) 0 dX5_line_5 rfl rfl ?_
  refine g_iconst (pc := 6) 0 dX5_line_6 (by decide) ?_
  refine g_put (pc := 7) rfl foX5_78 fpX5_14 rfl rfl dX5_line_7 (fun m2 => ?_)
  refine g_iconst (pc := 10) 1 dX5_line_10 (by decide) ?_
  refine g_istore_n (pc := 11) [(1, .int 1), (0, .ref (ad 47))] dX5_line_11 rfl (by decide) rfl ?_
  refine g_sub [1, 0] rfl (wX5_line_L12 ad n _ (fun x9 m10 => ?_) n 1 m2)
  refine g_aload_n (pc := 60) 0 dX5_line_60 rfl rfl ?_
  refine g_iconst (pc := 61) 0 dX5_line_61 (by decide) ?_
  refine g_put (pc := 62) rfl foX5_64 fpX5_12 rfl rfl dX5_line_62 (fun m11 => ?_)
  refine g_iload_n (pc := 65) 1 dX5_line_65 rfl rfl ?_
  refine g_if_ne (pc := 66) 78 dX5_line_66 rfl ?_ ?_
  · refine g_aload_n (pc := 78) 0 dX5_line_78 rfl rfl ?_
    refine g_iconst (pc := 79) 1 dX5_line_79 (by decide) ?_
    refine g_iconst (pc := 80) 1 dX5_line_80 (by decide) ?_
    refine g_cVV (pc := 81) (st := []) [.int 1, .int 1] rfl rfl moX5_passesAll lnX5_109 (ctX5_passesAll ad n 1 1 m11) rfl ⟨Nat.le_of_ble_eq_true rfl, Nat.le_of_ble_eq_true rfl⟩ rfl (Nat.le_of_ble_eq_true rfl) dX5_line_81 (fun r13 m12 => ?_)
    refine g_iconst (pc := 84) 0 dX5_line_84 (by decide) ?_
    refine g_istore_n (pc := 85) [(2, .int 0), (0, .ref (ad 47)), (1, .int x9)] dX5_line_85 rfl (by decide) rfl ?_
    exact g_sub [1, 0] rfl (wX5_line_L86 ad n n 0 m12)
  · refine g_sipush (pc := 69) (-1000) dX5_line_69 (by decide) ?_
    refine g_aload_n (pc := 72) 0 dX5_line_72 rfl rfl ?_
    refine g_get (pc := 73) rfl foX5_71 (v := .int (m11.1 47 13)) rfl dX5_line_73 ?_
    refine g_isub (pc := 76) dX5_line_76 ?_
    exact g_ireturn (pc := 77) dX5_line_77 rfl)
-- StopsByLettersModel.image()I
abbrev kX5_image : Cfg := (RX5, cX5_image, 1, (some .int), 2)
theorem dX5_image_0 : decode cX5_image 0 = .ok (.aload_n 0, 1) := by decide +kernel
theorem dX5_image_1 : decode cX5_image 1 = .ok (.iconst 1, 1) := by decide +kernel
theorem dX5_image_2 : decode cX5_image 2 = .ok (.putfield 130, 3) := by decide +kernel
theorem dX5_image_5 : decode cX5_image 5 = .ok (.aload_n 0, 1) := by decide +kernel
theorem dX5_image_6 : decode cX5_image 6 = .ok (.iconst 0, 1) := by decide +kernel
theorem dX5_image_7 : decode cX5_image 7 = .ok (.iconst 1, 1) := by decide +kernel
theorem dX5_image_8 : decode cX5_image 8 = .ok (.invokevirtual 109, 3) := by decide +kernel
theorem dX5_image_11 : decode cX5_image 11 = .ok (.aload_n 0, 1) := by decide +kernel
theorem dX5_image_12 : decode cX5_image 12 = .ok (.getfield 56, 3) := by decide +kernel
theorem dX5_image_15 : decode cX5_image 15 = .ok (.ireturn, 1) := by decide +kernel
theorem foX5_130 : Fo 5 RX5 TX5 23 16 RX5 130 := ⟨rfl, by decide, rfl, uwX5, rfl, Or.inl (tb_in 712 (by decide +kernel) rfl)⟩
theorem fpX5_16 : Fp TX5 23 tyX5 16 := ⟨tyX5_ok, nmX5, rfl⟩
def fX5_image (n : Nat) (μ : Mem) : Option (Int32 × Mem) :=
  bnd (setI μ 47 16 1) (fun m1 => bd (fX5_passesAll n 0 1 m1) (fun r3 m2 => some ((m2.1 47 4), m2)))
set_option maxHeartbeats 4000000 in
set_option maxRecDepth 100000 in
theorem ctX5_image (ad : Nat → Nat) (n : Nat) (μ : Mem) : Ct yX5_image kX5_image ad encI [.ref (ad 47)] μ (fX5_image n μ) := Ct.of (by decide +kernel) rfl (Nat.le_of_ble_eq_true rfl) (by
  show G kX5_image ad encI 0 [(0, .ref (ad 47))] [] μ (fX5_image n μ)
  unfold fX5_image
  refine g_aload_n (pc := 0) 0 dX5_image_0 rfl rfl ?_
  refine g_iconst (pc := 1) 1 dX5_image_1 (by decide) ?_
  refine g_putZ (pc := 2) (by decide) rfl foX5_130 fpX5_16 rfl rfl dX5_image_2 (fun m1 => ?_)
  refine g_aload_n (pc := 5) 0 dX5_image_5 rfl rfl ?_
  refine g_iconst (pc := 6) 0 dX5_image_6 (by decide) ?_
  refine g_iconst (pc := 7) 1 dX5_image_7 (by decide) ?_
  refine g_cVV (pc := 8) (st := []) [.int 0, .int 1] rfl rfl moX5_passesAll lnX5_109 (ctX5_passesAll ad n 0 1 m1) rfl ⟨Nat.le_of_ble_eq_true rfl, Nat.le_of_ble_eq_true rfl⟩ rfl (Nat.le_of_ble_eq_true rfl) dX5_image_8 (fun r3 m2 => ?_)
  refine g_aload_n (pc := 11) 0 dX5_image_11 rfl rfl ?_
  refine g_get (pc := 12) rfl foX5_56 (v := .int (m2.1 47 4)) rfl dX5_image_12 ?_
  exact g_ireturn (pc := 15) dX5_image_15 rfl)
-- StopsByLettersModel.on()I
abbrev kX5_on : Cfg := (RX5, cX5_on, 1, (some .int), 2)
theorem dX5_on_0 : decode cX5_on 0 = .ok (.aload_n 0, 1) := by decide +kernel
theorem dX5_on_1 : decode cX5_on 1 = .ok (.getfield 130, 3) := by decide +kernel
theorem dX5_on_4 : decode cX5_on 4 = .ok (.ifCond .ne 10, 3) := by decide +kernel
theorem dX5_on_7 : decode cX5_on 7 = .ok (.aload_n 0, 1) := by decide +kernel
theorem dX5_on_8 : decode cX5_on 8 = .ok (.bipush (-3), 2) := by decide +kernel
theorem dX5_on_10 : decode cX5_on 10 = .ok (.invokevirtual 67, 3) := by decide +kernel
theorem dX5_on_13 : decode cX5_on 13 = .ok (.ireturn, 1) := by decide +kernel
theorem dX5_on_14 : decode cX5_on 14 = .ok (.aload_n 0, 1) := by decide +kernel
theorem dX5_on_15 : decode cX5_on 15 = .ok (.iconst 0, 1) := by decide +kernel
theorem dX5_on_16 : decode cX5_on 16 = .ok (.iconst 0, 1) := by decide +kernel
theorem dX5_on_17 : decode cX5_on 17 = .ok (.invokevirtual 109, 3) := by decide +kernel
theorem dX5_on_20 : decode cX5_on 20 = .ok (.aload_n 0, 1) := by decide +kernel
theorem dX5_on_21 : decode cX5_on 21 = .ok (.getfield 56, 3) := by decide +kernel
theorem dX5_on_24 : decode cX5_on 24 = .ok (.ireturn, 1) := by decide +kernel
def fX5_on (n : Nat) (μ : Mem) : Option (Int32 × Mem) :=
  if (μ.1 47 16) = 0 then bd (fX5_no n (-3) μ) (fun r4 m3 => some (r4, m3)) else bd (fX5_passesAll n 0 0 μ) (fun r2 m1 => some ((m1.1 47 4), m1))
set_option maxHeartbeats 4000000 in
set_option maxRecDepth 100000 in
theorem ctX5_on (ad : Nat → Nat) (n : Nat) (μ : Mem) : Ct yX5_on kX5_on ad encI [.ref (ad 47)] μ (fX5_on n μ) := Ct.of (by decide +kernel) rfl (Nat.le_of_ble_eq_true rfl) (by
  show G kX5_on ad encI 0 [(0, .ref (ad 47))] [] μ (fX5_on n μ)
  unfold fX5_on
  refine g_aload_n (pc := 0) 0 dX5_on_0 rfl rfl ?_
  refine g_get (pc := 1) rfl foX5_130 (v := .int (μ.1 47 16)) rfl dX5_on_1 ?_
  refine g_if_ne (pc := 4) 14 dX5_on_4 rfl ?_ ?_
  · refine g_aload_n (pc := 14) 0 dX5_on_14 rfl rfl ?_
    refine g_iconst (pc := 15) 0 dX5_on_15 (by decide) ?_
    refine g_iconst (pc := 16) 0 dX5_on_16 (by decide) ?_
    refine g_cVV (pc := 17) (st := []) [.int 0, .int 0] rfl rfl moX5_passesAll lnX5_109 (ctX5_passesAll ad n 0 0 μ) rfl ⟨Nat.le_of_ble_eq_true rfl, Nat.le_of_ble_eq_true rfl⟩ rfl (Nat.le_of_ble_eq_true rfl) dX5_on_17 (fun r2 m1 => ?_)
    refine g_aload_n (pc := 20) 0 dX5_on_20 rfl rfl ?_
    refine g_get (pc := 21) rfl foX5_56 (v := .int (m1.1 47 4)) rfl dX5_on_21 ?_
    exact g_ireturn (pc := 24) dX5_on_24 rfl
  · refine g_aload_n (pc := 7) 0 dX5_on_7 rfl rfl ?_
    refine g_bipush (pc := 8) (-3) dX5_on_8 (by decide) ?_
    refine g_cVI (pc := 10) (st := []) [.int (-3)] rfl rfl moX5_no lnX5_67 (ctX5_no ad n (-3) μ) rfl ⟨Nat.le_of_ble_eq_true rfl, Nat.le_of_ble_eq_true rfl⟩ rfl (Nat.le_of_ble_eq_true rfl) dX5_on_10 (fun r4 m3 => ?_)
    exact g_ireturn (pc := 13) dX5_on_13 rfl)
