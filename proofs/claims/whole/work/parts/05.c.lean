-- StopsByLetters$Sights.append(I)V
abbrev kX1_append : Cfg := (RX1, cX1_append, 2, none, 0)
theorem dX1_append_0 : decode cX1_append 0 = .ok (.aload_n 0, 1) := by decide +kernel
theorem dX1_append_1 : decode cX1_append 1 = .ok (.getfield 15, 3) := by decide +kernel
theorem dX1_append_4 : decode cX1_append 4 = .ok (.aload_n 0, 1) := by decide +kernel
theorem dX1_append_5 : decode cX1_append 5 = .ok (.getfield 9, 3) := by decide +kernel
theorem dX1_append_8 : decode cX1_append 8 = .ok (.arraylength, 1) := by decide +kernel
theorem dX1_append_9 : decode cX1_append 9 = .ok (.if_icmp .lt 4, 3) := by decide +kernel
theorem dX1_append_12 : decode cX1_append 12 = .ok (.return_, 1) := by decide +kernel
theorem dX1_append_13 : decode cX1_append 13 = .ok (.aload_n 0, 1) := by decide +kernel
theorem dX1_append_14 : decode cX1_append 14 = .ok (.getfield 9, 3) := by decide +kernel
theorem dX1_append_17 : decode cX1_append 17 = .ok (.aload_n 0, 1) := by decide +kernel
theorem dX1_append_18 : decode cX1_append 18 = .ok (.getfield 15, 3) := by decide +kernel
theorem dX1_append_21 : decode cX1_append 21 = .ok (.iload_n 1, 1) := by decide +kernel
theorem dX1_append_22 : decode cX1_append 22 = .ok (.iastore, 1) := by decide +kernel
theorem dX1_append_23 : decode cX1_append 23 = .ok (.aload_n 0, 1) := by decide +kernel
theorem dX1_append_24 : decode cX1_append 24 = .ok (.dup, 1) := by decide +kernel
theorem dX1_append_25 : decode cX1_append 25 = .ok (.getfield 15, 3) := by decide +kernel
theorem dX1_append_28 : decode cX1_append 28 = .ok (.iconst 1, 1) := by decide +kernel
theorem dX1_append_29 : decode cX1_append 29 = .ok (.iadd, 1) := by decide +kernel
theorem dX1_append_30 : decode cX1_append 30 = .ok (.putfield 15, 3) := by decide +kernel
theorem dX1_append_33 : decode cX1_append 33 = .ok (.return_, 1) := by decide +kernel
theorem fpX1_1 : Fp TX1 2 tyX1 1 := ⟨tyX1_ok, nmX1, rfl⟩
def fX1_append (n : Nat) (a1 : Int32) (μ : Mem) : Option (Unit × Mem) :=
  if (μ.1 40 1) < 12 then gd (inb (μ.1 40 1) 12) (bnd (setI μ 41 (Int32.toNatClampNeg (μ.1 40 1)) a1) (fun m1 => bnd (setI m1 40 1 ((m1.1 40 1) + 1)) (fun m2 => some ((), m2)))) else some ((), μ)
set_option maxHeartbeats 4000000 in
set_option maxRecDepth 100000 in
theorem ctX1_append (ad : Nat → Nat) (n : Nat) (a1 : Int32) (μ : Mem) : Ct yX1_append kX1_append ad encV [.ref (ad 40), .int a1] μ (fX1_append n a1 μ) := Ct.of (by decide +kernel) rfl (Nat.le_of_ble_eq_true rfl) (by
  show G kX1_append ad encV 0 [(0, .ref (ad 40)), (1, .int a1)] [] μ (fX1_append n a1 μ)
  unfold fX1_append
  refine g_aload_n (pc := 0) 0 dX1_append_0 rfl rfl ?_
  refine g_get (pc := 1) rfl foX1_15 (v := .int (μ.1 40 1)) rfl dX1_append_1 ?_
  refine g_aload_n (pc := 4) 0 dX1_append_4 rfl rfl ?_
  refine g_get (pc := 5) rfl foX1_9 (v := .ref (ad 41)) rfl dX1_append_5 ?_
  refine g_alen (pc := 8) rfl (by decide) (v := 12) rfl dX1_append_8 ?_
  refine g_icmp_lt (pc := 9) 13 dX1_append_9 rfl ?_ ?_
  · refine g_aload_n (pc := 13) 0 dX1_append_13 rfl rfl ?_
    refine g_get (pc := 14) rfl foX1_9 (v := .ref (ad 41)) rfl dX1_append_14 ?_
    refine g_aload_n (pc := 17) 0 dX1_append_17 rfl rfl ?_
    refine g_get (pc := 18) rfl foX1_15 (v := .int (μ.1 40 1)) rfl dX1_append_18 ?_
    refine g_iload_n (pc := 21) 1 dX1_append_21 rfl rfl ?_
    refine g_iast (pc := 22) rfl (by decide) dX1_append_22 (fun m1 => ?_)
    refine g_aload_n (pc := 23) 0 dX1_append_23 rfl rfl ?_
    refine g_dup (pc := 24) dX1_append_24 rfl ?_
    refine g_get (pc := 25) rfl foX1_15 (v := .int (m1.1 40 1)) rfl dX1_append_25 ?_
    refine g_iconst (pc := 28) 1 dX1_append_28 (by decide) ?_
    refine g_iadd (pc := 29) dX1_append_29 ?_
    refine g_put (pc := 30) rfl foX1_15 fpX1_1 rfl rfl dX1_append_30 (fun m2 => ?_)
    exact g_return (pc := 33) dX1_append_33 rfl
  · exact g_return (pc := 12) dX1_append_12 rfl)
-- StopsByLetters$Signs.append(I)V
abbrev kX2_append : Cfg := (RX2, cX2_append, 2, none, 0)
theorem dX2_append_0 : decode cX2_append 0 = .ok (.aload_n 0, 1) := by decide +kernel
theorem dX2_append_1 : decode cX2_append 1 = .ok (.getfield 15, 3) := by decide +kernel
theorem dX2_append_4 : decode cX2_append 4 = .ok (.aload_n 0, 1) := by decide +kernel
theorem dX2_append_5 : decode cX2_append 5 = .ok (.getfield 9, 3) := by decide +kernel
theorem dX2_append_8 : decode cX2_append 8 = .ok (.arraylength, 1) := by decide +kernel
theorem dX2_append_9 : decode cX2_append 9 = .ok (.if_icmp .lt 4, 3) := by decide +kernel
theorem dX2_append_12 : decode cX2_append 12 = .ok (.return_, 1) := by decide +kernel
theorem dX2_append_13 : decode cX2_append 13 = .ok (.aload_n 0, 1) := by decide +kernel
theorem dX2_append_14 : decode cX2_append 14 = .ok (.getfield 9, 3) := by decide +kernel
theorem dX2_append_17 : decode cX2_append 17 = .ok (.aload_n 0, 1) := by decide +kernel
theorem dX2_append_18 : decode cX2_append 18 = .ok (.getfield 15, 3) := by decide +kernel
theorem dX2_append_21 : decode cX2_append 21 = .ok (.iload_n 1, 1) := by decide +kernel
theorem dX2_append_22 : decode cX2_append 22 = .ok (.iastore, 1) := by decide +kernel
theorem dX2_append_23 : decode cX2_append 23 = .ok (.aload_n 0, 1) := by decide +kernel
theorem dX2_append_24 : decode cX2_append 24 = .ok (.dup, 1) := by decide +kernel
theorem dX2_append_25 : decode cX2_append 25 = .ok (.getfield 15, 3) := by decide +kernel
theorem dX2_append_28 : decode cX2_append 28 = .ok (.iconst 1, 1) := by decide +kernel
theorem dX2_append_29 : decode cX2_append 29 = .ok (.iadd, 1) := by decide +kernel
theorem dX2_append_30 : decode cX2_append 30 = .ok (.putfield 15, 3) := by decide +kernel
theorem dX2_append_33 : decode cX2_append 33 = .ok (.return_, 1) := by decide +kernel
theorem foX2_15 : Fo 2 RX2 TX2 2 1 RX2 15 := ⟨rfl, by decide, rfl, uwX2, rfl, Or.inl (tb_in 147 (by decide +kernel) rfl)⟩
theorem foX2_9 : Fo 2 RX2 TX2 2 0 RX2 9 := ⟨rfl, by decide, rfl, uwX2, rfl, Or.inl (tb_in 146 (by decide +kernel) rfl)⟩
theorem fpX2_1 : Fp TX2 2 tyX2 1 := ⟨tyX2_ok, nmX2, rfl⟩
def fX2_append (n : Nat) (a1 : Int32) (μ : Mem) : Option (Unit × Mem) :=
  if (μ.1 38 1) < 96 then gd (inb (μ.1 38 1) 96) (bnd (setI μ 39 (Int32.toNatClampNeg (μ.1 38 1)) a1) (fun m1 => bnd (setI m1 38 1 ((m1.1 38 1) + 1)) (fun m2 => some ((), m2)))) else some ((), μ)
set_option maxHeartbeats 4000000 in
set_option maxRecDepth 100000 in
theorem ctX2_append (ad : Nat → Nat) (n : Nat) (a1 : Int32) (μ : Mem) : Ct yX2_append kX2_append ad encV [.ref (ad 38), .int a1] μ (fX2_append n a1 μ) := Ct.of (by decide +kernel) rfl (Nat.le_of_ble_eq_true rfl) (by
  show G kX2_append ad encV 0 [(0, .ref (ad 38)), (1, .int a1)] [] μ (fX2_append n a1 μ)
  unfold fX2_append
  refine g_aload_n (pc := 0) 0 dX2_append_0 rfl rfl ?_
  refine g_get (pc := 1) rfl foX2_15 (v := .int (μ.1 38 1)) rfl dX2_append_1 ?_
  refine g_aload_n (pc := 4) 0 dX2_append_4 rfl rfl ?_
  refine g_get (pc := 5) rfl foX2_9 (v := .ref (ad 39)) rfl dX2_append_5 ?_
  refine g_alen (pc := 8) rfl (by decide) (v := 96) rfl dX2_append_8 ?_
  refine g_icmp_lt (pc := 9) 13 dX2_append_9 rfl ?_ ?_
  · refine g_aload_n (pc := 13) 0 dX2_append_13 rfl rfl ?_
    refine g_get (pc := 14) rfl foX2_9 (v := .ref (ad 39)) rfl dX2_append_14 ?_
    refine g_aload_n (pc := 17) 0 dX2_append_17 rfl rfl ?_
    refine g_get (pc := 18) rfl foX2_15 (v := .int (μ.1 38 1)) rfl dX2_append_18 ?_
    refine g_iload_n (pc := 21) 1 dX2_append_21 rfl rfl ?_
    refine g_iast (pc := 22) rfl (by decide) dX2_append_22 (fun m1 => ?_)
    refine g_aload_n (pc := 23) 0 dX2_append_23 rfl rfl ?_
    refine g_dup (pc := 24) dX2_append_24 rfl ?_
    refine g_get (pc := 25) rfl foX2_15 (v := .int (m1.1 38 1)) rfl dX2_append_25 ?_
    refine g_iconst (pc := 28) 1 dX2_append_28 (by decide) ?_
    refine g_iadd (pc := 29) dX2_append_29 ?_
    refine g_put (pc := 30) rfl foX2_15 fpX2_1 rfl rfl dX2_append_30 (fun m2 => ?_)
    exact g_return (pc := 33) dX2_append_33 rfl
  · exact g_return (pc := 12) dX2_append_12 rfl)
-- StopsByLetters$Signs.at(I)I
abbrev kX2_at : Cfg := (RX2, cX2_at, 2, (some .int), 0)
theorem dX2_at_0 : decode cX2_at 0 = .ok (.iload_n 1, 1) := by decide +kernel
theorem dX2_at_1 : decode cX2_at 1 = .ok (.ifCond .lt 20, 3) := by decide +kernel
theorem dX2_at_4 : decode cX2_at 4 = .ok (.iload_n 1, 1) := by decide +kernel
theorem dX2_at_5 : decode cX2_at 5 = .ok (.aload_n 0, 1) := by decide +kernel
theorem dX2_at_6 : decode cX2_at 6 = .ok (.getfield 15, 3) := by decide +kernel
theorem dX2_at_9 : decode cX2_at 9 = .ok (.if_icmp .ge 12, 3) := by decide +kernel
theorem dX2_at_12 : decode cX2_at 12 = .ok (.aload_n 0, 1) := by decide +kernel
theorem dX2_at_13 : decode cX2_at 13 = .ok (.getfield 9, 3) := by decide +kernel
theorem dX2_at_16 : decode cX2_at 16 = .ok (.iload_n 1, 1) := by decide +kernel
theorem dX2_at_17 : decode cX2_at 17 = .ok (.iaload, 1) := by decide +kernel
theorem dX2_at_18 : decode cX2_at 18 = .ok (.goto 4, 3) := by decide +kernel
theorem dX2_at_21 : decode cX2_at 21 = .ok (.iconst (-1), 1) := by decide +kernel
theorem dX2_at_22 : decode cX2_at 22 = .ok (.ireturn, 1) := by decide +kernel
def fX2_at (n : Nat) (a1 : Int32) (μ : Mem) : Option (Int32 × Mem) :=
  if a1 < 0 then some ((-1), μ) else if (μ.1 38 1) ≤ a1 then some ((-1), μ) else gd (inb a1 96) (some ((μ.1 39 (Int32.toNatClampNeg a1)), μ))
set_option maxHeartbeats 4000000 in
set_option maxRecDepth 100000 in
theorem ctX2_at (ad : Nat → Nat) (n : Nat) (a1 : Int32) (μ : Mem) : Ct yX2_at kX2_at ad encI [.ref (ad 38), .int a1] μ (fX2_at n a1 μ) := Ct.of (by decide +kernel) rfl (Nat.le_of_ble_eq_true rfl) (by
  show G kX2_at ad encI 0 [(0, .ref (ad 38)), (1, .int a1)] [] μ (fX2_at n a1 μ)
  unfold fX2_at
  refine g_iload_n (pc := 0) 1 dX2_at_0 rfl rfl ?_
  refine g_if_lt (pc := 1) 21 dX2_at_1 rfl ?_ ?_
  · refine g_iconst (pc := 21) (-1) dX2_at_21 (by decide) ?_
    exact g_ireturn (pc := 22) dX2_at_22 rfl
  · refine g_iload_n (pc := 4) 1 dX2_at_4 rfl rfl ?_
    refine g_aload_n (pc := 5) 0 dX2_at_5 rfl rfl ?_
    refine g_get (pc := 6) rfl foX2_15 (v := .int (μ.1 38 1)) rfl dX2_at_6 ?_
    refine g_icmp_ge (pc := 9) 21 dX2_at_9 rfl ?_ ?_
    · refine g_iconst (pc := 21) (-1) dX2_at_21 (by decide) ?_
      exact g_ireturn (pc := 22) dX2_at_22 rfl
    · refine g_aload_n (pc := 12) 0 dX2_at_12 rfl rfl ?_
      refine g_get (pc := 13) rfl foX2_9 (v := .ref (ad 39)) rfl dX2_at_13 ?_
      refine g_iload_n (pc := 16) 1 dX2_at_16 rfl rfl ?_
      refine g_iald (pc := 17) rfl (by decide) dX2_at_17 ?_
      refine g_goto (pc := 18) 22 dX2_at_18 rfl ?_
      exact g_ireturn (pc := 22) dX2_at_22 rfl)
-- StopsByLetters$Signs.begun(I)I
abbrev kX2_begun : Cfg := (RX2, cX2_begun, 1, (some .int), 0)
theorem dX2_begun_0 : decode cX2_begun 0 = .ok (.iload_n 0, 1) := by decide +kernel
theorem dX2_begun_1 : decode cX2_begun 1 = .ok (.bipush 115, 2) := by decide +kernel
theorem dX2_begun_3 : decode cX2_begun 3 = .ok (.if_icmp .ne 5, 3) := by decide +kernel
theorem dX2_begun_6 : decode cX2_begun 6 = .ok (.iconst 1, 1) := by decide +kernel
theorem dX2_begun_7 : decode cX2_begun 7 = .ok (.ireturn, 1) := by decide +kernel
theorem dX2_begun_8 : decode cX2_begun 8 = .ok (.iload_n 0, 1) := by decide +kernel
theorem dX2_begun_9 : decode cX2_begun 9 = .ok (.bipush 110, 2) := by decide +kernel
theorem dX2_begun_11 : decode cX2_begun 11 = .ok (.if_icmp .ne 5, 3) := by decide +kernel
theorem dX2_begun_14 : decode cX2_begun 14 = .ok (.iconst 2, 1) := by decide +kernel
theorem dX2_begun_15 : decode cX2_begun 15 = .ok (.ireturn, 1) := by decide +kernel
theorem dX2_begun_16 : decode cX2_begun 16 = .ok (.iload_n 0, 1) := by decide +kernel
theorem dX2_begun_17 : decode cX2_begun 17 = .ok (.bipush 114, 2) := by decide +kernel
theorem dX2_begun_19 : decode cX2_begun 19 = .ok (.if_icmp .eq 9, 3) := by decide +kernel
theorem dX2_begun_22 : decode cX2_begun 22 = .ok (.iload_n 0, 1) := by decide +kernel
theorem dX2_begun_23 : decode cX2_begun 23 = .ok (.bipush 111, 2) := by decide +kernel
theorem dX2_begun_25 : decode cX2_begun 25 = .ok (.if_icmp .ne 7, 3) := by decide +kernel
theorem dX2_begun_28 : decode cX2_begun 28 = .ok (.iconst 4, 1) := by decide +kernel
theorem dX2_begun_29 : decode cX2_begun 29 = .ok (.goto 4, 3) := by decide +kernel
theorem dX2_begun_32 : decode cX2_begun 32 = .ok (.iconst (-1), 1) := by decide +kernel
theorem dX2_begun_33 : decode cX2_begun 33 = .ok (.ireturn, 1) := by decide +kernel
def fX2_begun (n : Nat) (a0 : Int32) (μ : Mem) : Option (Int32 × Mem) :=
  if a0 = 115 then some (1, μ) else if a0 = 110 then some (2, μ) else if a0 = 114 then some (4, μ) else if a0 = 111 then some (4, μ) else some ((-1), μ)
set_option maxHeartbeats 4000000 in
set_option maxRecDepth 100000 in
theorem ctX2_begun (ad : Nat → Nat) (n : Nat) (a0 : Int32) (μ : Mem) : Ct yX2_begun kX2_begun ad encI [.int a0] μ (fX2_begun n a0 μ) := Ct.of (by decide +kernel) rfl (Nat.le_of_ble_eq_true rfl) (by
  show G kX2_begun ad encI 0 [(0, .int a0)] [] μ (fX2_begun n a0 μ)
  unfold fX2_begun
  refine g_iload_n (pc := 0) 0 dX2_begun_0 rfl rfl ?_
  refine g_bipush (pc := 1) 115 dX2_begun_1 (by decide) ?_
  refine g_icmp_ne (pc := 3) 8 dX2_begun_3 rfl ?_ ?_
  · refine g_iload_n (pc := 8) 0 dX2_begun_8 rfl rfl ?_
    refine g_bipush (pc := 9) 110 dX2_begun_9 (by decide) ?_
    refine g_icmp_ne (pc := 11) 16 dX2_begun_11 rfl ?_ ?_
    · refine g_iload_n (pc := 16) 0 dX2_begun_16 rfl rfl ?_
      refine g_bipush (pc := 17) 114 dX2_begun_17 (by decide) ?_
      refine g_icmp_eq (pc := 19) 28 dX2_begun_19 rfl ?_ ?_
      · refine g_iconst (pc := 28) 4 dX2_begun_28 (by decide) ?_
        refine g_goto (pc := 29) 33 dX2_begun_29 rfl ?_
        exact g_ireturn (pc := 33) dX2_begun_33 rfl
      · refine g_iload_n (pc := 22) 0 dX2_begun_22 rfl rfl ?_
        refine g_bipush (pc := 23) 111 dX2_begun_23 (by decide) ?_
        refine g_icmp_ne (pc := 25) 32 dX2_begun_25 rfl ?_ ?_
        · refine g_iconst (pc := 32) (-1) dX2_begun_32 (by decide) ?_
          exact g_ireturn (pc := 33) dX2_begun_33 rfl
        · refine g_iconst (pc := 28) 4 dX2_begun_28 (by decide) ?_
          refine g_goto (pc := 29) 33 dX2_begun_29 rfl ?_
          exact g_ireturn (pc := 33) dX2_begun_33 rfl
    · refine g_iconst (pc := 14) 2 dX2_begun_14 (by decide) ?_
      exact g_ireturn (pc := 15) dX2_begun_15 rfl
  · refine g_iconst (pc := 6) 1 dX2_begun_6 (by decide) ?_
    exact g_ireturn (pc := 7) dX2_begun_7 rfl)
-- StopsByLetters$Signs.kindOf(I)I
-- StopsByLetters$Signs.named(II)I
abbrev kX2_named : Cfg := (RX2, cX2_named, 3, (some .int), 0)
theorem dX2_named_0 : decode cX2_named 0 = .ok (.iload_n 1, 1) := by decide +kernel
theorem dX2_named_1 : decode cX2_named 1 = .ok (.bipush 59, 2) := by decide +kernel
theorem dX2_named_3 : decode cX2_named 3 = .ok (.if_icmp .ne 15, 3) := by decide +kernel
theorem dX2_named_6 : decode cX2_named 6 = .ok (.iload_n 0, 1) := by decide +kernel
theorem dX2_named_7 : decode cX2_named 7 = .ok (.bipush 10, 2) := by decide +kernel
theorem dX2_named_9 : decode cX2_named 9 = .ok (.if_icmp .le 7, 3) := by decide +kernel
theorem dX2_named_12 : decode cX2_named 12 = .ok (.iconst 0, 1) := by decide +kernel
theorem dX2_named_13 : decode cX2_named 13 = .ok (.goto 4, 3) := by decide +kernel
theorem dX2_named_16 : decode cX2_named 16 = .ok (.iconst (-1), 1) := by decide +kernel
theorem dX2_named_17 : decode cX2_named 17 = .ok (.ireturn, 1) := by decide +kernel
theorem dX2_named_18 : decode cX2_named 18 = .ok (.iload_n 1, 1) := by decide +kernel
theorem dX2_named_19 : decode cX2_named 19 = .ok (.bipush 97, 2) := by decide +kernel
theorem dX2_named_21 : decode cX2_named 21 = .ok (.if_icmp .lt 19, 3) := by decide +kernel
theorem dX2_named_24 : decode cX2_named 24 = .ok (.iload_n 1, 1) := by decide +kernel
theorem dX2_named_25 : decode cX2_named 25 = .ok (.bipush 122, 2) := by decide +kernel
theorem dX2_named_27 : decode cX2_named 27 = .ok (.if_icmp .gt 13, 3) := by decide +kernel
theorem dX2_named_30 : decode cX2_named 30 = .ok (.iload_n 0, 1) := by decide +kernel
theorem dX2_named_31 : decode cX2_named 31 = .ok (.bipush 19, 2) := by decide +kernel
theorem dX2_named_33 : decode cX2_named 33 = .ok (.if_icmp .ge 7, 3) := by decide +kernel
theorem dX2_named_36 : decode cX2_named 36 = .ok (.iconst 1, 1) := by decide +kernel
theorem dX2_named_37 : decode cX2_named 37 = .ok (.goto 4, 3) := by decide +kernel
theorem dX2_named_40 : decode cX2_named 40 = .ok (.iconst 0, 1) := by decide +kernel
theorem dX2_named_41 : decode cX2_named 41 = .ok (.istore_n 2, 1) := by decide +kernel
theorem dX2_named_42 : decode cX2_named 42 = .ok (.iload_n 2, 1) := by decide +kernel
theorem dX2_named_43 : decode cX2_named 43 = .ok (.ifCond .eq 9, 3) := by decide +kernel
theorem dX2_named_46 : decode cX2_named 46 = .ok (.iload_n 0, 1) := by decide +kernel
theorem dX2_named_47 : decode cX2_named 47 = .ok (.iconst 1, 1) := by decide +kernel
theorem dX2_named_48 : decode cX2_named 48 = .ok (.iadd, 1) := by decide +kernel
theorem dX2_named_49 : decode cX2_named 49 = .ok (.goto 4, 3) := by decide +kernel
theorem dX2_named_52 : decode cX2_named 52 = .ok (.iconst (-1), 1) := by decide +kernel
theorem dX2_named_53 : decode cX2_named 53 = .ok (.ireturn, 1) := by decide +kernel
def fX2_named (n : Nat) (a0 : Int32) (a1 : Int32) (μ : Mem) : Option (Int32 × Mem) :=
  if a1 = 59 then if a0 ≤ 10 then some ((-1), μ) else some (0, μ) else bnd (fun (x2 : Int32) (m3 : Mem) => if x2 = 0 then some ((-1), m3) else some ((a0 + 1), m3)) (fun kb1 => bnd (fun (m5 : Mem) => kb1 0 m5) (fun kb4 => if a1 < 97 then kb4 μ else if 122 < a1 then kb4 μ else if 19 ≤ a0 then kb4 μ else kb1 1 μ))
set_option maxHeartbeats 4000000 in
set_option maxRecDepth 100000 in
theorem ctX2_named (ad : Nat → Nat) (n : Nat) (a0 : Int32) (a1 : Int32) (μ : Mem) : Ct yX2_named kX2_named ad encI [.int a0, .int a1] μ (fX2_named n a0 a1 μ) := Ct.of (by decide +kernel) rfl (Nat.le_of_ble_eq_true rfl) (by
  show G kX2_named ad encI 0 [(0, .int a0), (1, .int a1)] [] μ (fX2_named n a0 a1 μ)
  unfold fX2_named
  refine g_iload_n (pc := 0) 1 dX2_named_0 rfl rfl ?_
  refine g_bipush (pc := 1) 59 dX2_named_1 (by decide) ?_
  refine g_icmp_ne (pc := 3) 18 dX2_named_3 rfl ?_ ?_
  · refine g_iload_n (pc := 18) 1 dX2_named_18 rfl rfl ?_
    refine g_bipush (pc := 19) 97 dX2_named_19 (by decide) ?_
    refine g_join (fun kb => ∀ (x2 : Int32) (m3 : Mem), G kX2_named ad encI 41 [(0, .int a0)] [.int x2] m3 (kb x2 m3)) (fun x2 m3 => ?_) (fun kb1 hkb1 => ?_)
    · refine g_istore_n (pc := 41) [(2, .int x2), (0, .int a0)] dX2_named_41 rfl (by decide) rfl ?_
      refine g_iload_n (pc := 42) 0 dX2_named_42 rfl rfl ?_
      refine g_if_eq (pc := 43) 52 dX2_named_43 rfl ?_ ?_
      · refine g_iconst (pc := 52) (-1) dX2_named_52 (by decide) ?_
        exact g_ireturn (pc := 53) dX2_named_53 rfl
      · refine g_iload_n (pc := 46) 1 dX2_named_46 rfl rfl ?_
        refine g_iconst (pc := 47) 1 dX2_named_47 (by decide) ?_
        refine g_iadd (pc := 48) dX2_named_48 ?_
        refine g_goto (pc := 49) 53 dX2_named_49 rfl ?_
        exact g_ireturn (pc := 53) dX2_named_53 rfl
    ·
      refine g_join (fun kb => ∀ (m5 : Mem), G kX2_named ad encI 40 [(0, .int a0)] [] m5 (kb m5)) (fun m5 => ?_) (fun kb4 hkb4 => ?_)
      · refine g_iconst (pc := 40) 0 dX2_named_40 (by decide) ?_
        exact g_sub [0] rfl (hkb1 0 m5)
      ·
        refine g_icmp_lt (pc := 21) 40 dX2_named_21 rfl ?_ ?_
        · exact g_sub [0] rfl (hkb4 μ)
        · refine g_iload_n (pc := 24) 1 dX2_named_24 rfl rfl ?_
          refine g_bipush (pc := 25) 122 dX2_named_25 (by decide) ?_
          refine g_icmp_gt (pc := 27) 40 dX2_named_27 rfl ?_ ?_
          · exact g_sub [0] rfl (hkb4 μ)
          · refine g_iload_n (pc := 30) 0 dX2_named_30 rfl rfl ?_
            refine g_bipush (pc := 31) 19 dX2_named_31 (by decide) ?_
            refine g_icmp_ge (pc := 33) 40 dX2_named_33 rfl ?_ ?_
            · exact g_sub [0] rfl (hkb4 μ)
            · refine g_iconst (pc := 36) 1 dX2_named_36 (by decide) ?_
              refine g_goto (pc := 37) 41 dX2_named_37 rfl ?_
              exact g_sub [0] rfl (hkb1 1 μ)
  · refine g_iload_n (pc := 6) 0 dX2_named_6 rfl rfl ?_
    refine g_bipush (pc := 7) 10 dX2_named_7 (by decide) ?_
    refine g_icmp_le (pc := 9) 16 dX2_named_9 rfl ?_ ?_
    · refine g_iconst (pc := 16) (-1) dX2_named_16 (by decide) ?_
      exact g_ireturn (pc := 17) dX2_named_17 rfl
    · refine g_iconst (pc := 12) 0 dX2_named_12 (by decide) ?_
      refine g_goto (pc := 13) 17 dX2_named_13 rfl ?_
      exact g_ireturn (pc := 17) dX2_named_17 rfl)
-- StopsByLetters$Signs.next(II)I
abbrev kX2_next : Cfg := (RX2, cX2_next, 2, (some .int), 7)
theorem dX2_next_0 : decode cX2_next 0 = .ok (.iload_n 0, 1) := by decide +kernel
theorem dX2_next_1 : decode cX2_next 1 = .ok (.tableswitch 96 0 4 #[35, 40, 53, 71, 84], 35) := by decide +kernel
theorem dX2_next_36 : decode cX2_next 36 = .ok (.iload_n 1, 1) := by decide +kernel
theorem dX2_next_37 : decode cX2_next 37 = .ok (.invokestatic 23, 3) := by decide +kernel
theorem dX2_next_40 : decode cX2_next 40 = .ok (.ireturn, 1) := by decide +kernel
theorem dX2_next_41 : decode cX2_next 41 = .ok (.iload_n 1, 1) := by decide +kernel
theorem dX2_next_42 : decode cX2_next 42 = .ok (.invokestatic 27, 3) := by decide +kernel
theorem dX2_next_45 : decode cX2_next 45 = .ok (.ifCond .lt 7, 3) := by decide +kernel
theorem dX2_next_48 : decode cX2_next 48 = .ok (.iconst 3, 1) := by decide +kernel
theorem dX2_next_49 : decode cX2_next 49 = .ok (.goto 4, 3) := by decide +kernel
theorem dX2_next_52 : decode cX2_next 52 = .ok (.iconst (-1), 1) := by decide +kernel
theorem dX2_next_53 : decode cX2_next 53 = .ok (.ireturn, 1) := by decide +kernel
theorem dX2_next_54 : decode cX2_next 54 = .ok (.iload_n 1, 1) := by decide +kernel
theorem dX2_next_55 : decode cX2_next 55 = .ok (.bipush 48, 2) := by decide +kernel
theorem dX2_next_57 : decode cX2_next 57 = .ok (.if_icmp .lt 13, 3) := by decide +kernel
theorem dX2_next_60 : decode cX2_next 60 = .ok (.iload_n 1, 1) := by decide +kernel
theorem dX2_next_61 : decode cX2_next 61 = .ok (.bipush 57, 2) := by decide +kernel
theorem dX2_next_63 : decode cX2_next 63 = .ok (.if_icmp .gt 7, 3) := by decide +kernel
theorem dX2_next_66 : decode cX2_next 66 = .ok (.iconst 3, 1) := by decide +kernel
theorem dX2_next_67 : decode cX2_next 67 = .ok (.goto 4, 3) := by decide +kernel
theorem dX2_next_70 : decode cX2_next 70 = .ok (.iconst (-1), 1) := by decide +kernel
theorem dX2_next_71 : decode cX2_next 71 = .ok (.ireturn, 1) := by decide +kernel
theorem dX2_next_72 : decode cX2_next 72 = .ok (.iload_n 1, 1) := by decide +kernel
theorem dX2_next_73 : decode cX2_next 73 = .ok (.bipush 61, 2) := by decide +kernel
theorem dX2_next_75 : decode cX2_next 75 = .ok (.if_icmp .ne 8, 3) := by decide +kernel
theorem dX2_next_78 : decode cX2_next 78 = .ok (.bipush 10, 2) := by decide +kernel
theorem dX2_next_80 : decode cX2_next 80 = .ok (.goto 4, 3) := by decide +kernel
theorem dX2_next_83 : decode cX2_next 83 = .ok (.iconst (-1), 1) := by decide +kernel
theorem dX2_next_84 : decode cX2_next 84 = .ok (.ireturn, 1) := by decide +kernel
theorem dX2_next_85 : decode cX2_next 85 = .ok (.iload_n 1, 1) := by decide +kernel
theorem dX2_next_86 : decode cX2_next 86 = .ok (.bipush 59, 2) := by decide +kernel
theorem dX2_next_88 : decode cX2_next 88 = .ok (.if_icmp .ne 7, 3) := by decide +kernel
theorem dX2_next_91 : decode cX2_next 91 = .ok (.iconst 0, 1) := by decide +kernel
theorem dX2_next_92 : decode cX2_next 92 = .ok (.goto 4, 3) := by decide +kernel
theorem dX2_next_95 : decode cX2_next 95 = .ok (.iconst (-1), 1) := by decide +kernel
theorem dX2_next_96 : decode cX2_next 96 = .ok (.ireturn, 1) := by decide +kernel
theorem dX2_next_97 : decode cX2_next 97 = .ok (.iload_n 0, 1) := by decide +kernel
theorem dX2_next_98 : decode cX2_next 98 = .ok (.iload_n 1, 1) := by decide +kernel
theorem dX2_next_99 : decode cX2_next 99 = .ok (.invokestatic 30, 3) := by decide +kernel
theorem dX2_next_102 : decode cX2_next 102 = .ok (.ireturn, 1) := by decide +kernel
theorem lnX2_23 : Ln RX2 23 yX2_begun := Or.inl (tb_in 245 (by decide +kernel) rfl)
theorem moX2_begun : Ms yX2_begun kX2_begun 1 := ⟨⟨tb_in 247 (by decide +kernel) rfl, tb_in 89 (by decide +kernel) rfl, ⟨by decide, by decide⟩, by decide +kernel⟩, tb_in 246 (by decide +kernel) rfl⟩
theorem lnX2_27 : Ln RX2 27 yX2_kindOf := Or.inl (tb_in 248 (by decide +kernel) rfl)
theorem moX2_kindOf : Ms yX2_kindOf kX2_kindOf 1 := ⟨⟨tb_in 250 (by decide +kernel) rfl, tb_in 89 (by decide +kernel) rfl, ⟨by decide, by decide⟩, by decide +kernel⟩, tb_in 249 (by decide +kernel) rfl⟩
theorem lnX2_30 : Ln RX2 30 yX2_named := Or.inl (tb_in 338 (by decide +kernel) rfl)
theorem moX2_named : Ms yX2_named kX2_named 2 := ⟨⟨tb_in 340 (by decide +kernel) rfl, tb_in 89 (by decide +kernel) rfl, ⟨by decide, by decide⟩, by decide +kernel⟩, tb_in 339 (by decide +kernel) rfl⟩
def fX2_next (n : Nat) (a0 : Int32) (a1 : Int32) (μ : Mem) : Option (Int32 × Mem) :=
  bnd a0 (fun sx1 => if sx1 = 0 then bd (fX2_begun n a1 μ) (fun r3 m2 => some (r3, m2)) else if sx1 = 1 then bd (fX2_kindOf n a1 μ) (fun r6 m5 => if r6 < 0 then some ((-1), m5) else some (3, m5)) else if sx1 = 2 then if a1 < 48 then some ((-1), μ) else if 57 < a1 then some ((-1), μ) else some (3, μ) else if sx1 = 3 then if a1 = 61 then some (10, μ) else some ((-1), μ) else if sx1 = 4 then if a1 = 59 then some (0, μ) else some ((-1), μ) else bd (fX2_named n a0 a1 μ) (fun r12 m11 => some (r12, m11)))
set_option maxHeartbeats 4000000 in
set_option maxRecDepth 100000 in
theorem ctX2_next (ad : Nat → Nat) (n : Nat) (a0 : Int32) (a1 : Int32) (μ : Mem) : Ct yX2_next kX2_next ad encI [.int a0, .int a1] μ (fX2_next n a0 a1 μ) := Ct.of (by decide +kernel) rfl (Nat.le_of_ble_eq_true rfl) (by
  show G kX2_next ad encI 0 [(0, .int a0), (1, .int a1)] [] μ (fX2_next n a0 a1 μ)
  unfold fX2_next
  refine g_iload_n (pc := 0) 0 dX2_next_0 rfl rfl ?_
  refine g_swx (fun sx1 => ?_)
  refine g_ite (fun hq => ?_) (fun hs4 => ?_)
  · subst hq
    refine g_tabIn (pc := 1) 36 35 dX2_next_1 (by decide) ?_
    refine g_iload_n (pc := 36) 1 dX2_next_36 rfl rfl ?_
    refine g_cSI (pc := 37) (st := []) [.int a1] moX2_begun lnX2_23 (ctX2_begun ad n a1 μ) rfl ⟨Nat.le_of_ble_eq_true rfl, Nat.le_of_ble_eq_true rfl⟩ rfl (Nat.le_of_ble_eq_true rfl) dX2_next_37 (fun r3 m2 => ?_)
    exact g_ireturn (pc := 40) dX2_next_40 rfl
  ·
    refine g_ite (fun hq => ?_) (fun hs7 => ?_)
    · subst hq
      refine g_tabIn (pc := 1) 41 40 dX2_next_1 (by decide) ?_
      refine g_iload_n (pc := 41) 1 dX2_next_41 rfl rfl ?_
      refine g_cSI (pc := 42) (st := []) [.int a1] moX2_kindOf lnX2_27 (ctX2_kindOf ad n a1 μ) rfl ⟨Nat.le_of_ble_eq_true rfl, Nat.le_of_ble_eq_true rfl⟩ rfl (Nat.le_of_ble_eq_true rfl) dX2_next_42 (fun r6 m5 => ?_)
      refine g_if_lt (pc := 45) 52 dX2_next_45 rfl ?_ ?_
      · refine g_iconst (pc := 52) (-1) dX2_next_52 (by decide) ?_
        exact g_ireturn (pc := 53) dX2_next_53 rfl
      · refine g_iconst (pc := 48) 3 dX2_next_48 (by decide) ?_
        refine g_goto (pc := 49) 53 dX2_next_49 rfl ?_
        exact g_ireturn (pc := 53) dX2_next_53 rfl
    ·
      refine g_ite (fun hq => ?_) (fun hs8 => ?_)
      · subst hq
        refine g_tabIn (pc := 1) 54 53 dX2_next_1 (by decide) ?_
        refine g_iload_n (pc := 54) 1 dX2_next_54 rfl rfl ?_
        refine g_bipush (pc := 55) 48 dX2_next_55 (by decide) ?_
        refine g_icmp_lt (pc := 57) 70 dX2_next_57 rfl ?_ ?_
        · refine g_iconst (pc := 70) (-1) dX2_next_70 (by decide) ?_
          exact g_ireturn (pc := 71) dX2_next_71 rfl
        · refine g_iload_n (pc := 60) 1 dX2_next_60 rfl rfl ?_
          refine g_bipush (pc := 61) 57 dX2_next_61 (by decide) ?_
          refine g_icmp_gt (pc := 63) 70 dX2_next_63 rfl ?_ ?_
          · refine g_iconst (pc := 70) (-1) dX2_next_70 (by decide) ?_
            exact g_ireturn (pc := 71) dX2_next_71 rfl
          · refine g_iconst (pc := 66) 3 dX2_next_66 (by decide) ?_
            refine g_goto (pc := 67) 71 dX2_next_67 rfl ?_
            exact g_ireturn (pc := 71) dX2_next_71 rfl
      ·
        refine g_ite (fun hq => ?_) (fun hs9 => ?_)
        · subst hq
          refine g_tabIn (pc := 1) 72 71 dX2_next_1 (by decide) ?_
          refine g_iload_n (pc := 72) 1 dX2_next_72 rfl rfl ?_
          refine g_bipush (pc := 73) 61 dX2_next_73 (by decide) ?_
          refine g_icmp_ne (pc := 75) 83 dX2_next_75 rfl ?_ ?_
          · refine g_iconst (pc := 83) (-1) dX2_next_83 (by decide) ?_
            exact g_ireturn (pc := 84) dX2_next_84 rfl
          · refine g_bipush (pc := 78) 10 dX2_next_78 (by decide) ?_
            refine g_goto (pc := 80) 84 dX2_next_80 rfl ?_
            exact g_ireturn (pc := 84) dX2_next_84 rfl
        ·
          refine g_ite (fun hq => ?_) (fun hs10 => ?_)
          · subst hq
            refine g_tabIn (pc := 1) 85 84 dX2_next_1 (by decide) ?_
            refine g_iload_n (pc := 85) 1 dX2_next_85 rfl rfl ?_
            refine g_bipush (pc := 86) 59 dX2_next_86 (by decide) ?_
            refine g_icmp_ne (pc := 88) 95 dX2_next_88 rfl ?_ ?_
            · refine g_iconst (pc := 95) (-1) dX2_next_95 (by decide) ?_
              exact g_ireturn (pc := 96) dX2_next_96 rfl
            · refine g_iconst (pc := 91) 0 dX2_next_91 (by decide) ?_
              refine g_goto (pc := 92) 96 dX2_next_92 rfl ?_
              exact g_ireturn (pc := 96) dX2_next_96 rfl
          ·
            refine g_tabD (pc := 1) 97 dX2_next_1 [0, 1, 2, 3, 4] (by decide) ⟨hs4, hs7, hs8, hs9, hs10, trivial⟩ rfl ?_
            refine g_iload_n (pc := 97) 0 dX2_next_97 rfl rfl ?_
            refine g_iload_n (pc := 98) 1 dX2_next_98 rfl rfl ?_
            refine g_cSI (pc := 99) (st := []) [.int a0, .int a1] moX2_named lnX2_30 (ctX2_named ad n a0 a1 μ) rfl ⟨Nat.le_of_ble_eq_true rfl, Nat.le_of_ble_eq_true rfl⟩ rfl (Nat.le_of_ble_eq_true rfl) dX2_next_99 (fun r12 m11 => ?_)
            exact g_ireturn (pc := 102) dX2_next_102 rfl)
-- StopsByLetters$Signs.firstUnreadable()I
abbrev kX2_firstUnreadable : Cfg := (RX2, cX2_firstUnreadable, 3, (some .int), 8)
theorem dX2_firstUnreadable_0 : decode cX2_firstUnreadable 0 = .ok (.iconst 0, 1) := by decide +kernel
theorem dX2_firstUnreadable_1 : decode cX2_firstUnreadable 1 = .ok (.istore_n 1, 1) := by decide +kernel
theorem dX2_firstUnreadable_2 : decode cX2_firstUnreadable 2 = .ok (.iconst 0, 1) := by decide +kernel
theorem dX2_firstUnreadable_3 : decode cX2_firstUnreadable 3 = .ok (.istore_n 2, 1) := by decide +kernel
theorem dX2_firstUnreadable_4 : decode cX2_firstUnreadable 4 = .ok (.iload_n 2, 1) := by decide +kernel
theorem dX2_firstUnreadable_5 : decode cX2_firstUnreadable 5 = .ok (.aload_n 0, 1) := by decide +kernel
theorem dX2_firstUnreadable_6 : decode cX2_firstUnreadable 6 = .ok (.getfield 15, 3) := by decide +kernel
theorem dX2_firstUnreadable_9 : decode cX2_firstUnreadable 9 = .ok (.if_icmp .ge 27, 3) := by decide +kernel
theorem dX2_firstUnreadable_12 : decode cX2_firstUnreadable 12 = .ok (.iload_n 1, 1) := by decide +kernel
theorem dX2_firstUnreadable_13 : decode cX2_firstUnreadable 13 = .ok (.aload_n 0, 1) := by decide +kernel
theorem dX2_firstUnreadable_14 : decode cX2_firstUnreadable 14 = .ok (.getfield 9, 3) := by decide +kernel
theorem dX2_firstUnreadable_17 : decode cX2_firstUnreadable 17 = .ok (.iload_n 2, 1) := by decide +kernel
theorem dX2_firstUnreadable_18 : decode cX2_firstUnreadable 18 = .ok (.iaload, 1) := by decide +kernel
theorem dX2_firstUnreadable_19 : decode cX2_firstUnreadable 19 = .ok (.invokestatic 19, 3) := by decide +kernel
theorem dX2_firstUnreadable_22 : decode cX2_firstUnreadable 22 = .ok (.istore_n 1, 1) := by decide +kernel
theorem dX2_firstUnreadable_23 : decode cX2_firstUnreadable 23 = .ok (.iload_n 1, 1) := by decide +kernel
theorem dX2_firstUnreadable_24 : decode cX2_firstUnreadable 24 = .ok (.iconst (-1), 1) := by decide +kernel
theorem dX2_firstUnreadable_25 : decode cX2_firstUnreadable 25 = .ok (.if_icmp .ne 5, 3) := by decide +kernel
theorem dX2_firstUnreadable_28 : decode cX2_firstUnreadable 28 = .ok (.iload_n 2, 1) := by decide +kernel
theorem dX2_firstUnreadable_29 : decode cX2_firstUnreadable 29 = .ok (.ireturn, 1) := by decide +kernel
theorem dX2_firstUnreadable_30 : decode cX2_firstUnreadable 30 = .ok (.iinc 2 1, 3) := by decide +kernel
theorem dX2_firstUnreadable_33 : decode cX2_firstUnreadable 33 = .ok (.goto (-29), 3) := by decide +kernel
theorem dX2_firstUnreadable_36 : decode cX2_firstUnreadable 36 = .ok (.iload_n 1, 1) := by decide +kernel
theorem dX2_firstUnreadable_37 : decode cX2_firstUnreadable 37 = .ok (.ifCond .ne 14, 3) := by decide +kernel
theorem dX2_firstUnreadable_40 : decode cX2_firstUnreadable 40 = .ok (.aload_n 0, 1) := by decide +kernel
theorem dX2_firstUnreadable_41 : decode cX2_firstUnreadable 41 = .ok (.getfield 15, 3) := by decide +kernel
theorem dX2_firstUnreadable_44 : decode cX2_firstUnreadable 44 = .ok (.ifCond .le 7, 3) := by decide +kernel
theorem dX2_firstUnreadable_47 : decode cX2_firstUnreadable 47 = .ok (.iconst (-1), 1) := by decide +kernel
theorem dX2_firstUnreadable_48 : decode cX2_firstUnreadable 48 = .ok (.goto 7, 3) := by decide +kernel
theorem dX2_firstUnreadable_51 : decode cX2_firstUnreadable 51 = .ok (.aload_n 0, 1) := by decide +kernel
theorem dX2_firstUnreadable_52 : decode cX2_firstUnreadable 52 = .ok (.getfield 15, 3) := by decide +kernel
theorem dX2_firstUnreadable_55 : decode cX2_firstUnreadable 55 = .ok (.ireturn, 1) := by decide +kernel
theorem lnX2_19 : Ln RX2 19 yX2_next := Or.inl (tb_in 242 (by decide +kernel) rfl)
theorem moX2_next : Ms yX2_next kX2_next 2 := ⟨⟨tb_in 244 (by decide +kernel) rfl, tb_in 89 (by decide +kernel) rfl, ⟨by decide, by decide⟩, by decide +kernel⟩, tb_in 243 (by decide +kernel) rfl⟩
def fX2_firstUnreadable_L4 (n : Nat) : Nat → Int32 → Int32 → Mem → Option (Int32 × Mem)
  | 0, _, _, _ => none
  | F + 1, v1, v2, μ => if (μ.1 38 1) ≤ v2 then if v1 = 0 then if (μ.1 38 1) ≤ 0 then some ((μ.1 38 1), μ) else some ((-1), μ) else some ((μ.1 38 1), μ) else gd (inb v2 96) (bd (fX2_next n v1 (μ.1 39 (Int32.toNatClampNeg v2)) μ) (fun r2 m1 => if r2 = (-1) then some (v2, m1) else bnd (v2 + 1) (fun x3 => fX2_firstUnreadable_L4 n F r2 x3 m1)))
def fX2_firstUnreadable (n : Nat) (μ : Mem) : Option (Int32 × Mem) :=
  fX2_firstUnreadable_L4 n n 0 0 μ
set_option maxHeartbeats 4000000 in
set_option maxRecDepth 100000 in
theorem wX2_firstUnreadable_L4 (ad : Nat → Nat) (n : Nat) : ∀ (F : Nat) (v1 : Int32) (v2 : Int32) (μ : Mem), G kX2_firstUnreadable ad encI 4 [(0, .ref (ad 38)), (1, .int v1), (2, .int v2)] [] μ (fX2_firstUnreadable_L4 n F v1 v2 μ) := by
  intro F
  induction F with
  | zero =>
    intro v1 v2 μ
    exact g_none
  | succ F ih =>
    intro v1 v2 μ
    rw [fX2_firstUnreadable_L4]
    refine g_iload_n (pc := 4) 2 dX2_firstUnreadable_4 rfl rfl ?_
    refine g_aload_n (pc := 5) 0 dX2_firstUnreadable_5 rfl rfl ?_
    refine g_get (pc := 6) rfl foX2_15 (v := .int (μ.1 38 1)) rfl dX2_firstUnreadable_6 ?_
    refine g_icmp_ge (pc := 9) 36 dX2_firstUnreadable_9 rfl ?_ ?_
    · refine g_iload_n (pc := 36) 1 dX2_firstUnreadable_36 rfl rfl ?_
      refine g_if_ne (pc := 37) 51 dX2_firstUnreadable_37 rfl ?_ ?_
      · refine g_aload_n (pc := 51) 0 dX2_firstUnreadable_51 rfl rfl ?_
        refine g_get (pc := 52) rfl foX2_15 (v := .int (μ.1 38 1)) rfl dX2_firstUnreadable_52 ?_
        exact g_ireturn (pc := 55) dX2_firstUnreadable_55 rfl
      · refine g_aload_n (pc := 40) 0 dX2_firstUnreadable_40 rfl rfl ?_
        refine g_get (pc := 41) rfl foX2_15 (v := .int (μ.1 38 1)) rfl dX2_firstUnreadable_41 ?_
        refine g_if_le (pc := 44) 51 dX2_firstUnreadable_44 rfl ?_ ?_
        · refine g_aload_n (pc := 51) 0 dX2_firstUnreadable_51 rfl rfl ?_
          refine g_get (pc := 52) rfl foX2_15 (v := .int (μ.1 38 1)) rfl dX2_firstUnreadable_52 ?_
          exact g_ireturn (pc := 55) dX2_firstUnreadable_55 rfl
        · refine g_iconst (pc := 47) (-1) dX2_firstUnreadable_47 (by decide) ?_
          refine g_goto (pc := 48) 55 dX2_firstUnreadable_48 rfl ?_
          exact g_ireturn (pc := 55) dX2_firstUnreadable_55 rfl
    · refine g_iload_n (pc := 12) 1 dX2_firstUnreadable_12 rfl rfl ?_
      refine g_aload_n (pc := 13) 0 dX2_firstUnreadable_13 rfl rfl ?_
      refine g_get (pc := 14) rfl foX2_9 (v := .ref (ad 39)) rfl dX2_firstUnreadable_14 ?_
      refine g_iload_n (pc := 17) 2 dX2_firstUnreadable_17 rfl rfl ?_
      refine g_iald (pc := 18) rfl (by decide) dX2_firstUnreadable_18 ?_
      refine g_cSI (pc := 19) (st := []) [.int v1, .int (μ.1 39 (Int32.toNatClampNeg v2))] moX2_next lnX2_19 (ctX2_next ad n v1 (μ.1 39 (Int32.toNatClampNeg v2)) μ) rfl ⟨Nat.le_of_ble_eq_true rfl, Nat.le_of_ble_eq_true rfl⟩ rfl (Nat.le_of_ble_eq_true rfl) dX2_firstUnreadable_19 (fun r2 m1 => ?_)
      refine g_istore_n (pc := 22) [(1, .int r2), (0, .ref (ad 38)), (2, .int v2)] dX2_firstUnreadable_22 rfl (by decide) rfl ?_
      refine g_iload_n (pc := 23) 0 dX2_firstUnreadable_23 rfl rfl ?_
      refine g_iconst (pc := 24) (-1) dX2_firstUnreadable_24 (by decide) ?_
      refine g_icmp_ne (pc := 25) 30 dX2_firstUnreadable_25 rfl ?_ ?_
      · refine g_iincB (pc := 30) 2 1 1 (fun x3 => [(2, .int x3), (1, .int r2), (0, .ref (ad 38))]) dX2_firstUnreadable_30 rfl (by decide) (by decide) (fun _ => rfl) (fun x3 => ?_)
        refine g_goto (pc := 33) 4 dX2_firstUnreadable_33 rfl ?_
        exact g_sub [2, 1, 0] rfl (ih r2 x3 m1)
      · refine g_iload_n (pc := 28) 2 dX2_firstUnreadable_28 rfl rfl ?_
        exact g_ireturn (pc := 29) dX2_firstUnreadable_29 rfl
set_option maxHeartbeats 4000000 in
set_option maxRecDepth 100000 in
theorem ctX2_firstUnreadable (ad : Nat → Nat) (n : Nat) (μ : Mem) : Ct yX2_firstUnreadable kX2_firstUnreadable ad encI [.ref (ad 38)] μ (fX2_firstUnreadable n μ) := Ct.of (by decide +kernel) rfl (Nat.le_of_ble_eq_true rfl) (by
  show G kX2_firstUnreadable ad encI 0 [(0, .ref (ad 38))] [] μ (fX2_firstUnreadable n μ)
  unfold fX2_firstUnreadable
  refine g_iconst (pc := 0) 0 dX2_firstUnreadable_0 (by decide) ?_
  refine g_istore_n (pc := 1) [(1, .int 0), (0, .ref (ad 38))] dX2_firstUnreadable_1 rfl (by decide) rfl ?_
  refine g_iconst (pc := 2) 0 dX2_firstUnreadable_2 (by decide) ?_
  refine g_istore_n (pc := 3) [(2, .int 0), (1, .int 0), (0, .ref (ad 38))] dX2_firstUnreadable_3 rfl (by decide) rfl ?_
  exact g_sub [2, 1, 0] rfl (wX2_firstUnreadable_L4 ad n n 0 0 μ))
-- StopsByLetters$Stations.takeOne(LStopsByLetters$Stations;II)V
abbrev kX3_takeOne : Cfg := (RX3, cX3_takeOne, 4, none, 1)
theorem dX3_takeOne_0 : decode cX3_takeOne 0 = .ok (.aload_n 0, 1) := by decide +kernel
theorem dX3_takeOne_1 : decode cX3_takeOne 1 = .ok (.getfield 9, 3) := by decide +kernel
theorem dX3_takeOne_4 : decode cX3_takeOne 4 = .ok (.iload_n 3, 1) := by decide +kernel
theorem dX3_takeOne_5 : decode cX3_takeOne 5 = .ok (.aload_n 1, 1) := by decide +kernel
theorem dX3_takeOne_6 : decode cX3_takeOne 6 = .ok (.getfield 9, 3) := by decide +kernel
theorem dX3_takeOne_9 : decode cX3_takeOne 9 = .ok (.iload_n 2, 1) := by decide +kernel
theorem dX3_takeOne_10 : decode cX3_takeOne 10 = .ok (.iaload, 1) := by decide +kernel
theorem dX3_takeOne_11 : decode cX3_takeOne 11 = .ok (.iastore, 1) := by decide +kernel
theorem dX3_takeOne_12 : decode cX3_takeOne 12 = .ok (.aload_n 0, 1) := by decide +kernel
theorem dX3_takeOne_13 : decode cX3_takeOne 13 = .ok (.getfield 15, 3) := by decide +kernel
theorem dX3_takeOne_16 : decode cX3_takeOne 16 = .ok (.iload_n 3, 1) := by decide +kernel
theorem dX3_takeOne_17 : decode cX3_takeOne 17 = .ok (.aload_n 1, 1) := by decide +kernel
theorem dX3_takeOne_18 : decode cX3_takeOne 18 = .ok (.getfield 15, 3) := by decide +kernel
theorem dX3_takeOne_21 : decode cX3_takeOne 21 = .ok (.iload_n 2, 1) := by decide +kernel
theorem dX3_takeOne_22 : decode cX3_takeOne 22 = .ok (.iaload, 1) := by decide +kernel
theorem dX3_takeOne_23 : decode cX3_takeOne 23 = .ok (.iastore, 1) := by decide +kernel
theorem dX3_takeOne_24 : decode cX3_takeOne 24 = .ok (.aload_n 1, 1) := by decide +kernel
theorem dX3_takeOne_25 : decode cX3_takeOne 25 = .ok (.getfield 20, 3) := by decide +kernel
theorem dX3_takeOne_28 : decode cX3_takeOne 28 = .ok (.iload_n 2, 1) := by decide +kernel
theorem dX3_takeOne_29 : decode cX3_takeOne 29 = .ok (.aaload, 1) := by decide +kernel
theorem dX3_takeOne_30 : decode cX3_takeOne 30 = .ok (.iconst 0, 1) := by decide +kernel
theorem dX3_takeOne_31 : decode cX3_takeOne 31 = .ok (.aload_n 0, 1) := by decide +kernel
theorem dX3_takeOne_32 : decode cX3_takeOne 32 = .ok (.getfield 20, 3) := by decide +kernel
theorem dX3_takeOne_35 : decode cX3_takeOne 35 = .ok (.iload_n 3, 1) := by decide +kernel
theorem dX3_takeOne_36 : decode cX3_takeOne 36 = .ok (.aaload, 1) := by decide +kernel
theorem dX3_takeOne_37 : decode cX3_takeOne 37 = .ok (.iconst 0, 1) := by decide +kernel
theorem dX3_takeOne_38 : decode cX3_takeOne 38 = .ok (.bipush 10, 2) := by decide +kernel
theorem dX3_takeOne_40 : decode cX3_takeOne 40 = .ok (.invokestatic 35, 3) := by decide +kernel
theorem dX3_takeOne_43 : decode cX3_takeOne 43 = .ok (.return_, 1) := by decide +kernel
theorem cpw_X3_35 : Cond.methodLink RX3 35 arraycopyName ∈ TB ∧ Cond.native arraycopyName ∈ TB ∧ Cond.static arraycopyName ∈ TB ∧ Cond.initialized "java/lang/System" ∈ TB := ⟨tb_in 349 (by decide +kernel) rfl, tb_in 351 (by decide +kernel) rfl, tb_in 350 (by decide +kernel) rfl, tb_in 99 (by decide +kernel) rfl⟩
def fX3_takeOne (n : Nat) (k0 : Nat) (k1 : Nat) (a2 : Int32) (a3 : Int32) (μ : Mem) : Option (Unit × Mem) :=
  gd (inb a2 8) (gd (inb a3 8) (bnd (setI μ (k0 + 1) (Int32.toNatClampNeg a3) (μ.1 (k1 + 1) (Int32.toNatClampNeg a2))) (fun m1 => gd (inb a2 8) (gd (inb a3 8) (bnd (setI m1 (k0 + 2) (Int32.toNatClampNeg a3) (m1.1 (k1 + 2) (Int32.toNatClampNeg a2))) (fun m2 => gd (inb a2 8) (gd (inb a3 8) (gd (cpok 0 0 10 10 10) (bnd (cpyI m2 ((k1 + 3) + 1 + (Int32.toNatClampNeg a2)) ((k0 + 3) + 1 + (Int32.toNatClampNeg a3)) (Int32.toNatClampNeg 0) (Int32.toNatClampNeg 0) (Int32.toNatClampNeg 10)) (fun m5 => some ((), m5)))))))))))
set_option maxHeartbeats 4000000 in
set_option maxRecDepth 100000 in
theorem ctX3_takeOne (ad : Nat → Nat) (n : Nat) (k0 : Nat) (k1 : Nat) (h0 : St k0) (h1 : St k1) (a2 : Int32) (a3 : Int32) (μ : Mem) : Ct yX3_takeOne kX3_takeOne ad encV [.ref (ad k0), .ref (ad k1), .int a2, .int a3] μ (fX3_takeOne n k0 k1 a2 a3 μ) := Ct.of (by decide +kernel) rfl (Nat.le_of_ble_eq_true rfl) (by
  show G kX3_takeOne ad encV 0 [(0, .ref (ad k0)), (1, .ref (ad k1)), (2, .int a2), (3, .int a3)] [] μ (fX3_takeOne n k0 k1 a2 a3 μ)
  unfold fX3_takeOne
  refine g_aload_n (pc := 0) 0 dX3_takeOne_0 rfl rfl ?_
  refine g_get (pc := 1) (st_o h0) foX3_9 (v := .ref (ad (k0 + 1))) rfl dX3_takeOne_1 ?_
  refine g_iload_n (pc := 4) 3 dX3_takeOne_4 rfl rfl ?_
  refine g_aload_n (pc := 5) 1 dX3_takeOne_5 rfl rfl ?_
  refine g_get (pc := 6) (st_o h1) foX3_9 (v := .ref (ad (k1 + 1))) rfl dX3_takeOne_6 ?_
  refine g_iload_n (pc := 9) 2 dX3_takeOne_9 rfl rfl ?_
  refine g_iald (pc := 10) (st_1 h1) (by decide) dX3_takeOne_10 ?_
  refine g_iast (pc := 11) (st_1 h0) (by decide) dX3_takeOne_11 (fun m1 => ?_)
  refine g_aload_n (pc := 12) 0 dX3_takeOne_12 rfl rfl ?_
  refine g_get (pc := 13) (st_o h0) foX3_15 (v := .ref (ad (k0 + 2))) rfl dX3_takeOne_13 ?_
  refine g_iload_n (pc := 16) 3 dX3_takeOne_16 rfl rfl ?_
  refine g_aload_n (pc := 17) 1 dX3_takeOne_17 rfl rfl ?_
  refine g_get (pc := 18) (st_o h1) foX3_15 (v := .ref (ad (k1 + 2))) rfl dX3_takeOne_18 ?_
  refine g_iload_n (pc := 21) 2 dX3_takeOne_21 rfl rfl ?_
  refine g_iald (pc := 22) (st_2 h1) (by decide) dX3_takeOne_22 ?_
  refine g_iast (pc := 23) (st_2 h0) (by decide) dX3_takeOne_23 (fun m2 => ?_)
  refine g_aload_n (pc := 24) 1 dX3_takeOne_24 rfl rfl ?_
  refine g_get (pc := 25) (st_o h1) foX3_20 (v := .ref (ad (k1 + 3))) rfl dX3_takeOne_25 ?_
  refine g_iload_n (pc := 28) 2 dX3_takeOne_28 rfl rfl ?_
  refine g_aald (pc := 29) (st_3 h1) dX3_takeOne_29 (fun hi3 => ?_)
  refine g_iconst (pc := 30) 0 dX3_takeOne_30 (by decide) ?_
  refine g_aload_n (pc := 31) 0 dX3_takeOne_31 rfl rfl ?_
  refine g_get (pc := 32) (st_o h0) foX3_20 (v := .ref (ad (k0 + 3))) rfl dX3_takeOne_32 ?_
  refine g_iload_n (pc := 35) 3 dX3_takeOne_35 rfl rfl ?_
  refine g_aald (pc := 36) (st_3 h0) dX3_takeOne_36 (fun hi4 => ?_)
  refine g_iconst (pc := 37) 0 dX3_takeOne_37 (by decide) ?_
  refine g_bipush (pc := 38) 10 dX3_takeOne_38 (by decide) ?_
  refine g_copy (pc := 40) rfl (st_i h1 hi3) (by decide) (st_i h0 hi4) (by decide) cpw_X3_35 dX3_takeOne_40 (fun m5 => ?_)
  exact g_return (pc := 43) dX3_takeOne_43 rfl)
-- StopsByLetters$Stations.take(LStopsByLetters$Stations;)V
abbrev kX3_take : Cfg := (RX3, cX3_take, 3, none, 2)
theorem dX3_take_0 : decode cX3_take 0 = .ok (.aload_n 0, 1) := by decide +kernel
theorem dX3_take_1 : decode cX3_take 1 = .ok (.aload_n 1, 1) := by decide +kernel
theorem dX3_take_2 : decode cX3_take 2 = .ok (.getfield 23, 3) := by decide +kernel
theorem dX3_take_5 : decode cX3_take 5 = .ok (.putfield 23, 3) := by decide +kernel
theorem dX3_take_8 : decode cX3_take 8 = .ok (.aload_n 0, 1) := by decide +kernel
theorem dX3_take_9 : decode cX3_take 9 = .ok (.aload_n 1, 1) := by decide +kernel
theorem dX3_take_10 : decode cX3_take 10 = .ok (.getfield 27, 3) := by decide +kernel
theorem dX3_take_13 : decode cX3_take 13 = .ok (.putfield 27, 3) := by decide +kernel
theorem dX3_take_16 : decode cX3_take 16 = .ok (.iconst 0, 1) := by decide +kernel
theorem dX3_take_17 : decode cX3_take 17 = .ok (.istore_n 2, 1) := by decide +kernel
theorem dX3_take_18 : decode cX3_take 18 = .ok (.iload_n 2, 1) := by decide +kernel
theorem dX3_take_19 : decode cX3_take 19 = .ok (.aload_n 0, 1) := by decide +kernel
theorem dX3_take_20 : decode cX3_take 20 = .ok (.getfield 23, 3) := by decide +kernel
theorem dX3_take_23 : decode cX3_take 23 = .ok (.if_icmp .ge 16, 3) := by decide +kernel
theorem dX3_take_26 : decode cX3_take 26 = .ok (.aload_n 0, 1) := by decide +kernel
theorem dX3_take_27 : decode cX3_take 27 = .ok (.aload_n 1, 1) := by decide +kernel
theorem dX3_take_28 : decode cX3_take 28 = .ok (.iload_n 2, 1) := by decide +kernel
theorem dX3_take_29 : decode cX3_take 29 = .ok (.iload_n 2, 1) := by decide +kernel
theorem dX3_take_30 : decode cX3_take 30 = .ok (.invokevirtual 31, 3) := by decide +kernel
theorem dX3_take_33 : decode cX3_take 33 = .ok (.iinc 2 1, 3) := by decide +kernel
theorem dX3_take_36 : decode cX3_take 36 = .ok (.goto (-18), 3) := by decide +kernel
theorem dX3_take_39 : decode cX3_take 39 = .ok (.return_, 1) := by decide +kernel
theorem fpX3_3 : Fp TX3 5 tyX3 3 := ⟨tyX3_ok, nmX3, rfl⟩
theorem fpX3_4 : Fp TX3 5 tyX3 4 := ⟨tyX3_ok, nmX3, rfl⟩
theorem lnX3_31 : Ln RX3 31 yX3_takeOne := Or.inl (tb_in 345 (by decide +kernel) rfl)
theorem moX3_takeOne : Mv yX3_takeOne kX3_takeOne 3 := ⟨⟨tb_in 348 (by decide +kernel) rfl, tb_in 88 (by decide +kernel) rfl, ⟨by decide, by decide⟩, by decide +kernel⟩, tb_in 347 (by decide +kernel) rfl, tb_in 5 (by decide +kernel) rfl⟩
def fX3_take_L18 (n : Nat) (k0 : Nat) (k1 : Nat) : Nat → Int32 → Mem → Option (Unit × Mem)
  | 0, _, _ => none
  | F + 1, v2, μ => if (μ.1 k0 3) ≤ v2 then some ((), μ) else bd (fX3_takeOne n k0 k1 v2 v2 μ) (fun r4 m3 => bnd (v2 + 1) (fun x5 => fX3_take_L18 n k0 k1 F x5 m3))
def fX3_take (n : Nat) (k0 : Nat) (k1 : Nat) (μ : Mem) : Option (Unit × Mem) :=
  bnd (setI μ k0 3 (μ.1 k1 3)) (fun m1 => gd (isB (m1.1 k1 4)) (bnd (setI m1 k0 4 (m1.1 k1 4)) (fun m2 => fX3_take_L18 n k0 k1 n 0 m2)))
set_option maxHeartbeats 4000000 in
set_option maxRecDepth 100000 in
theorem wX3_take_L18 (ad : Nat → Nat) (n : Nat) (k0 : Nat) (k1 : Nat) (h0 : St k0) (h1 : St k1) : ∀ (F : Nat) (v2 : Int32) (μ : Mem), G kX3_take ad encV 18 [(0, .ref (ad k0)), (1, .ref (ad k1)), (2, .int v2)] [] μ (fX3_take_L18 n k0 k1 F v2 μ) := by
  intro F
  induction F with
  | zero =>
    intro v2 μ
    exact g_none
  | succ F ih =>
    intro v2 μ
    rw [fX3_take_L18]
    refine g_iload_n (pc := 18) 2 dX3_take_18 rfl rfl ?_
    refine g_aload_n (pc := 19) 0 dX3_take_19 rfl rfl ?_
    refine g_get (pc := 20) (st_o h0) foX3_23 (v := .int (μ.1 k0 3)) rfl dX3_take_20 ?_
    refine g_icmp_ge (pc := 23) 39 dX3_take_23 rfl ?_ ?_
    · exact g_return (pc := 39) dX3_take_39 rfl
    · refine g_aload_n (pc := 26) 0 dX3_take_26 rfl rfl ?_
      refine g_aload_n (pc := 27) 1 dX3_take_27 rfl rfl ?_
      refine g_iload_n (pc := 28) 2 dX3_take_28 rfl rfl ?_
      refine g_iload_n (pc := 29) 2 dX3_take_29 rfl rfl ?_
      refine g_cVV (pc := 30) (st := []) [.ref (ad k1), .int v2, .int v2] (st_o h0) rfl moX3_takeOne lnX3_31 (ctX3_takeOne ad n k0 k1 h0 h1 v2 v2 μ) rfl ⟨Nat.le_of_ble_eq_true rfl, Nat.le_of_ble_eq_true rfl⟩ rfl (Nat.le_of_ble_eq_true rfl) dX3_take_30 (fun r4 m3 => ?_)
      refine g_iincB (pc := 33) 2 1 1 (fun x5 => [(2, .int x5), (0, .ref (ad k0)), (1, .ref (ad k1))]) dX3_take_33 rfl (by decide) (by decide) (fun _ => rfl) (fun x5 => ?_)
      refine g_goto (pc := 36) 18 dX3_take_36 rfl ?_
      exact g_sub [1, 2, 0] rfl (ih x5 m3)
set_option maxHeartbeats 4000000 in
set_option maxRecDepth 100000 in
theorem ctX3_take (ad : Nat → Nat) (n : Nat) (k0 : Nat) (k1 : Nat) (h0 : St k0) (h1 : St k1) (μ : Mem) : Ct yX3_take kX3_take ad encV [.ref (ad k0), .ref (ad k1)] μ (fX3_take n k0 k1 μ) := Ct.of (by decide +kernel) rfl (Nat.le_of_ble_eq_true rfl) (by
  show G kX3_take ad encV 0 [(0, .ref (ad k0)), (1, .ref (ad k1))] [] μ (fX3_take n k0 k1 μ)
  unfold fX3_take
  refine g_aload_n (pc := 0) 0 dX3_take_0 rfl rfl ?_
  refine g_aload_n (pc := 1) 1 dX3_take_1 rfl rfl ?_
  refine g_get (pc := 2) (st_o h1) foX3_23 (v := .int (μ.1 k1 3)) rfl dX3_take_2 ?_
  refine g_put (pc := 5) (st_o h0) foX3_23 fpX3_3 rfl rfl dX3_take_5 (fun m1 => ?_)
  refine g_aload_n (pc := 8) 0 dX3_take_8 rfl rfl ?_
  refine g_aload_n (pc := 9) 1 dX3_take_9 rfl rfl ?_
  refine g_get (pc := 10) (st_o h1) foX3_27 (v := .int (m1.1 k1 4)) rfl dX3_take_10 ?_
  refine g_putZG (pc := 13) (st_o h0) foX3_27 fpX3_4 rfl rfl dX3_take_13 (fun m2 => ?_)
  refine g_iconst (pc := 16) 0 dX3_take_16 (by decide) ?_
  refine g_istore_n (pc := 17) [(2, .int 0), (0, .ref (ad k0)), (1, .ref (ad k1))] dX3_take_17 rfl (by decide) rfl ?_
  exact g_sub [1, 2, 0] rfl (wX3_take_L18 ad n k0 k1 h0 h1 n 0 m2))
-- StopsByLetters$Stations.rename(ILStopsByLetters$Signs;II)Z
abbrev kX3_rename : Cfg := (RX3, cX3_rename, 7, (some .boolean), 1)
theorem dX3_rename_0 : decode cX3_rename 0 = .ok (.iload 4, 2) := by decide +kernel
theorem dX3_rename_2 : decode cX3_rename 2 = .ok (.iload_n 3, 1) := by decide +kernel
theorem dX3_rename_3 : decode cX3_rename 3 = .ok (.isub, 1) := by decide +kernel
theorem dX3_rename_4 : decode cX3_rename 4 = .ok (.istore 5, 2) := by decide +kernel
theorem dX3_rename_6 : decode cX3_rename 6 = .ok (.aload_n 0, 1) := by decide +kernel
theorem dX3_rename_7 : decode cX3_rename 7 = .ok (.iload_n 1, 1) := by decide +kernel
theorem dX3_rename_8 : decode cX3_rename 8 = .ok (.invokevirtual 58, 3) := by decide +kernel
theorem dX3_rename_11 : decode cX3_rename 11 = .ok (.ifCond .eq 16, 3) := by decide +kernel
theorem dX3_rename_14 : decode cX3_rename 14 = .ok (.iload 5, 2) := by decide +kernel
theorem dX3_rename_16 : decode cX3_rename 16 = .ok (.iconst 1, 1) := by decide +kernel
theorem dX3_rename_17 : decode cX3_rename 17 = .ok (.if_icmp .lt 10, 3) := by decide +kernel
theorem dX3_rename_20 : decode cX3_rename 20 = .ok (.iload 5, 2) := by decide +kernel
theorem dX3_rename_22 : decode cX3_rename 22 = .ok (.bipush 9, 2) := by decide +kernel
theorem dX3_rename_24 : decode cX3_rename 24 = .ok (.if_icmp .le 5, 3) := by decide +kernel
theorem dX3_rename_27 : decode cX3_rename 27 = .ok (.iconst 0, 1) := by decide +kernel
theorem dX3_rename_28 : decode cX3_rename 28 = .ok (.ireturn, 1) := by decide +kernel
theorem dX3_rename_29 : decode cX3_rename 29 = .ok (.iconst 0, 1) := by decide +kernel
theorem dX3_rename_30 : decode cX3_rename 30 = .ok (.istore 6, 2) := by decide +kernel
theorem dX3_rename_32 : decode cX3_rename 32 = .ok (.iload 6, 2) := by decide +kernel
theorem dX3_rename_34 : decode cX3_rename 34 = .ok (.iload 5, 2) := by decide +kernel
theorem dX3_rename_36 : decode cX3_rename 36 = .ok (.if_icmp .ge 29, 3) := by decide +kernel
theorem dX3_rename_39 : decode cX3_rename 39 = .ok (.aload_n 0, 1) := by decide +kernel
theorem dX3_rename_40 : decode cX3_rename 40 = .ok (.getfield 20, 3) := by decide +kernel
theorem dX3_rename_43 : decode cX3_rename 43 = .ok (.iload_n 1, 1) := by decide +kernel
theorem dX3_rename_44 : decode cX3_rename 44 = .ok (.aaload, 1) := by decide +kernel
theorem dX3_rename_45 : decode cX3_rename 45 = .ok (.iload 6, 2) := by decide +kernel
theorem dX3_rename_47 : decode cX3_rename 47 = .ok (.aload_n 2, 1) := by decide +kernel
theorem dX3_rename_48 : decode cX3_rename 48 = .ok (.iload_n 3, 1) := by decide +kernel
theorem dX3_rename_49 : decode cX3_rename 49 = .ok (.iload 6, 2) := by decide +kernel
theorem dX3_rename_51 : decode cX3_rename 51 = .ok (.iadd, 1) := by decide +kernel
theorem dX3_rename_52 : decode cX3_rename 52 = .ok (.invokevirtual 41, 3) := by decide +kernel
theorem dX3_rename_55 : decode cX3_rename 55 = .ok (.bipush 97, 2) := by decide +kernel
theorem dX3_rename_57 : decode cX3_rename 57 = .ok (.isub, 1) := by decide +kernel
theorem dX3_rename_58 : decode cX3_rename 58 = .ok (.iastore, 1) := by decide +kernel
theorem dX3_rename_59 : decode cX3_rename 59 = .ok (.iinc 6 1, 3) := by decide +kernel
theorem dX3_rename_62 : decode cX3_rename 62 = .ok (.goto (-30), 3) := by decide +kernel
theorem dX3_rename_65 : decode cX3_rename 65 = .ok (.aload_n 0, 1) := by decide +kernel
theorem dX3_rename_66 : decode cX3_rename 66 = .ok (.getfield 15, 3) := by decide +kernel
theorem dX3_rename_69 : decode cX3_rename 69 = .ok (.iload_n 1, 1) := by decide +kernel
theorem dX3_rename_70 : decode cX3_rename 70 = .ok (.iload 5, 2) := by decide +kernel
theorem dX3_rename_72 : decode cX3_rename 72 = .ok (.iastore, 1) := by decide +kernel
theorem dX3_rename_73 : decode cX3_rename 73 = .ok (.iconst 1, 1) := by decide +kernel
theorem dX3_rename_74 : decode cX3_rename 74 = .ok (.ireturn, 1) := by decide +kernel
theorem lnX3_41 : Ln RX3 41 yX2_at := Or.inr ⟨RX4, nt_in 360 (by decide +kernel) rfl⟩
theorem moX2_at : Mv yX2_at kX2_at 1 := ⟨⟨tb_in 355 (by decide +kernel) rfl, tb_in 89 (by decide +kernel) rfl, ⟨by decide, by decide⟩, by decide +kernel⟩, tb_in 354 (by decide +kernel) rfl, tb_in 6 (by decide +kernel) rfl⟩
def fX3_rename_L32 (n : Nat) (k0 : Nat) (v1 : Int32) (v3 : Int32) (v5 : Int32) : Nat → Int32 → Mem → Option (Int32 × Mem)
  | 0, _, _ => none
  | F + 1, v6, μ => if v5 ≤ v6 then gd (inb v1 8) (bnd (setI μ (k0 + 2) (Int32.toNatClampNeg v1) v5) (fun m4 => some (1, m4))) else gd (inb v1 8) (bd (fX2_at n (v3 + v6) μ) (fun r7 m6 => gd (inb v6 10) (bnd (setI m6 ((k0 + 3) + 1 + (Int32.toNatClampNeg v1)) (Int32.toNatClampNeg v6) (r7 - 97)) (fun m8 => bnd (v6 + 1) (fun x9 => fX3_rename_L32 n k0 v1 v3 v5 F x9 m8)))))
def fX3_rename (n : Nat) (k0 : Nat) (a1 : Int32) (a3 : Int32) (a4 : Int32) (μ : Mem) : Option (Int32 × Mem) :=
  bnd (a4 - a3) (fun x1 => bd (fX3_has n k0 a1 μ) (fun r3 m2 => if r3 = 0 then some (0, m2) else if x1 < 1 then some (0, m2) else if x1 ≤ 9 then fX3_rename_L32 n k0 a1 a3 x1 n 0 m2 else some (0, m2)))
set_option maxHeartbeats 4000000 in
set_option maxRecDepth 100000 in
theorem wX3_rename_L32 (ad : Nat → Nat) (n : Nat) (k0 : Nat) (h0 : St k0) (v1 : Int32) (v3 : Int32) (v5 : Int32) : ∀ (F : Nat) (v6 : Int32) (μ : Mem), G kX3_rename ad encI 32 [(0, .ref (ad k0)), (1, .int v1), (2, .ref (ad 38)), (3, .int v3), (5, .int v5), (6, .int v6)] [] μ (fX3_rename_L32 n k0 v1 v3 v5 F v6 μ) := by
  intro F
  induction F with
  | zero =>
    intro v6 μ
    exact g_none
  | succ F ih =>
    intro v6 μ
    rw [fX3_rename_L32]
    refine g_iload (pc := 32) 5 dX3_rename_32 rfl ?_
    refine g_iload (pc := 34) 4 dX3_rename_34 rfl ?_
    refine g_icmp_ge (pc := 36) 65 dX3_rename_36 rfl ?_ ?_
    · refine g_aload_n (pc := 65) 0 dX3_rename_65 rfl rfl ?_
      refine g_get (pc := 66) (st_o h0) foX3_15 (v := .ref (ad (k0 + 2))) rfl dX3_rename_66 ?_
      refine g_iload_n (pc := 69) 1 dX3_rename_69 rfl rfl ?_
      refine g_iload (pc := 70) 4 dX3_rename_70 rfl ?_
      refine g_iast (pc := 72) (st_2 h0) (by decide) dX3_rename_72 (fun m4 => ?_)
      refine g_iconst (pc := 73) 1 dX3_rename_73 (by decide) ?_
      exact g_zreturn (pc := 74) (by decide) dX3_rename_74 rfl
    · refine g_aload_n (pc := 39) 0 dX3_rename_39 rfl rfl ?_
      refine g_get (pc := 40) (st_o h0) foX3_20 (v := .ref (ad (k0 + 3))) rfl dX3_rename_40 ?_
      refine g_iload_n (pc := 43) 1 dX3_rename_43 rfl rfl ?_
      refine g_aald (pc := 44) (st_3 h0) dX3_rename_44 (fun hi5 => ?_)
      refine g_iload (pc := 45) 5 dX3_rename_45 rfl ?_
      refine g_aload_n (pc := 47) 2 dX3_rename_47 rfl rfl ?_
      refine g_iload_n (pc := 48) 3 dX3_rename_48 rfl rfl ?_
      refine g_iload (pc := 49) 5 dX3_rename_49 rfl ?_
      refine g_iadd (pc := 51) dX3_rename_51 ?_
      refine g_cVI (pc := 52) (st := [.int v6, .ref (ad ((k0 + 3) + 1 + (Int32.toNatClampNeg v1)))]) [.int (v3 + v6)] rfl rfl moX2_at lnX3_41 (ctX2_at ad n (v3 + v6) μ) rfl ⟨Nat.le_of_ble_eq_true rfl, Nat.le_of_ble_eq_true rfl⟩ rfl (Nat.le_of_ble_eq_true rfl) dX3_rename_52 (fun r7 m6 => ?_)
      refine g_bipush (pc := 55) 97 dX3_rename_55 (by decide) ?_
      refine g_isub (pc := 57) dX3_rename_57 ?_
      refine g_iast (pc := 58) (st_i h0 hi5) (by decide) dX3_rename_58 (fun m8 => ?_)
      refine g_iincB (pc := 59) 5 1 1 (fun x9 => [(6, .int x9), (0, .ref (ad k0)), (1, .int v1), (2, .ref (ad 38)), (3, .int v3), (5, .int v5)]) dX3_rename_59 rfl (by decide) (by decide) (fun _ => rfl) (fun x9 => ?_)
      refine g_goto (pc := 62) 32 dX3_rename_62 rfl ?_
      exact g_sub [1, 2, 3, 4, 5, 0] rfl (ih x9 m8)
set_option maxHeartbeats 4000000 in
set_option maxRecDepth 100000 in
theorem ctX3_rename (ad : Nat → Nat) (n : Nat) (k0 : Nat) (h0 : St k0) (a1 : Int32) (a3 : Int32) (a4 : Int32) (μ : Mem) : Ct yX3_rename kX3_rename ad encI [.ref (ad k0), .int a1, .ref (ad 38), .int a3, .int a4] μ (fX3_rename n k0 a1 a3 a4 μ) := Ct.of (by decide +kernel) rfl (Nat.le_of_ble_eq_true rfl) (by
  show G kX3_rename ad encI 0 [(0, .ref (ad k0)), (1, .int a1), (2, .ref (ad 38)), (3, .int a3), (4, .int a4)] [] μ (fX3_rename n k0 a1 a3 a4 μ)
  unfold fX3_rename
  refine g_iload (pc := 0) 4 dX3_rename_0 rfl ?_
  refine g_iload_n (pc := 2) 3 dX3_rename_2 rfl rfl ?_
  refine g_isub (pc := 3) dX3_rename_3 ?_
  refine g_istoreB (pc := 4) (fun x1 => [(5, .int x1), (0, .ref (ad k0)), (1, .int a1), (2, .ref (ad 38)), (3, .int a3), (4, .int a4)]) dX3_rename_4 (by decide) (fun _ => rfl) (fun x1 => ?_)
  refine g_aload_n (pc := 6) 1 dX3_rename_6 rfl rfl ?_
  refine g_iload_n (pc := 7) 2 dX3_rename_7 rfl rfl ?_
  refine g_cVI (pc := 8) (st := []) [.int a1] (st_o h0) rfl moX3_has lnX3_58 (ctX3_has ad n k0 h0 a1 μ) rfl ⟨Nat.le_of_ble_eq_true rfl, Nat.le_of_ble_eq_true rfl⟩ rfl (Nat.le_of_ble_eq_true rfl) dX3_rename_8 (fun r3 m2 => ?_)
  refine g_if_eq (pc := 11) 27 dX3_rename_11 rfl ?_ ?_
  · refine g_iconst (pc := 27) 0 dX3_rename_27 (by decide) ?_
    exact g_zreturn (pc := 28) (by decide) dX3_rename_28 rfl
  · refine g_iload (pc := 14) 0 dX3_rename_14 rfl ?_
    refine g_iconst (pc := 16) 1 dX3_rename_16 (by decide) ?_
    refine g_icmp_lt (pc := 17) 27 dX3_rename_17 rfl ?_ ?_
    · refine g_iconst (pc := 27) 0 dX3_rename_27 (by decide) ?_
      exact g_zreturn (pc := 28) (by decide) dX3_rename_28 rfl
    · refine g_iload (pc := 20) 0 dX3_rename_20 rfl ?_
      refine g_bipush (pc := 22) 9 dX3_rename_22 (by decide) ?_
      refine g_icmp_le (pc := 24) 29 dX3_rename_24 rfl ?_ ?_
      · refine g_iconst (pc := 29) 0 dX3_rename_29 (by decide) ?_
        refine g_istore (pc := 30) [(6, .int 0), (5, .int x1), (0, .ref (ad k0)), (1, .int a1), (2, .ref (ad 38)), (3, .int a3), (4, .int a4)] dX3_rename_30 (by decide) rfl ?_
        exact g_sub [2, 3, 4, 5, 1, 0] rfl (wX3_rename_L32 ad n k0 h0 a1 a3 x1 n 0 m2)
      · refine g_iconst (pc := 27) 0 dX3_rename_27 (by decide) ?_
        exact g_zreturn (pc := 28) (by decide) dX3_rename_28 rfl)
-- StopsByLetters$Stations.append(LStopsByLetters$Signs;II)Z
abbrev kX3_append : Cfg := (RX3, cX3_append, 5, (some .boolean), 7)
theorem dX3_append_0 : decode cX3_append 0 = .ok (.aload_n 1, 1) := by decide +kernel
theorem dX3_append_1 : decode cX3_append 1 = .ok (.iload_n 2, 1) := by decide +kernel
theorem dX3_append_2 : decode cX3_append 2 = .ok (.iconst 1, 1) := by decide +kernel
theorem dX3_append_3 : decode cX3_append 3 = .ok (.iadd, 1) := by decide +kernel
theorem dX3_append_4 : decode cX3_append 4 = .ok (.invokevirtual 41, 3) := by decide +kernel
theorem dX3_append_7 : decode cX3_append 7 = .ok (.invokestatic 55, 3) := by decide +kernel
theorem dX3_append_10 : decode cX3_append 10 = .ok (.istore 4, 2) := by decide +kernel
theorem dX3_append_12 : decode cX3_append 12 = .ok (.aload_n 0, 1) := by decide +kernel
theorem dX3_append_13 : decode cX3_append 13 = .ok (.getfield 23, 3) := by decide +kernel
theorem dX3_append_16 : decode cX3_append 16 = .ok (.bipush 8, 2) := by decide +kernel
theorem dX3_append_18 : decode cX3_append 18 = .ok (.if_icmp .ge 8, 3) := by decide +kernel
theorem dX3_append_21 : decode cX3_append 21 = .ok (.iload 4, 2) := by decide +kernel
theorem dX3_append_23 : decode cX3_append 23 = .ok (.ifCond .ge 5, 3) := by decide +kernel
theorem dX3_append_26 : decode cX3_append 26 = .ok (.iconst 0, 1) := by decide +kernel
theorem dX3_append_27 : decode cX3_append 27 = .ok (.ireturn, 1) := by decide +kernel
theorem dX3_append_28 : decode cX3_append 28 = .ok (.aload_n 0, 1) := by decide +kernel
theorem dX3_append_29 : decode cX3_append 29 = .ok (.getfield 9, 3) := by decide +kernel
theorem dX3_append_32 : decode cX3_append 32 = .ok (.aload_n 0, 1) := by decide +kernel
theorem dX3_append_33 : decode cX3_append 33 = .ok (.getfield 23, 3) := by decide +kernel
theorem dX3_append_36 : decode cX3_append 36 = .ok (.iload 4, 2) := by decide +kernel
theorem dX3_append_38 : decode cX3_append 38 = .ok (.iastore, 1) := by decide +kernel
theorem dX3_append_39 : decode cX3_append 39 = .ok (.aload_n 0, 1) := by decide +kernel
theorem dX3_append_40 : decode cX3_append 40 = .ok (.dup, 1) := by decide +kernel
theorem dX3_append_41 : decode cX3_append 41 = .ok (.getfield 23, 3) := by decide +kernel
theorem dX3_append_44 : decode cX3_append 44 = .ok (.iconst 1, 1) := by decide +kernel
theorem dX3_append_45 : decode cX3_append 45 = .ok (.iadd, 1) := by decide +kernel
theorem dX3_append_46 : decode cX3_append 46 = .ok (.putfield 23, 3) := by decide +kernel
theorem dX3_append_49 : decode cX3_append 49 = .ok (.aload_n 0, 1) := by decide +kernel
theorem dX3_append_50 : decode cX3_append 50 = .ok (.aload_n 0, 1) := by decide +kernel
theorem dX3_append_51 : decode cX3_append 51 = .ok (.getfield 23, 3) := by decide +kernel
theorem dX3_append_54 : decode cX3_append 54 = .ok (.iconst 1, 1) := by decide +kernel
theorem dX3_append_55 : decode cX3_append 55 = .ok (.isub, 1) := by decide +kernel
theorem dX3_append_56 : decode cX3_append 56 = .ok (.aload_n 1, 1) := by decide +kernel
theorem dX3_append_57 : decode cX3_append 57 = .ok (.iload_n 2, 1) := by decide +kernel
theorem dX3_append_58 : decode cX3_append 58 = .ok (.iconst 3, 1) := by decide +kernel
theorem dX3_append_59 : decode cX3_append 59 = .ok (.iadd, 1) := by decide +kernel
theorem dX3_append_60 : decode cX3_append 60 = .ok (.iload_n 3, 1) := by decide +kernel
theorem dX3_append_61 : decode cX3_append 61 = .ok (.invokevirtual 51, 3) := by decide +kernel
theorem dX3_append_64 : decode cX3_append 64 = .ok (.ireturn, 1) := by decide +kernel
theorem lnX3_51 : Ln RX3 51 yX3_rename := Or.inl (tb_in 366 (by decide +kernel) rfl)
theorem moX3_rename : Mv yX3_rename kX3_rename 4 := ⟨⟨tb_in 369 (by decide +kernel) rfl, tb_in 88 (by decide +kernel) rfl, ⟨by decide, by decide⟩, by decide +kernel⟩, tb_in 368 (by decide +kernel) rfl, tb_in 9 (by decide +kernel) rfl⟩
theorem lnX3_55 : Ln RX3 55 yX2_kindOf := Or.inr ⟨RX4, nt_in 365 (by decide +kernel) rfl⟩
def fX3_append (n : Nat) (k0 : Nat) (a2 : Int32) (a3 : Int32) (μ : Mem) : Option (Int32 × Mem) :=
  bd (fX2_at n (a2 + 1) μ) (fun r2 m1 => bd (fX2_kindOf n r2 m1) (fun r4 m3 => if 8 ≤ (m3.1 k0 3) then some (0, m3) else if 0 ≤ r4 then gd (inb (m3.1 k0 3) 8) (bnd (setI m3 (k0 + 1) (Int32.toNatClampNeg (m3.1 k0 3)) r4) (fun m5 => bnd (setI m5 k0 3 ((m5.1 k0 3) + 1)) (fun m6 => bd (fX3_rename n k0 ((m6.1 k0 3) - 1) (a2 + 3) a3 m6) (fun r8 m7 => gd (isB r8) (some (r8, m7)))))) else some (0, m3)))
set_option maxHeartbeats 4000000 in
set_option maxRecDepth 100000 in
theorem ctX3_append (ad : Nat → Nat) (n : Nat) (k0 : Nat) (h0 : St k0) (a2 : Int32) (a3 : Int32) (μ : Mem) : Ct yX3_append kX3_append ad encI [.ref (ad k0), .ref (ad 38), .int a2, .int a3] μ (fX3_append n k0 a2 a3 μ) := Ct.of (by decide +kernel) rfl (Nat.le_of_ble_eq_true rfl) (by
  show G kX3_append ad encI 0 [(0, .ref (ad k0)), (1, .ref (ad 38)), (2, .int a2), (3, .int a3)] [] μ (fX3_append n k0 a2 a3 μ)
  unfold fX3_append
  refine g_aload_n (pc := 0) 1 dX3_append_0 rfl rfl ?_
  refine g_iload_n (pc := 1) 2 dX3_append_1 rfl rfl ?_
  refine g_iconst (pc := 2) 1 dX3_append_2 (by decide) ?_
  refine g_iadd (pc := 3) dX3_append_3 ?_
  refine g_cVI (pc := 4) (st := []) [.int (a2 + 1)] rfl rfl moX2_at lnX3_41 (ctX2_at ad n (a2 + 1) μ) rfl ⟨Nat.le_of_ble_eq_true rfl, Nat.le_of_ble_eq_true rfl⟩ rfl (Nat.le_of_ble_eq_true rfl) dX3_append_4 (fun r2 m1 => ?_)
  refine g_cSI (pc := 7) (st := []) [.int r2] moX2_kindOf lnX3_55 (ctX2_kindOf ad n r2 m1) rfl ⟨Nat.le_of_ble_eq_true rfl, Nat.le_of_ble_eq_true rfl⟩ rfl (Nat.le_of_ble_eq_true rfl) dX3_append_7 (fun r4 m3 => ?_)
  refine g_istore (pc := 10) [(4, .int r4), (0, .ref (ad k0)), (1, .ref (ad 38)), (2, .int a2), (3, .int a3)] dX3_append_10 (by decide) rfl ?_
  refine g_aload_n (pc := 12) 1 dX3_append_12 rfl rfl ?_
  refine g_get (pc := 13) (st_o h0) foX3_23 (v := .int (m3.1 k0 3)) rfl dX3_append_13 ?_
  refine g_bipush (pc := 16) 8 dX3_append_16 (by decide) ?_
  refine g_icmp_ge (pc := 18) 26 dX3_append_18 rfl ?_ ?_
  · refine g_iconst (pc := 26) 0 dX3_append_26 (by decide) ?_
    exact g_zreturn (pc := 27) (by decide) dX3_append_27 rfl
  · refine g_iload (pc := 21) 0 dX3_append_21 rfl ?_
    refine g_if_ge (pc := 23) 28 dX3_append_23 rfl ?_ ?_
    · refine g_aload_n (pc := 28) 1 dX3_append_28 rfl rfl ?_
      refine g_get (pc := 29) (st_o h0) foX3_9 (v := .ref (ad (k0 + 1))) rfl dX3_append_29 ?_
      refine g_aload_n (pc := 32) 1 dX3_append_32 rfl rfl ?_
      refine g_get (pc := 33) (st_o h0) foX3_23 (v := .int (m3.1 k0 3)) rfl dX3_append_33 ?_
      refine g_iload (pc := 36) 0 dX3_append_36 rfl ?_
      refine g_iast (pc := 38) (st_1 h0) (by decide) dX3_append_38 (fun m5 => ?_)
      refine g_aload_n (pc := 39) 1 dX3_append_39 rfl rfl ?_
      refine g_dup (pc := 40) dX3_append_40 rfl ?_
      refine g_get (pc := 41) (st_o h0) foX3_23 (v := .int (m5.1 k0 3)) rfl dX3_append_41 ?_
      refine g_iconst (pc := 44) 1 dX3_append_44 (by decide) ?_
      refine g_iadd (pc := 45) dX3_append_45 ?_
      refine g_put (pc := 46) (st_o h0) foX3_23 fpX3_3 rfl rfl dX3_append_46 (fun m6 => ?_)
      refine g_aload_n (pc := 49) 1 dX3_append_49 rfl rfl ?_
      refine g_aload_n (pc := 50) 1 dX3_append_50 rfl rfl ?_
      refine g_get (pc := 51) (st_o h0) foX3_23 (v := .int (m6.1 k0 3)) rfl dX3_append_51 ?_
      refine g_iconst (pc := 54) 1 dX3_append_54 (by decide) ?_
      refine g_isub (pc := 55) dX3_append_55 ?_
      refine g_aload_n (pc := 56) 2 dX3_append_56 rfl rfl ?_
      refine g_iload_n (pc := 57) 3 dX3_append_57 rfl rfl ?_
      refine g_iconst (pc := 58) 3 dX3_append_58 (by decide) ?_
      refine g_iadd (pc := 59) dX3_append_59 ?_
      refine g_iload_n (pc := 60) 4 dX3_append_60 rfl rfl ?_
      refine g_cVI (pc := 61) (st := []) [.int ((m6.1 k0 3) - 1), .ref (ad 38), .int (a2 + 3), .int a3] (st_o h0) rfl moX3_rename lnX3_51 (ctX3_rename ad n k0 h0 ((m6.1 k0 3) - 1) (a2 + 3) a3 m6) rfl ⟨Nat.le_of_ble_eq_true rfl, Nat.le_of_ble_eq_true rfl⟩ rfl (Nat.le_of_ble_eq_true rfl) dX3_append_61 (fun r8 m7 => ?_)
      exact g_zreturnG (pc := 64) dX3_append_64 rfl
    · refine g_iconst (pc := 26) 0 dX3_append_26 (by decide) ?_
      exact g_zreturn (pc := 27) (by decide) dX3_append_27 rfl)
-- StopsByLetters$Stations.obey(LStopsByLetters$Signs;II)Z
abbrev kX3_obey : Cfg := (RX3, cX3_obey, 5, (some .boolean), 8)
theorem dX3_obey_0 : decode cX3_obey 0 = .ok (.aload_n 1, 1) := by decide +kernel
theorem dX3_obey_1 : decode cX3_obey 1 = .ok (.iload_n 2, 1) := by decide +kernel
theorem dX3_obey_2 : decode cX3_obey 2 = .ok (.invokevirtual 41, 3) := by decide +kernel
theorem dX3_obey_5 : decode cX3_obey 5 = .ok (.istore 4, 2) := by decide +kernel
theorem dX3_obey_7 : decode cX3_obey 7 = .ok (.iload 4, 2) := by decide +kernel
theorem dX3_obey_9 : decode cX3_obey 9 = .ok (.bipush 115, 2) := by decide +kernel
theorem dX3_obey_11 : decode cX3_obey 11 = .ok (.if_icmp .ne 11, 3) := by decide +kernel
theorem dX3_obey_14 : decode cX3_obey 14 = .ok (.aload_n 0, 1) := by decide +kernel
theorem dX3_obey_15 : decode cX3_obey 15 = .ok (.aload_n 1, 1) := by decide +kernel
theorem dX3_obey_16 : decode cX3_obey 16 = .ok (.iload_n 2, 1) := by decide +kernel
theorem dX3_obey_17 : decode cX3_obey 17 = .ok (.iload_n 3, 1) := by decide +kernel
theorem dX3_obey_18 : decode cX3_obey 18 = .ok (.invokevirtual 47, 3) := by decide +kernel
theorem dX3_obey_21 : decode cX3_obey 21 = .ok (.ireturn, 1) := by decide +kernel
theorem dX3_obey_22 : decode cX3_obey 22 = .ok (.iload 4, 2) := by decide +kernel
theorem dX3_obey_24 : decode cX3_obey 24 = .ok (.bipush 110, 2) := by decide +kernel
theorem dX3_obey_26 : decode cX3_obey 26 = .ok (.if_icmp .ne 23, 3) := by decide +kernel
theorem dX3_obey_29 : decode cX3_obey 29 = .ok (.aload_n 0, 1) := by decide +kernel
theorem dX3_obey_30 : decode cX3_obey 30 = .ok (.aload_n 1, 1) := by decide +kernel
theorem dX3_obey_31 : decode cX3_obey 31 = .ok (.iload_n 2, 1) := by decide +kernel
theorem dX3_obey_32 : decode cX3_obey 32 = .ok (.iconst 1, 1) := by decide +kernel
theorem dX3_obey_33 : decode cX3_obey 33 = .ok (.iadd, 1) := by decide +kernel
theorem dX3_obey_34 : decode cX3_obey 34 = .ok (.invokevirtual 41, 3) := by decide +kernel
theorem dX3_obey_37 : decode cX3_obey 37 = .ok (.bipush 48, 2) := by decide +kernel
theorem dX3_obey_39 : decode cX3_obey 39 = .ok (.isub, 1) := by decide +kernel
theorem dX3_obey_40 : decode cX3_obey 40 = .ok (.aload_n 1, 1) := by decide +kernel
theorem dX3_obey_41 : decode cX3_obey 41 = .ok (.iload_n 2, 1) := by decide +kernel
theorem dX3_obey_42 : decode cX3_obey 42 = .ok (.iconst 3, 1) := by decide +kernel
theorem dX3_obey_43 : decode cX3_obey 43 = .ok (.iadd, 1) := by decide +kernel
theorem dX3_obey_44 : decode cX3_obey 44 = .ok (.iload_n 3, 1) := by decide +kernel
theorem dX3_obey_45 : decode cX3_obey 45 = .ok (.invokevirtual 51, 3) := by decide +kernel
theorem dX3_obey_48 : decode cX3_obey 48 = .ok (.ireturn, 1) := by decide +kernel
theorem dX3_obey_49 : decode cX3_obey 49 = .ok (.aload_n 0, 1) := by decide +kernel
theorem dX3_obey_50 : decode cX3_obey 50 = .ok (.iload 4, 2) := by decide +kernel
theorem dX3_obey_52 : decode cX3_obey 52 = .ok (.bipush 114, 2) := by decide +kernel
theorem dX3_obey_54 : decode cX3_obey 54 = .ok (.if_icmp .ne 7, 3) := by decide +kernel
theorem dX3_obey_57 : decode cX3_obey 57 = .ok (.iconst 1, 1) := by decide +kernel
theorem dX3_obey_58 : decode cX3_obey 58 = .ok (.goto 4, 3) := by decide +kernel
theorem dX3_obey_61 : decode cX3_obey 61 = .ok (.iconst 0, 1) := by decide +kernel
theorem dX3_obey_62 : decode cX3_obey 62 = .ok (.putfield 27, 3) := by decide +kernel
theorem dX3_obey_65 : decode cX3_obey 65 = .ok (.iconst 1, 1) := by decide +kernel
theorem dX3_obey_66 : decode cX3_obey 66 = .ok (.ireturn, 1) := by decide +kernel
theorem lnX3_47 : Ln RX3 47 yX3_append := Or.inl (tb_in 361 (by decide +kernel) rfl)
theorem moX3_append : Mv yX3_append kX3_append 3 := ⟨⟨tb_in 364 (by decide +kernel) rfl, tb_in 88 (by decide +kernel) rfl, ⟨by decide, by decide⟩, by decide +kernel⟩, tb_in 363 (by decide +kernel) rfl, tb_in 8 (by decide +kernel) rfl⟩
def fX3_obey (n : Nat) (k0 : Nat) (a2 : Int32) (a3 : Int32) (μ : Mem) : Option (Int32 × Mem) :=
  bd (fX2_at n a2 μ) (fun r2 m1 => if r2 = 115 then bd (fX3_append n k0 a2 a3 m1) (fun r10 m9 => gd (isB r10) (some (r10, m9))) else if r2 = 110 then bd (fX2_at n (a2 + 1) m1) (fun r6 m5 => bd (fX3_rename n k0 (r6 - 48) (a2 + 3) a3 m5) (fun r8 m7 => gd (isB r8) (some (r8, m7)))) else if r2 = 114 then bnd (setI m1 k0 4 1) (fun m4 => some (1, m4)) else bnd (setI m1 k0 4 0) (fun m3 => some (1, m3)))
set_option maxHeartbeats 4000000 in
set_option maxRecDepth 100000 in
theorem ctX3_obey (ad : Nat → Nat) (n : Nat) (k0 : Nat) (h0 : St k0) (a2 : Int32) (a3 : Int32) (μ : Mem) : Ct yX3_obey kX3_obey ad encI [.ref (ad k0), .ref (ad 38), .int a2, .int a3] μ (fX3_obey n k0 a2 a3 μ) := Ct.of (by decide +kernel) rfl (Nat.le_of_ble_eq_true rfl) (by
  show G kX3_obey ad encI 0 [(0, .ref (ad k0)), (1, .ref (ad 38)), (2, .int a2), (3, .int a3)] [] μ (fX3_obey n k0 a2 a3 μ)
  unfold fX3_obey
  refine g_aload_n (pc := 0) 1 dX3_obey_0 rfl rfl ?_
  refine g_iload_n (pc := 1) 2 dX3_obey_1 rfl rfl ?_
  refine g_cVI (pc := 2) (st := []) [.int a2] rfl rfl moX2_at lnX3_41 (ctX2_at ad n a2 μ) rfl ⟨Nat.le_of_ble_eq_true rfl, Nat.le_of_ble_eq_true rfl⟩ rfl (Nat.le_of_ble_eq_true rfl) dX3_obey_2 (fun r2 m1 => ?_)
  refine g_istore (pc := 5) [(4, .int r2), (0, .ref (ad k0)), (1, .ref (ad 38)), (2, .int a2), (3, .int a3)] dX3_obey_5 (by decide) rfl ?_
  refine g_iload (pc := 7) 0 dX3_obey_7 rfl ?_
  refine g_bipush (pc := 9) 115 dX3_obey_9 (by decide) ?_
  refine g_icmp_ne (pc := 11) 22 dX3_obey_11 rfl ?_ ?_
  · refine g_iload (pc := 22) 0 dX3_obey_22 rfl ?_
    refine g_bipush (pc := 24) 110 dX3_obey_24 (by decide) ?_
    refine g_icmp_ne (pc := 26) 49 dX3_obey_26 rfl ?_ ?_
    · refine g_aload_n (pc := 49) 1 dX3_obey_49 rfl rfl ?_
      refine g_iload (pc := 50) 0 dX3_obey_50 rfl ?_
      refine g_bipush (pc := 52) 114 dX3_obey_52 (by decide) ?_
      refine g_icmp_ne (pc := 54) 61 dX3_obey_54 rfl ?_ ?_
      · refine g_iconst (pc := 61) 0 dX3_obey_61 (by decide) ?_
        refine g_putZ (pc := 62) (by decide) (st_o h0) foX3_27 fpX3_4 rfl rfl dX3_obey_62 (fun m3 => ?_)
        refine g_iconst (pc := 65) 1 dX3_obey_65 (by decide) ?_
        exact g_zreturn (pc := 66) (by decide) dX3_obey_66 rfl
      · refine g_iconst (pc := 57) 1 dX3_obey_57 (by decide) ?_
        refine g_goto (pc := 58) 62 dX3_obey_58 rfl ?_
        refine g_putZ (pc := 62) (by decide) (st_o h0) foX3_27 fpX3_4 rfl rfl dX3_obey_62 (fun m4 => ?_)
        refine g_iconst (pc := 65) 1 dX3_obey_65 (by decide) ?_
        exact g_zreturn (pc := 66) (by decide) dX3_obey_66 rfl
    · refine g_aload_n (pc := 29) 1 dX3_obey_29 rfl rfl ?_
      refine g_aload_n (pc := 30) 2 dX3_obey_30 rfl rfl ?_
      refine g_iload_n (pc := 31) 3 dX3_obey_31 rfl rfl ?_
      refine g_iconst (pc := 32) 1 dX3_obey_32 (by decide) ?_
      refine g_iadd (pc := 33) dX3_obey_33 ?_
      refine g_cVI (pc := 34) (st := [.ref (ad k0)]) [.int (a2 + 1)] rfl rfl moX2_at lnX3_41 (ctX2_at ad n (a2 + 1) m1) rfl ⟨Nat.le_of_ble_eq_true rfl, Nat.le_of_ble_eq_true rfl⟩ rfl (Nat.le_of_ble_eq_true rfl) dX3_obey_34 (fun r6 m5 => ?_)
      refine g_bipush (pc := 37) 48 dX3_obey_37 (by decide) ?_
      refine g_isub (pc := 39) dX3_obey_39 ?_
      refine g_aload_n (pc := 40) 2 dX3_obey_40 rfl rfl ?_
      refine g_iload_n (pc := 41) 3 dX3_obey_41 rfl rfl ?_
      refine g_iconst (pc := 42) 3 dX3_obey_42 (by decide) ?_
      refine g_iadd (pc := 43) dX3_obey_43 ?_
      refine g_iload_n (pc := 44) 4 dX3_obey_44 rfl rfl ?_
      refine g_cVI (pc := 45) (st := []) [.int (r6 - 48), .ref (ad 38), .int (a2 + 3), .int a3] (st_o h0) rfl moX3_rename lnX3_51 (ctX3_rename ad n k0 h0 (r6 - 48) (a2 + 3) a3 m5) rfl ⟨Nat.le_of_ble_eq_true rfl, Nat.le_of_ble_eq_true rfl⟩ rfl (Nat.le_of_ble_eq_true rfl) dX3_obey_45 (fun r8 m7 => ?_)
      exact g_zreturnG (pc := 48) dX3_obey_48 rfl
  · refine g_aload_n (pc := 14) 1 dX3_obey_14 rfl rfl ?_
    refine g_aload_n (pc := 15) 2 dX3_obey_15 rfl rfl ?_
    refine g_iload_n (pc := 16) 3 dX3_obey_16 rfl rfl ?_
    refine g_iload_n (pc := 17) 4 dX3_obey_17 rfl rfl ?_
    refine g_cVI (pc := 18) (st := []) [.ref (ad 38), .int a2, .int a3] (st_o h0) rfl moX3_append lnX3_47 (ctX3_append ad n k0 h0 a2 a3 m1) rfl ⟨Nat.le_of_ble_eq_true rfl, Nat.le_of_ble_eq_true rfl⟩ rfl (Nat.le_of_ble_eq_true rfl) dX3_obey_18 (fun r10 m9 => ?_)
    exact g_zreturnG (pc := 21) dX3_obey_21 rfl)
-- StopsByLetters$Stations.spell(II)V
abbrev kX3_spell : Cfg := (RX3, cX3_spell, 4, none, 1)
theorem dX3_spell_0 : decode cX3_spell 0 = .ok (.aload_n 0, 1) := by decide +kernel
theorem dX3_spell_1 : decode cX3_spell 1 = .ok (.iload_n 1, 1) := by decide +kernel
theorem dX3_spell_2 : decode cX3_spell 2 = .ok (.invokevirtual 58, 3) := by decide +kernel
theorem dX3_spell_5 : decode cX3_spell 5 = .ok (.ifCond .eq 14, 3) := by decide +kernel
theorem dX3_spell_8 : decode cX3_spell 8 = .ok (.iload_n 2, 1) := by decide +kernel
theorem dX3_spell_9 : decode cX3_spell 9 = .ok (.iconst 1, 1) := by decide +kernel
theorem dX3_spell_10 : decode cX3_spell 10 = .ok (.if_icmp .lt 9, 3) := by decide +kernel
theorem dX3_spell_13 : decode cX3_spell 13 = .ok (.iload_n 2, 1) := by decide +kernel
theorem dX3_spell_14 : decode cX3_spell 14 = .ok (.bipush 9, 2) := by decide +kernel
theorem dX3_spell_16 : decode cX3_spell 16 = .ok (.if_icmp .le 4, 3) := by decide +kernel
theorem dX3_spell_19 : decode cX3_spell 19 = .ok (.return_, 1) := by decide +kernel
theorem dX3_spell_20 : decode cX3_spell 20 = .ok (.iconst 0, 1) := by decide +kernel
theorem dX3_spell_21 : decode cX3_spell 21 = .ok (.istore_n 3, 1) := by decide +kernel
theorem dX3_spell_22 : decode cX3_spell 22 = .ok (.iload_n 3, 1) := by decide +kernel
theorem dX3_spell_23 : decode cX3_spell 23 = .ok (.iload_n 2, 1) := by decide +kernel
theorem dX3_spell_24 : decode cX3_spell 24 = .ok (.if_icmp .ge 18, 3) := by decide +kernel
theorem dX3_spell_27 : decode cX3_spell 27 = .ok (.aload_n 0, 1) := by decide +kernel
theorem dX3_spell_28 : decode cX3_spell 28 = .ok (.getfield 20, 3) := by decide +kernel
theorem dX3_spell_31 : decode cX3_spell 31 = .ok (.iload_n 1, 1) := by decide +kernel
theorem dX3_spell_32 : decode cX3_spell 32 = .ok (.aaload, 1) := by decide +kernel
theorem dX3_spell_33 : decode cX3_spell 33 = .ok (.iload_n 3, 1) := by decide +kernel
theorem dX3_spell_34 : decode cX3_spell 34 = .ok (.iconst 0, 1) := by decide +kernel
theorem dX3_spell_35 : decode cX3_spell 35 = .ok (.iastore, 1) := by decide +kernel
theorem dX3_spell_36 : decode cX3_spell 36 = .ok (.iinc 3 1, 3) := by decide +kernel
theorem dX3_spell_39 : decode cX3_spell 39 = .ok (.goto (-17), 3) := by decide +kernel
theorem dX3_spell_42 : decode cX3_spell 42 = .ok (.aload_n 0, 1) := by decide +kernel
theorem dX3_spell_43 : decode cX3_spell 43 = .ok (.getfield 15, 3) := by decide +kernel
theorem dX3_spell_46 : decode cX3_spell 46 = .ok (.iload_n 1, 1) := by decide +kernel
theorem dX3_spell_47 : decode cX3_spell 47 = .ok (.iload_n 2, 1) := by decide +kernel
theorem dX3_spell_48 : decode cX3_spell 48 = .ok (.iastore, 1) := by decide +kernel
theorem dX3_spell_49 : decode cX3_spell 49 = .ok (.return_, 1) := by decide +kernel
def fX3_spell_L22 (n : Nat) (k0 : Nat) (v1 : Int32) (v2 : Int32) : Nat → Int32 → Mem → Option (Unit × Mem)
  | 0, _, _ => none
  | F + 1, v3, μ => if v2 ≤ v3 then gd (inb v1 8) (bnd (setI μ (k0 + 2) (Int32.toNatClampNeg v1) v2) (fun m3 => some ((), m3))) else gd (inb v1 8) (gd (inb v3 10) (bnd (setI μ ((k0 + 3) + 1 + (Int32.toNatClampNeg v1)) (Int32.toNatClampNeg v3) 0) (fun m5 => bnd (v3 + 1) (fun x6 => fX3_spell_L22 n k0 v1 v2 F x6 m5))))
def fX3_spell (n : Nat) (k0 : Nat) (a1 : Int32) (a2 : Int32) (μ : Mem) : Option (Unit × Mem) :=
  bd (fX3_has n k0 a1 μ) (fun r2 m1 => if r2 = 0 then some ((), m1) else if a2 < 1 then some ((), m1) else if a2 ≤ 9 then fX3_spell_L22 n k0 a1 a2 n 0 m1 else some ((), m1))
set_option maxHeartbeats 4000000 in
set_option maxRecDepth 100000 in
theorem wX3_spell_L22 (ad : Nat → Nat) (n : Nat) (k0 : Nat) (h0 : St k0) (v1 : Int32) (v2 : Int32) : ∀ (F : Nat) (v3 : Int32) (μ : Mem), G kX3_spell ad encV 22 [(0, .ref (ad k0)), (1, .int v1), (2, .int v2), (3, .int v3)] [] μ (fX3_spell_L22 n k0 v1 v2 F v3 μ) := by
  intro F
  induction F with
  | zero =>
    intro v3 μ
    exact g_none
  | succ F ih =>
    intro v3 μ
    rw [fX3_spell_L22]
    refine g_iload_n (pc := 22) 3 dX3_spell_22 rfl rfl ?_
    refine g_iload_n (pc := 23) 2 dX3_spell_23 rfl rfl ?_
    refine g_icmp_ge (pc := 24) 42 dX3_spell_24 rfl ?_ ?_
    · refine g_aload_n (pc := 42) 0 dX3_spell_42 rfl rfl ?_
      refine g_get (pc := 43) (st_o h0) foX3_15 (v := .ref (ad (k0 + 2))) rfl dX3_spell_43 ?_
      refine g_iload_n (pc := 46) 1 dX3_spell_46 rfl rfl ?_
      refine g_iload_n (pc := 47) 2 dX3_spell_47 rfl rfl ?_
      refine g_iast (pc := 48) (st_2 h0) (by decide) dX3_spell_48 (fun m3 => ?_)
      exact g_return (pc := 49) dX3_spell_49 rfl
    · refine g_aload_n (pc := 27) 0 dX3_spell_27 rfl rfl ?_
      refine g_get (pc := 28) (st_o h0) foX3_20 (v := .ref (ad (k0 + 3))) rfl dX3_spell_28 ?_
      refine g_iload_n (pc := 31) 1 dX3_spell_31 rfl rfl ?_
      refine g_aald (pc := 32) (st_3 h0) dX3_spell_32 (fun hi4 => ?_)
      refine g_iload_n (pc := 33) 3 dX3_spell_33 rfl rfl ?_
      refine g_iconst (pc := 34) 0 dX3_spell_34 (by decide) ?_
      refine g_iast (pc := 35) (st_i h0 hi4) (by decide) dX3_spell_35 (fun m5 => ?_)
      refine g_iincB (pc := 36) 3 1 1 (fun x6 => [(3, .int x6), (0, .ref (ad k0)), (1, .int v1), (2, .int v2)]) dX3_spell_36 rfl (by decide) (by decide) (fun _ => rfl) (fun x6 => ?_)
      refine g_goto (pc := 39) 22 dX3_spell_39 rfl ?_
      exact g_sub [1, 2, 3, 0] rfl (ih x6 m5)
set_option maxHeartbeats 4000000 in
set_option maxRecDepth 100000 in
theorem ctX3_spell (ad : Nat → Nat) (n : Nat) (k0 : Nat) (h0 : St k0) (a1 : Int32) (a2 : Int32) (μ : Mem) : Ct yX3_spell kX3_spell ad encV [.ref (ad k0), .int a1, .int a2] μ (fX3_spell n k0 a1 a2 μ) := Ct.of (by decide +kernel) rfl (Nat.le_of_ble_eq_true rfl) (by
  show G kX3_spell ad encV 0 [(0, .ref (ad k0)), (1, .int a1), (2, .int a2)] [] μ (fX3_spell n k0 a1 a2 μ)
  unfold fX3_spell
  refine g_aload_n (pc := 0) 0 dX3_spell_0 rfl rfl ?_
  refine g_iload_n (pc := 1) 1 dX3_spell_1 rfl rfl ?_
  refine g_cVI (pc := 2) (st := []) [.int a1] (st_o h0) rfl moX3_has lnX3_58 (ctX3_has ad n k0 h0 a1 μ) rfl ⟨Nat.le_of_ble_eq_true rfl, Nat.le_of_ble_eq_true rfl⟩ rfl (Nat.le_of_ble_eq_true rfl) dX3_spell_2 (fun r2 m1 => ?_)
  refine g_if_eq (pc := 5) 19 dX3_spell_5 rfl ?_ ?_
  · exact g_return (pc := 19) dX3_spell_19 rfl
  · refine g_iload_n (pc := 8) 2 dX3_spell_8 rfl rfl ?_
    refine g_iconst (pc := 9) 1 dX3_spell_9 (by decide) ?_
    refine g_icmp_lt (pc := 10) 19 dX3_spell_10 rfl ?_ ?_
    · exact g_return (pc := 19) dX3_spell_19 rfl
    · refine g_iload_n (pc := 13) 2 dX3_spell_13 rfl rfl ?_
      refine g_bipush (pc := 14) 9 dX3_spell_14 (by decide) ?_
      refine g_icmp_le (pc := 16) 20 dX3_spell_16 rfl ?_ ?_
      · refine g_iconst (pc := 20) 0 dX3_spell_20 (by decide) ?_
        refine g_istore_n (pc := 21) [(3, .int 0), (0, .ref (ad k0)), (1, .int a1), (2, .int a2)] dX3_spell_21 rfl (by decide) rfl ?_
        exact g_sub [1, 2, 3, 0] rfl (wX3_spell_L22 ad n k0 h0 a1 a2 n 0 m1)
      · exact g_return (pc := 19) dX3_spell_19 rfl)
-- StopsByLetters$Stations.change(II)Z
abbrev kX3_change : Cfg := (RX3, cX3_change, 4, (some .boolean), 1)
theorem dX3_change_0 : decode cX3_change 0 = .ok (.aload_n 0, 1) := by decide +kernel
theorem dX3_change_1 : decode cX3_change 1 = .ok (.iload_n 1, 1) := by decide +kernel
theorem dX3_change_2 : decode cX3_change 2 = .ok (.invokevirtual 58, 3) := by decide +kernel
theorem dX3_change_5 : decode cX3_change 5 = .ok (.ifCond .ne 5, 3) := by decide +kernel
theorem dX3_change_8 : decode cX3_change 8 = .ok (.iconst 0, 1) := by decide +kernel
theorem dX3_change_9 : decode cX3_change 9 = .ok (.ireturn, 1) := by decide +kernel
theorem dX3_change_10 : decode cX3_change 10 = .ok (.aload_n 0, 1) := by decide +kernel
theorem dX3_change_11 : decode cX3_change 11 = .ok (.getfield 15, 3) := by decide +kernel
theorem dX3_change_14 : decode cX3_change 14 = .ok (.iload_n 1, 1) := by decide +kernel
theorem dX3_change_15 : decode cX3_change 15 = .ok (.iaload, 1) := by decide +kernel
theorem dX3_change_16 : decode cX3_change 16 = .ok (.istore_n 3, 1) := by decide +kernel
theorem dX3_change_17 : decode cX3_change 17 = .ok (.iload_n 2, 1) := by decide +kernel
theorem dX3_change_18 : decode cX3_change 18 = .ok (.ifCond .ne 21, 3) := by decide +kernel
theorem dX3_change_21 : decode cX3_change 21 = .ok (.iload_n 3, 1) := by decide +kernel
theorem dX3_change_22 : decode cX3_change 22 = .ok (.iconst 1, 1) := by decide +kernel
theorem dX3_change_23 : decode cX3_change 23 = .ok (.if_icmp .gt 5, 3) := by decide +kernel
theorem dX3_change_26 : decode cX3_change 26 = .ok (.iconst 0, 1) := by decide +kernel
theorem dX3_change_27 : decode cX3_change 27 = .ok (.ireturn, 1) := by decide +kernel
theorem dX3_change_28 : decode cX3_change 28 = .ok (.aload_n 0, 1) := by decide +kernel
theorem dX3_change_29 : decode cX3_change 29 = .ok (.getfield 15, 3) := by decide +kernel
theorem dX3_change_32 : decode cX3_change 32 = .ok (.iload_n 1, 1) := by decide +kernel
theorem dX3_change_33 : decode cX3_change 33 = .ok (.iload_n 3, 1) := by decide +kernel
theorem dX3_change_34 : decode cX3_change 34 = .ok (.iconst 1, 1) := by decide +kernel
theorem dX3_change_35 : decode cX3_change 35 = .ok (.isub, 1) := by decide +kernel
theorem dX3_change_36 : decode cX3_change 36 = .ok (.iastore, 1) := by decide +kernel
theorem dX3_change_37 : decode cX3_change 37 = .ok (.iconst 1, 1) := by decide +kernel
theorem dX3_change_38 : decode cX3_change 38 = .ok (.ireturn, 1) := by decide +kernel
theorem dX3_change_39 : decode cX3_change 39 = .ok (.iload_n 3, 1) := by decide +kernel
theorem dX3_change_40 : decode cX3_change 40 = .ok (.bipush 10, 2) := by decide +kernel
theorem dX3_change_42 : decode cX3_change 42 = .ok (.if_icmp .lt 5, 3) := by decide +kernel
theorem dX3_change_45 : decode cX3_change 45 = .ok (.iconst 0, 1) := by decide +kernel
theorem dX3_change_46 : decode cX3_change 46 = .ok (.ireturn, 1) := by decide +kernel
theorem dX3_change_47 : decode cX3_change 47 = .ok (.aload_n 0, 1) := by decide +kernel
theorem dX3_change_48 : decode cX3_change 48 = .ok (.getfield 20, 3) := by decide +kernel
theorem dX3_change_51 : decode cX3_change 51 = .ok (.iload_n 1, 1) := by decide +kernel
theorem dX3_change_52 : decode cX3_change 52 = .ok (.aaload, 1) := by decide +kernel
theorem dX3_change_53 : decode cX3_change 53 = .ok (.iload_n 3, 1) := by decide +kernel
theorem dX3_change_54 : decode cX3_change 54 = .ok (.iconst 0, 1) := by decide +kernel
theorem dX3_change_55 : decode cX3_change 55 = .ok (.iastore, 1) := by decide +kernel
theorem dX3_change_56 : decode cX3_change 56 = .ok (.aload_n 0, 1) := by decide +kernel
theorem dX3_change_57 : decode cX3_change 57 = .ok (.getfield 15, 3) := by decide +kernel
theorem dX3_change_60 : decode cX3_change 60 = .ok (.iload_n 1, 1) := by decide +kernel
theorem dX3_change_61 : decode cX3_change 61 = .ok (.iload_n 3, 1) := by decide +kernel
theorem dX3_change_62 : decode cX3_change 62 = .ok (.iconst 1, 1) := by decide +kernel
theorem dX3_change_63 : decode cX3_change 63 = .ok (.iadd, 1) := by decide +kernel
theorem dX3_change_64 : decode cX3_change 64 = .ok (.iastore, 1) := by decide +kernel
theorem dX3_change_65 : decode cX3_change 65 = .ok (.iconst 1, 1) := by decide +kernel
theorem dX3_change_66 : decode cX3_change 66 = .ok (.ireturn, 1) := by decide +kernel
def fX3_change (n : Nat) (k0 : Nat) (a1 : Int32) (a2 : Int32) (μ : Mem) : Option (Int32 × Mem) :=
  bd (fX3_has n k0 a1 μ) (fun r2 m1 => if r2 = 0 then some (0, m1) else gd (inb a1 8) (bnd (m1.1 (k0 + 2) (Int32.toNatClampNeg a1)) (fun x3 => if a2 = 0 then if 1 < x3 then gd (inb a1 8) (bnd (setI m1 (k0 + 2) (Int32.toNatClampNeg a1) (x3 - 1)) (fun m7 => some (1, m7))) else some (0, m1) else if x3 < 10 then gd (inb a1 8) (gd (inb x3 10) (bnd (setI m1 ((k0 + 3) + 1 + (Int32.toNatClampNeg a1)) (Int32.toNatClampNeg x3) 0) (fun m5 => gd (inb a1 8) (bnd (setI m5 (k0 + 2) (Int32.toNatClampNeg a1) (x3 + 1)) (fun m6 => some (1, m6)))))) else some (0, m1))))
set_option maxHeartbeats 4000000 in
set_option maxRecDepth 100000 in
theorem ctX3_change (ad : Nat → Nat) (n : Nat) (k0 : Nat) (h0 : St k0) (a1 : Int32) (a2 : Int32) (μ : Mem) : Ct yX3_change kX3_change ad encI [.ref (ad k0), .int a1, .int a2] μ (fX3_change n k0 a1 a2 μ) := Ct.of (by decide +kernel) rfl (Nat.le_of_ble_eq_true rfl) (by
  show G kX3_change ad encI 0 [(0, .ref (ad k0)), (1, .int a1), (2, .int a2)] [] μ (fX3_change n k0 a1 a2 μ)
  unfold fX3_change
  refine g_aload_n (pc := 0) 0 dX3_change_0 rfl rfl ?_
  refine g_iload_n (pc := 1) 1 dX3_change_1 rfl rfl ?_
  refine g_cVI (pc := 2) (st := []) [.int a1] (st_o h0) rfl moX3_has lnX3_58 (ctX3_has ad n k0 h0 a1 μ) rfl ⟨Nat.le_of_ble_eq_true rfl, Nat.le_of_ble_eq_true rfl⟩ rfl (Nat.le_of_ble_eq_true rfl) dX3_change_2 (fun r2 m1 => ?_)
  refine g_if_ne (pc := 5) 10 dX3_change_5 rfl ?_ ?_
  · refine g_aload_n (pc := 10) 0 dX3_change_10 rfl rfl ?_
    refine g_get (pc := 11) (st_o h0) foX3_15 (v := .ref (ad (k0 + 2))) rfl dX3_change_11 ?_
    refine g_iload_n (pc := 14) 1 dX3_change_14 rfl rfl ?_
    refine g_iald (pc := 15) (st_2 h0) (by decide) dX3_change_15 ?_
    refine g_istore_nB (pc := 16) (fun x3 => [(3, .int x3), (0, .ref (ad k0)), (1, .int a1), (2, .int a2)]) dX3_change_16 rfl (by decide) (fun _ => rfl) (fun x3 => ?_)
    refine g_iload_n (pc := 17) 3 dX3_change_17 rfl rfl ?_
    refine g_if_ne (pc := 18) 39 dX3_change_18 rfl ?_ ?_
    · refine g_iload_n (pc := 39) 0 dX3_change_39 rfl rfl ?_
      refine g_bipush (pc := 40) 10 dX3_change_40 (by decide) ?_
      refine g_icmp_lt (pc := 42) 47 dX3_change_42 rfl ?_ ?_
      · refine g_aload_n (pc := 47) 1 dX3_change_47 rfl rfl ?_
        refine g_get (pc := 48) (st_o h0) foX3_20 (v := .ref (ad (k0 + 3))) rfl dX3_change_48 ?_
        refine g_iload_n (pc := 51) 2 dX3_change_51 rfl rfl ?_
        refine g_aald (pc := 52) (st_3 h0) dX3_change_52 (fun hi4 => ?_)
        refine g_iload_n (pc := 53) 0 dX3_change_53 rfl rfl ?_
        refine g_iconst (pc := 54) 0 dX3_change_54 (by decide) ?_
        refine g_iast (pc := 55) (st_i h0 hi4) (by decide) dX3_change_55 (fun m5 => ?_)
        refine g_aload_n (pc := 56) 1 dX3_change_56 rfl rfl ?_
        refine g_get (pc := 57) (st_o h0) foX3_15 (v := .ref (ad (k0 + 2))) rfl dX3_change_57 ?_
        refine g_iload_n (pc := 60) 2 dX3_change_60 rfl rfl ?_
        refine g_iload_n (pc := 61) 0 dX3_change_61 rfl rfl ?_
        refine g_iconst (pc := 62) 1 dX3_change_62 (by decide) ?_
        refine g_iadd (pc := 63) dX3_change_63 ?_
        refine g_iast (pc := 64) (st_2 h0) (by decide) dX3_change_64 (fun m6 => ?_)
        refine g_iconst (pc := 65) 1 dX3_change_65 (by decide) ?_
        exact g_zreturn (pc := 66) (by decide) dX3_change_66 rfl
      · refine g_iconst (pc := 45) 0 dX3_change_45 (by decide) ?_
        exact g_zreturn (pc := 46) (by decide) dX3_change_46 rfl
    · refine g_iload_n (pc := 21) 0 dX3_change_21 rfl rfl ?_
      refine g_iconst (pc := 22) 1 dX3_change_22 (by decide) ?_
      refine g_icmp_gt (pc := 23) 28 dX3_change_23 rfl ?_ ?_
      · refine g_aload_n (pc := 28) 1 dX3_change_28 rfl rfl ?_
        refine g_get (pc := 29) (st_o h0) foX3_15 (v := .ref (ad (k0 + 2))) rfl dX3_change_29 ?_
        refine g_iload_n (pc := 32) 2 dX3_change_32 rfl rfl ?_
        refine g_iload_n (pc := 33) 0 dX3_change_33 rfl rfl ?_
        refine g_iconst (pc := 34) 1 dX3_change_34 (by decide) ?_
        refine g_isub (pc := 35) dX3_change_35 ?_
        refine g_iast (pc := 36) (st_2 h0) (by decide) dX3_change_36 (fun m7 => ?_)
        refine g_iconst (pc := 37) 1 dX3_change_37 (by decide) ?_
        exact g_zreturn (pc := 38) (by decide) dX3_change_38 rfl
      · refine g_iconst (pc := 26) 0 dX3_change_26 (by decide) ?_
        exact g_zreturn (pc := 27) (by decide) dX3_change_27 rfl
  · refine g_iconst (pc := 8) 0 dX3_change_8 (by decide) ?_
    exact g_zreturn (pc := 9) (by decide) dX3_change_9 rfl)
-- StopsByLetters$Stations.insertBehind(II)V
abbrev kX3_insertBehind : Cfg := (RX3, cX3_insertBehind, 4, none, 2)
theorem dX3_insertBehind_0 : decode cX3_insertBehind 0 = .ok (.aload_n 0, 1) := by decide +kernel
theorem dX3_insertBehind_1 : decode cX3_insertBehind 1 = .ok (.iload_n 1, 1) := by decide +kernel
theorem dX3_insertBehind_2 : decode cX3_insertBehind 2 = .ok (.invokevirtual 58, 3) := by decide +kernel
theorem dX3_insertBehind_5 : decode cX3_insertBehind 5 = .ok (.ifCond .eq 12, 3) := by decide +kernel
theorem dX3_insertBehind_8 : decode cX3_insertBehind 8 = .ok (.aload_n 0, 1) := by decide +kernel
theorem dX3_insertBehind_9 : decode cX3_insertBehind 9 = .ok (.getfield 23, 3) := by decide +kernel
theorem dX3_insertBehind_12 : decode cX3_insertBehind 12 = .ok (.bipush 8, 2) := by decide +kernel
theorem dX3_insertBehind_14 : decode cX3_insertBehind 14 = .ok (.if_icmp .lt 4, 3) := by decide +kernel
theorem dX3_insertBehind_17 : decode cX3_insertBehind 17 = .ok (.return_, 1) := by decide +kernel
theorem dX3_insertBehind_18 : decode cX3_insertBehind 18 = .ok (.aload_n 0, 1) := by decide +kernel
theorem dX3_insertBehind_19 : decode cX3_insertBehind 19 = .ok (.getfield 23, 3) := by decide +kernel
theorem dX3_insertBehind_22 : decode cX3_insertBehind 22 = .ok (.istore_n 3, 1) := by decide +kernel
theorem dX3_insertBehind_23 : decode cX3_insertBehind 23 = .ok (.iload_n 3, 1) := by decide +kernel
theorem dX3_insertBehind_24 : decode cX3_insertBehind 24 = .ok (.iload_n 1, 1) := by decide +kernel
theorem dX3_insertBehind_25 : decode cX3_insertBehind 25 = .ok (.iconst 1, 1) := by decide +kernel
theorem dX3_insertBehind_26 : decode cX3_insertBehind 26 = .ok (.iadd, 1) := by decide +kernel
theorem dX3_insertBehind_27 : decode cX3_insertBehind 27 = .ok (.if_icmp .le 18, 3) := by decide +kernel
theorem dX3_insertBehind_30 : decode cX3_insertBehind 30 = .ok (.aload_n 0, 1) := by decide +kernel
theorem dX3_insertBehind_31 : decode cX3_insertBehind 31 = .ok (.aload_n 0, 1) := by decide +kernel
theorem dX3_insertBehind_32 : decode cX3_insertBehind 32 = .ok (.iload_n 3, 1) := by decide +kernel
theorem dX3_insertBehind_33 : decode cX3_insertBehind 33 = .ok (.iconst 1, 1) := by decide +kernel
theorem dX3_insertBehind_34 : decode cX3_insertBehind 34 = .ok (.isub, 1) := by decide +kernel
theorem dX3_insertBehind_35 : decode cX3_insertBehind 35 = .ok (.iload_n 3, 1) := by decide +kernel
theorem dX3_insertBehind_36 : decode cX3_insertBehind 36 = .ok (.invokevirtual 31, 3) := by decide +kernel
theorem dX3_insertBehind_39 : decode cX3_insertBehind 39 = .ok (.iinc 3 (-1), 3) := by decide +kernel
theorem dX3_insertBehind_42 : decode cX3_insertBehind 42 = .ok (.goto (-19), 3) := by decide +kernel
theorem dX3_insertBehind_45 : decode cX3_insertBehind 45 = .ok (.aload_n 0, 1) := by decide +kernel
theorem dX3_insertBehind_46 : decode cX3_insertBehind 46 = .ok (.dup, 1) := by decide +kernel
theorem dX3_insertBehind_47 : decode cX3_insertBehind 47 = .ok (.getfield 23, 3) := by decide +kernel
theorem dX3_insertBehind_50 : decode cX3_insertBehind 50 = .ok (.iconst 1, 1) := by decide +kernel
theorem dX3_insertBehind_51 : decode cX3_insertBehind 51 = .ok (.iadd, 1) := by decide +kernel
theorem dX3_insertBehind_52 : decode cX3_insertBehind 52 = .ok (.putfield 23, 3) := by decide +kernel
theorem dX3_insertBehind_55 : decode cX3_insertBehind 55 = .ok (.aload_n 0, 1) := by decide +kernel
theorem dX3_insertBehind_56 : decode cX3_insertBehind 56 = .ok (.getfield 9, 3) := by decide +kernel
theorem dX3_insertBehind_59 : decode cX3_insertBehind 59 = .ok (.iload_n 1, 1) := by decide +kernel
theorem dX3_insertBehind_60 : decode cX3_insertBehind 60 = .ok (.iconst 1, 1) := by decide +kernel
theorem dX3_insertBehind_61 : decode cX3_insertBehind 61 = .ok (.iadd, 1) := by decide +kernel
theorem dX3_insertBehind_62 : decode cX3_insertBehind 62 = .ok (.iconst 0, 1) := by decide +kernel
theorem dX3_insertBehind_63 : decode cX3_insertBehind 63 = .ok (.iastore, 1) := by decide +kernel
theorem dX3_insertBehind_64 : decode cX3_insertBehind 64 = .ok (.aload_n 0, 1) := by decide +kernel
theorem dX3_insertBehind_65 : decode cX3_insertBehind 65 = .ok (.iload_n 1, 1) := by decide +kernel
theorem dX3_insertBehind_66 : decode cX3_insertBehind 66 = .ok (.iconst 1, 1) := by decide +kernel
theorem dX3_insertBehind_67 : decode cX3_insertBehind 67 = .ok (.iadd, 1) := by decide +kernel
theorem dX3_insertBehind_68 : decode cX3_insertBehind 68 = .ok (.iload_n 2, 1) := by decide +kernel
theorem dX3_insertBehind_69 : decode cX3_insertBehind 69 = .ok (.invokevirtual 62, 3) := by decide +kernel
theorem dX3_insertBehind_72 : decode cX3_insertBehind 72 = .ok (.return_, 1) := by decide +kernel
def fX3_insertBehind_L23 (n : Nat) (k0 : Nat) (v1 : Int32) (v2 : Int32) (K1 : Mem → Option (Unit × Mem)) : Nat → Int32 → Mem → Option (Unit × Mem)
  | 0, _, _ => none
  | F + 1, v3, μ => if v3 ≤ (v1 + 1) then K1 μ else bd (fX3_takeOne n k0 k0 (v3 - 1) v3 μ) (fun r5 m4 => bnd (v3 + (-1)) (fun x6 => fX3_insertBehind_L23 n k0 v1 v2 K1 F x6 m4))
theorem lnX3_62 : Ln RX3 62 yX3_spell := Or.inl (tb_in 581 (by decide +kernel) rfl)
theorem moX3_spell : Mv yX3_spell kX3_spell 2 := ⟨⟨tb_in 584 (by decide +kernel) rfl, tb_in 88 (by decide +kernel) rfl, ⟨by decide, by decide⟩, by decide +kernel⟩, tb_in 583 (by decide +kernel) rfl, tb_in 40 (by decide +kernel) rfl⟩
def fX3_insertBehind (n : Nat) (k0 : Nat) (a1 : Int32) (a2 : Int32) (μ : Mem) : Option (Unit × Mem) :=
  bd (fX3_has n k0 a1 μ) (fun r2 m1 => if r2 = 0 then some ((), m1) else if (m1.1 k0 3) < 8 then bnd (m1.1 k0 3) (fun x3 => fX3_insertBehind_L23 n k0 a1 a2 (fun (m7 : Mem) => bnd (setI m7 k0 3 ((m7.1 k0 3) + 1)) (fun m8 => gd (inb (a1 + 1) 8) (bnd (setI m8 (k0 + 1) (Int32.toNatClampNeg (a1 + 1)) 0) (fun m9 => bd (fX3_spell n k0 (a1 + 1) a2 m9) (fun r11 m10 => some ((), m10)))))) n x3 m1) else some ((), m1))
set_option maxHeartbeats 4000000 in
set_option maxRecDepth 100000 in
theorem wX3_insertBehind_L23 (ad : Nat → Nat) (n : Nat) (k0 : Nat) (h0 : St k0) (v1 : Int32) (v2 : Int32) (K1 : Mem → Option (Unit × Mem)) (hK1 : ∀ (μ : Mem), G kX3_insertBehind ad encV 45 [(0, .ref (ad k0)), (1, .int v1), (2, .int v2)] [] μ (K1 μ)) : ∀ (F : Nat) (v3 : Int32) (μ : Mem), G kX3_insertBehind ad encV 23 [(0, .ref (ad k0)), (1, .int v1), (2, .int v2), (3, .int v3)] [] μ (fX3_insertBehind_L23 n k0 v1 v2 K1 F v3 μ) := by
  intro F
  induction F with
  | zero =>
    intro v3 μ
    exact g_none
  | succ F ih =>
    intro v3 μ
    rw [fX3_insertBehind_L23]
    refine g_iload_n (pc := 23) 3 dX3_insertBehind_23 rfl rfl ?_
    refine g_iload_n (pc := 24) 1 dX3_insertBehind_24 rfl rfl ?_
    refine g_iconst (pc := 25) 1 dX3_insertBehind_25 (by decide) ?_
    refine g_iadd (pc := 26) dX3_insertBehind_26 ?_
    refine g_icmp_le (pc := 27) 45 dX3_insertBehind_27 rfl ?_ ?_
    · exact g_sub [0, 1, 2] rfl (hK1 μ)
    · refine g_aload_n (pc := 30) 0 dX3_insertBehind_30 rfl rfl ?_
      refine g_aload_n (pc := 31) 0 dX3_insertBehind_31 rfl rfl ?_
      refine g_iload_n (pc := 32) 3 dX3_insertBehind_32 rfl rfl ?_
      refine g_iconst (pc := 33) 1 dX3_insertBehind_33 (by decide) ?_
      refine g_isub (pc := 34) dX3_insertBehind_34 ?_
      refine g_iload_n (pc := 35) 3 dX3_insertBehind_35 rfl rfl ?_
      refine g_cVV (pc := 36) (st := []) [.ref (ad k0), .int (v3 - 1), .int v3] (st_o h0) rfl moX3_takeOne lnX3_31 (ctX3_takeOne ad n k0 k0 h0 h0 (v3 - 1) v3 μ) rfl ⟨Nat.le_of_ble_eq_true rfl, Nat.le_of_ble_eq_true rfl⟩ rfl (Nat.le_of_ble_eq_true rfl) dX3_insertBehind_36 (fun r5 m4 => ?_)
      refine g_iincB (pc := 39) 3 (-1) (-1) (fun x6 => [(3, .int x6), (0, .ref (ad k0)), (1, .int v1), (2, .int v2)]) dX3_insertBehind_39 rfl (by decide) (by decide) (fun _ => rfl) (fun x6 => ?_)
      refine g_goto (pc := 42) 23 dX3_insertBehind_42 rfl ?_
      exact g_sub [1, 2, 3, 0] rfl (ih x6 m4)
set_option maxHeartbeats 4000000 in
set_option maxRecDepth 100000 in
theorem ctX3_insertBehind (ad : Nat → Nat) (n : Nat) (k0 : Nat) (h0 : St k0) (a1 : Int32) (a2 : Int32) (μ : Mem) : Ct yX3_insertBehind kX3_insertBehind ad encV [.ref (ad k0), .int a1, .int a2] μ (fX3_insertBehind n k0 a1 a2 μ) := Ct.of (by decide +kernel) rfl (Nat.le_of_ble_eq_true rfl) (by
  show G kX3_insertBehind ad encV 0 [(0, .ref (ad k0)), (1, .int a1), (2, .int a2)] [] μ (fX3_insertBehind n k0 a1 a2 μ)
  unfold fX3_insertBehind
  refine g_aload_n (pc := 0) 0 dX3_insertBehind_0 rfl rfl ?_
  refine g_iload_n (pc := 1) 1 dX3_insertBehind_1 rfl rfl ?_
  refine g_cVI (pc := 2) (st := []) [.int a1] (st_o h0) rfl moX3_has lnX3_58 (ctX3_has ad n k0 h0 a1 μ) rfl ⟨Nat.le_of_ble_eq_true rfl, Nat.le_of_ble_eq_true rfl⟩ rfl (Nat.le_of_ble_eq_true rfl) dX3_insertBehind_2 (fun r2 m1 => ?_)
  refine g_if_eq (pc := 5) 17 dX3_insertBehind_5 rfl ?_ ?_
  · exact g_return (pc := 17) dX3_insertBehind_17 rfl
  · refine g_aload_n (pc := 8) 0 dX3_insertBehind_8 rfl rfl ?_
    refine g_get (pc := 9) (st_o h0) foX3_23 (v := .int (m1.1 k0 3)) rfl dX3_insertBehind_9 ?_
    refine g_bipush (pc := 12) 8 dX3_insertBehind_12 (by decide) ?_
    refine g_icmp_lt (pc := 14) 18 dX3_insertBehind_14 rfl ?_ ?_
    · refine g_aload_n (pc := 18) 0 dX3_insertBehind_18 rfl rfl ?_
      refine g_get (pc := 19) (st_o h0) foX3_23 (v := .int (m1.1 k0 3)) rfl dX3_insertBehind_19 ?_
      refine g_istore_nB (pc := 22) (fun x3 => [(3, .int x3), (0, .ref (ad k0)), (1, .int a1), (2, .int a2)]) dX3_insertBehind_22 rfl (by decide) (fun _ => rfl) (fun x3 => ?_)
      refine g_sub [1, 2, 3, 0] rfl (wX3_insertBehind_L23 ad n k0 h0 a1 a2 _ (fun m7 => ?_) n x3 m1)
      refine g_aload_n (pc := 45) 0 dX3_insertBehind_45 rfl rfl ?_
      refine g_dup (pc := 46) dX3_insertBehind_46 rfl ?_
      refine g_get (pc := 47) (st_o h0) foX3_23 (v := .int (m7.1 k0 3)) rfl dX3_insertBehind_47 ?_
      refine g_iconst (pc := 50) 1 dX3_insertBehind_50 (by decide) ?_
      refine g_iadd (pc := 51) dX3_insertBehind_51 ?_
      refine g_put (pc := 52) (st_o h0) foX3_23 fpX3_3 rfl rfl dX3_insertBehind_52 (fun m8 => ?_)
      refine g_aload_n (pc := 55) 0 dX3_insertBehind_55 rfl rfl ?_
      refine g_get (pc := 56) (st_o h0) foX3_9 (v := .ref (ad (k0 + 1))) rfl dX3_insertBehind_56 ?_
      refine g_iload_n (pc := 59) 1 dX3_insertBehind_59 rfl rfl ?_
      refine g_iconst (pc := 60) 1 dX3_insertBehind_60 (by decide) ?_
      refine g_iadd (pc := 61) dX3_insertBehind_61 ?_
      refine g_iconst (pc := 62) 0 dX3_insertBehind_62 (by decide) ?_
      refine g_iast (pc := 63) (st_1 h0) (by decide) dX3_insertBehind_63 (fun m9 => ?_)
      refine g_aload_n (pc := 64) 0 dX3_insertBehind_64 rfl rfl ?_
      refine g_iload_n (pc := 65) 1 dX3_insertBehind_65 rfl rfl ?_
      refine g_iconst (pc := 66) 1 dX3_insertBehind_66 (by decide) ?_
      refine g_iadd (pc := 67) dX3_insertBehind_67 ?_
      refine g_iload_n (pc := 68) 2 dX3_insertBehind_68 rfl rfl ?_
      refine g_cVV (pc := 69) (st := []) [.int (a1 + 1), .int a2] (st_o h0) rfl moX3_spell lnX3_62 (ctX3_spell ad n k0 h0 (a1 + 1) a2 m9) rfl ⟨Nat.le_of_ble_eq_true rfl, Nat.le_of_ble_eq_true rfl⟩ rfl (Nat.le_of_ble_eq_true rfl) dX3_insertBehind_69 (fun r11 m10 => ?_)
      exact g_return (pc := 72) dX3_insertBehind_72 rfl
    · exact g_return (pc := 17) dX3_insertBehind_17 rfl)
-- StopsByLetters$Stations.remove(I)V
abbrev kX3_remove : Cfg := (RX3, cX3_remove, 3, none, 2)
theorem dX3_remove_0 : decode cX3_remove 0 = .ok (.aload_n 0, 1) := by decide +kernel
theorem dX3_remove_1 : decode cX3_remove 1 = .ok (.iload_n 1, 1) := by decide +kernel
theorem dX3_remove_2 : decode cX3_remove 2 = .ok (.invokevirtual 58, 3) := by decide +kernel
theorem dX3_remove_5 : decode cX3_remove 5 = .ok (.ifCond .ne 4, 3) := by decide +kernel
theorem dX3_remove_8 : decode cX3_remove 8 = .ok (.return_, 1) := by decide +kernel
theorem dX3_remove_9 : decode cX3_remove 9 = .ok (.iload_n 1, 1) := by decide +kernel
theorem dX3_remove_10 : decode cX3_remove 10 = .ok (.istore_n 2, 1) := by decide +kernel
theorem dX3_remove_11 : decode cX3_remove 11 = .ok (.iload_n 2, 1) := by decide +kernel
theorem dX3_remove_12 : decode cX3_remove 12 = .ok (.aload_n 0, 1) := by decide +kernel
theorem dX3_remove_13 : decode cX3_remove 13 = .ok (.getfield 23, 3) := by decide +kernel
theorem dX3_remove_16 : decode cX3_remove 16 = .ok (.iconst 1, 1) := by decide +kernel
theorem dX3_remove_17 : decode cX3_remove 17 = .ok (.isub, 1) := by decide +kernel
theorem dX3_remove_18 : decode cX3_remove 18 = .ok (.if_icmp .ge 18, 3) := by decide +kernel
theorem dX3_remove_21 : decode cX3_remove 21 = .ok (.aload_n 0, 1) := by decide +kernel
theorem dX3_remove_22 : decode cX3_remove 22 = .ok (.aload_n 0, 1) := by decide +kernel
theorem dX3_remove_23 : decode cX3_remove 23 = .ok (.iload_n 2, 1) := by decide +kernel
theorem dX3_remove_24 : decode cX3_remove 24 = .ok (.iconst 1, 1) := by decide +kernel
theorem dX3_remove_25 : decode cX3_remove 25 = .ok (.iadd, 1) := by decide +kernel
theorem dX3_remove_26 : decode cX3_remove 26 = .ok (.iload_n 2, 1) := by decide +kernel
theorem dX3_remove_27 : decode cX3_remove 27 = .ok (.invokevirtual 31, 3) := by decide +kernel
theorem dX3_remove_30 : decode cX3_remove 30 = .ok (.iinc 2 1, 3) := by decide +kernel
theorem dX3_remove_33 : decode cX3_remove 33 = .ok (.goto (-22), 3) := by decide +kernel
theorem dX3_remove_36 : decode cX3_remove 36 = .ok (.aload_n 0, 1) := by decide +kernel
theorem dX3_remove_37 : decode cX3_remove 37 = .ok (.dup, 1) := by decide +kernel
theorem dX3_remove_38 : decode cX3_remove 38 = .ok (.getfield 23, 3) := by decide +kernel
theorem dX3_remove_41 : decode cX3_remove 41 = .ok (.iconst 1, 1) := by decide +kernel
theorem dX3_remove_42 : decode cX3_remove 42 = .ok (.isub, 1) := by decide +kernel
theorem dX3_remove_43 : decode cX3_remove 43 = .ok (.putfield 23, 3) := by decide +kernel
theorem dX3_remove_46 : decode cX3_remove 46 = .ok (.return_, 1) := by decide +kernel
def fX3_remove_L11 (n : Nat) (k0 : Nat) : Nat → Int32 → Mem → Option (Unit × Mem)
  | 0, _, _ => none
  | F + 1, v2, μ => if ((μ.1 k0 3) - 1) ≤ v2 then bnd (setI μ k0 3 ((μ.1 k0 3) - 1)) (fun m3 => some ((), m3)) else bd (fX3_takeOne n k0 k0 (v2 + 1) v2 μ) (fun r5 m4 => bnd (v2 + 1) (fun x6 => fX3_remove_L11 n k0 F x6 m4))
def fX3_remove (n : Nat) (k0 : Nat) (a1 : Int32) (μ : Mem) : Option (Unit × Mem) :=
  bd (fX3_has n k0 a1 μ) (fun r2 m1 => if r2 = 0 then some ((), m1) else fX3_remove_L11 n k0 n a1 m1)
set_option maxHeartbeats 4000000 in
set_option maxRecDepth 100000 in
theorem wX3_remove_L11 (ad : Nat → Nat) (n : Nat) (k0 : Nat) (h0 : St k0) : ∀ (F : Nat) (v2 : Int32) (μ : Mem), G kX3_remove ad encV 11 [(0, .ref (ad k0)), (2, .int v2)] [] μ (fX3_remove_L11 n k0 F v2 μ) := by
  intro F
  induction F with
  | zero =>
    intro v2 μ
    exact g_none
  | succ F ih =>
    intro v2 μ
    rw [fX3_remove_L11]
    refine g_iload_n (pc := 11) 1 dX3_remove_11 rfl rfl ?_
    refine g_aload_n (pc := 12) 0 dX3_remove_12 rfl rfl ?_
    refine g_get (pc := 13) (st_o h0) foX3_23 (v := .int (μ.1 k0 3)) rfl dX3_remove_13 ?_
    refine g_iconst (pc := 16) 1 dX3_remove_16 (by decide) ?_
    refine g_isub (pc := 17) dX3_remove_17 ?_
    refine g_icmp_ge (pc := 18) 36 dX3_remove_18 rfl ?_ ?_
    · refine g_aload_n (pc := 36) 0 dX3_remove_36 rfl rfl ?_
      refine g_dup (pc := 37) dX3_remove_37 rfl ?_
      refine g_get (pc := 38) (st_o h0) foX3_23 (v := .int (μ.1 k0 3)) rfl dX3_remove_38 ?_
      refine g_iconst (pc := 41) 1 dX3_remove_41 (by decide) ?_
      refine g_isub (pc := 42) dX3_remove_42 ?_
      refine g_put (pc := 43) (st_o h0) foX3_23 fpX3_3 rfl rfl dX3_remove_43 (fun m3 => ?_)
      exact g_return (pc := 46) dX3_remove_46 rfl
    · refine g_aload_n (pc := 21) 0 dX3_remove_21 rfl rfl ?_
      refine g_aload_n (pc := 22) 0 dX3_remove_22 rfl rfl ?_
      refine g_iload_n (pc := 23) 1 dX3_remove_23 rfl rfl ?_
      refine g_iconst (pc := 24) 1 dX3_remove_24 (by decide) ?_
      refine g_iadd (pc := 25) dX3_remove_25 ?_
      refine g_iload_n (pc := 26) 1 dX3_remove_26 rfl rfl ?_
      refine g_cVV (pc := 27) (st := []) [.ref (ad k0), .int (v2 + 1), .int v2] (st_o h0) rfl moX3_takeOne lnX3_31 (ctX3_takeOne ad n k0 k0 h0 h0 (v2 + 1) v2 μ) rfl ⟨Nat.le_of_ble_eq_true rfl, Nat.le_of_ble_eq_true rfl⟩ rfl (Nat.le_of_ble_eq_true rfl) dX3_remove_27 (fun r5 m4 => ?_)
      refine g_iincB (pc := 30) 1 1 1 (fun x6 => [(2, .int x6), (0, .ref (ad k0))]) dX3_remove_30 rfl (by decide) (by decide) (fun _ => rfl) (fun x6 => ?_)
      refine g_goto (pc := 33) 11 dX3_remove_33 rfl ?_
      exact g_sub [1, 0] rfl (ih x6 m4)
set_option maxHeartbeats 4000000 in
set_option maxRecDepth 100000 in
theorem ctX3_remove (ad : Nat → Nat) (n : Nat) (k0 : Nat) (h0 : St k0) (a1 : Int32) (μ : Mem) : Ct yX3_remove kX3_remove ad encV [.ref (ad k0), .int a1] μ (fX3_remove n k0 a1 μ) := Ct.of (by decide +kernel) rfl (Nat.le_of_ble_eq_true rfl) (by
  show G kX3_remove ad encV 0 [(0, .ref (ad k0)), (1, .int a1)] [] μ (fX3_remove n k0 a1 μ)
  unfold fX3_remove
  refine g_aload_n (pc := 0) 0 dX3_remove_0 rfl rfl ?_
  refine g_iload_n (pc := 1) 1 dX3_remove_1 rfl rfl ?_
  refine g_cVI (pc := 2) (st := []) [.int a1] (st_o h0) rfl moX3_has lnX3_58 (ctX3_has ad n k0 h0 a1 μ) rfl ⟨Nat.le_of_ble_eq_true rfl, Nat.le_of_ble_eq_true rfl⟩ rfl (Nat.le_of_ble_eq_true rfl) dX3_remove_2 (fun r2 m1 => ?_)
  refine g_if_ne (pc := 5) 9 dX3_remove_5 rfl ?_ ?_
  · refine g_iload_n (pc := 9) 1 dX3_remove_9 rfl rfl ?_
    refine g_istore_n (pc := 10) [(2, .int a1), (0, .ref (ad k0)), (1, .int a1)] dX3_remove_10 rfl (by decide) rfl ?_
    exact g_sub [1, 0] rfl (wX3_remove_L11 ad n k0 h0 n a1 m1)
  · exact g_return (pc := 8) dX3_remove_8 rfl)
-- StopsByLetters$Stations.sumOfSizes()I
abbrev kX3_sumOfSizes : Cfg := (RX3, cX3_sumOfSizes, 3, (some .int), 0)
theorem dX3_sumOfSizes_0 : decode cX3_sumOfSizes 0 = .ok (.iconst 0, 1) := by decide +kernel
theorem dX3_sumOfSizes_1 : decode cX3_sumOfSizes 1 = .ok (.istore_n 1, 1) := by decide +kernel
theorem dX3_sumOfSizes_2 : decode cX3_sumOfSizes 2 = .ok (.iconst 0, 1) := by decide +kernel
theorem dX3_sumOfSizes_3 : decode cX3_sumOfSizes 3 = .ok (.istore_n 2, 1) := by decide +kernel
theorem dX3_sumOfSizes_4 : decode cX3_sumOfSizes 4 = .ok (.iload_n 2, 1) := by decide +kernel
theorem dX3_sumOfSizes_5 : decode cX3_sumOfSizes 5 = .ok (.aload_n 0, 1) := by decide +kernel
theorem dX3_sumOfSizes_6 : decode cX3_sumOfSizes 6 = .ok (.getfield 23, 3) := by decide +kernel
theorem dX3_sumOfSizes_9 : decode cX3_sumOfSizes 9 = .ok (.if_icmp .ge 18, 3) := by decide +kernel
theorem dX3_sumOfSizes_12 : decode cX3_sumOfSizes 12 = .ok (.iload_n 1, 1) := by decide +kernel
theorem dX3_sumOfSizes_13 : decode cX3_sumOfSizes 13 = .ok (.aload_n 0, 1) := by decide +kernel
theorem dX3_sumOfSizes_14 : decode cX3_sumOfSizes 14 = .ok (.getfield 15, 3) := by decide +kernel
theorem dX3_sumOfSizes_17 : decode cX3_sumOfSizes 17 = .ok (.iload_n 2, 1) := by decide +kernel
theorem dX3_sumOfSizes_18 : decode cX3_sumOfSizes 18 = .ok (.iaload, 1) := by decide +kernel
theorem dX3_sumOfSizes_19 : decode cX3_sumOfSizes 19 = .ok (.iadd, 1) := by decide +kernel
theorem dX3_sumOfSizes_20 : decode cX3_sumOfSizes 20 = .ok (.istore_n 1, 1) := by decide +kernel
theorem dX3_sumOfSizes_21 : decode cX3_sumOfSizes 21 = .ok (.iinc 2 1, 3) := by decide +kernel
theorem dX3_sumOfSizes_24 : decode cX3_sumOfSizes 24 = .ok (.goto (-20), 3) := by decide +kernel
theorem dX3_sumOfSizes_27 : decode cX3_sumOfSizes 27 = .ok (.iload_n 1, 1) := by decide +kernel
theorem dX3_sumOfSizes_28 : decode cX3_sumOfSizes 28 = .ok (.ireturn, 1) := by decide +kernel
def fX3_sumOfSizes_L4 (n : Nat) (k0 : Nat) : Nat → Int32 → Int32 → Mem → Option (Int32 × Mem)
  | 0, _, _, _ => none
  | F + 1, v1, v2, μ => if (μ.1 k0 3) ≤ v2 then some (v1, μ) else gd (inb v2 8) (bnd (v1 + (μ.1 (k0 + 2) (Int32.toNatClampNeg v2))) (fun x1 => bnd (v2 + 1) (fun x2 => fX3_sumOfSizes_L4 n k0 F x1 x2 μ)))
def fX3_sumOfSizes (n : Nat) (k0 : Nat) (μ : Mem) : Option (Int32 × Mem) :=
  fX3_sumOfSizes_L4 n k0 n 0 0 μ
set_option maxHeartbeats 4000000 in
set_option maxRecDepth 100000 in
theorem wX3_sumOfSizes_L4 (ad : Nat → Nat) (n : Nat) (k0 : Nat) (h0 : St k0) : ∀ (F : Nat) (v1 : Int32) (v2 : Int32) (μ : Mem), G kX3_sumOfSizes ad encI 4 [(0, .ref (ad k0)), (1, .int v1), (2, .int v2)] [] μ (fX3_sumOfSizes_L4 n k0 F v1 v2 μ) := by
  intro F
  induction F with
  | zero =>
    intro v1 v2 μ
    exact g_none
  | succ F ih =>
    intro v1 v2 μ
    rw [fX3_sumOfSizes_L4]
    refine g_iload_n (pc := 4) 2 dX3_sumOfSizes_4 rfl rfl ?_
    refine g_aload_n (pc := 5) 0 dX3_sumOfSizes_5 rfl rfl ?_
    refine g_get (pc := 6) (st_o h0) foX3_23 (v := .int (μ.1 k0 3)) rfl dX3_sumOfSizes_6 ?_
    refine g_icmp_ge (pc := 9) 27 dX3_sumOfSizes_9 rfl ?_ ?_
    · refine g_iload_n (pc := 27) 1 dX3_sumOfSizes_27 rfl rfl ?_
      exact g_ireturn (pc := 28) dX3_sumOfSizes_28 rfl
    · refine g_iload_n (pc := 12) 1 dX3_sumOfSizes_12 rfl rfl ?_
      refine g_aload_n (pc := 13) 0 dX3_sumOfSizes_13 rfl rfl ?_
      refine g_get (pc := 14) (st_o h0) foX3_15 (v := .ref (ad (k0 + 2))) rfl dX3_sumOfSizes_14 ?_
      refine g_iload_n (pc := 17) 2 dX3_sumOfSizes_17 rfl rfl ?_
      refine g_iald (pc := 18) (st_2 h0) (by decide) dX3_sumOfSizes_18 ?_
      refine g_iadd (pc := 19) dX3_sumOfSizes_19 ?_
      refine g_istore_nB (pc := 20) (fun x1 => [(1, .int x1), (0, .ref (ad k0)), (2, .int v2)]) dX3_sumOfSizes_20 rfl (by decide) (fun _ => rfl) (fun x1 => ?_)
      refine g_iincB (pc := 21) 2 1 1 (fun x2 => [(2, .int x2), (1, .int x1), (0, .ref (ad k0))]) dX3_sumOfSizes_21 rfl (by decide) (by decide) (fun _ => rfl) (fun x2 => ?_)
      refine g_goto (pc := 24) 4 dX3_sumOfSizes_24 rfl ?_
      exact g_sub [2, 1, 0] rfl (ih x1 x2 μ)
set_option maxHeartbeats 4000000 in
set_option maxRecDepth 100000 in
theorem ctX3_sumOfSizes (ad : Nat → Nat) (n : Nat) (k0 : Nat) (h0 : St k0) (μ : Mem) : Ct yX3_sumOfSizes kX3_sumOfSizes ad encI [.ref (ad k0)] μ (fX3_sumOfSizes n k0 μ) := Ct.of (by decide +kernel) rfl (Nat.le_of_ble_eq_true rfl) (by
  show G kX3_sumOfSizes ad encI 0 [(0, .ref (ad k0))] [] μ (fX3_sumOfSizes n k0 μ)
  unfold fX3_sumOfSizes
  refine g_iconst (pc := 0) 0 dX3_sumOfSizes_0 (by decide) ?_
  refine g_istore_n (pc := 1) [(1, .int 0), (0, .ref (ad k0))] dX3_sumOfSizes_1 rfl (by decide) rfl ?_
  refine g_iconst (pc := 2) 0 dX3_sumOfSizes_2 (by decide) ?_
  refine g_istore_n (pc := 3) [(2, .int 0), (1, .int 0), (0, .ref (ad k0))] dX3_sumOfSizes_3 rfl (by decide) rfl ?_
  exact g_sub [2, 1, 0] rfl (wX3_sumOfSizes_L4 ad n k0 h0 n 0 0 μ))
