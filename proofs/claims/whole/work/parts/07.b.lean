-- StopsByLettersModel.isVowel(I)Z
abbrev kX5_isVowel : Cfg := (RX5, cX5_isVowel, 1, (some .boolean), 0)
theorem dX5_isVowel_0 : decode cX5_isVowel 0 = .ok (.iload_n 0, 1) := by decide +kernel
theorem dX5_isVowel_1 : decode cX5_isVowel 1 = .ok (.ifCond .eq 26, 3) := by decide +kernel
theorem dX5_isVowel_4 : decode cX5_isVowel 4 = .ok (.iload_n 0, 1) := by decide +kernel
theorem dX5_isVowel_5 : decode cX5_isVowel 5 = .ok (.iconst 4, 1) := by decide +kernel
theorem dX5_isVowel_6 : decode cX5_isVowel 6 = .ok (.if_icmp .eq 21, 3) := by decide +kernel
theorem dX5_isVowel_9 : decode cX5_isVowel 9 = .ok (.iload_n 0, 1) := by decide +kernel
theorem dX5_isVowel_10 : decode cX5_isVowel 10 = .ok (.bipush 8, 2) := by decide +kernel
theorem dX5_isVowel_12 : decode cX5_isVowel 12 = .ok (.if_icmp .eq 15, 3) := by decide +kernel
theorem dX5_isVowel_15 : decode cX5_isVowel 15 = .ok (.iload_n 0, 1) := by decide +kernel
theorem dX5_isVowel_16 : decode cX5_isVowel 16 = .ok (.bipush 14, 2) := by decide +kernel
theorem dX5_isVowel_18 : decode cX5_isVowel 18 = .ok (.if_icmp .eq 9, 3) := by decide +kernel
theorem dX5_isVowel_21 : decode cX5_isVowel 21 = .ok (.iload_n 0, 1) := by decide +kernel
theorem dX5_isVowel_22 : decode cX5_isVowel 22 = .ok (.bipush 20, 2) := by decide +kernel
theorem dX5_isVowel_24 : decode cX5_isVowel 24 = .ok (.if_icmp .ne 7, 3) := by decide +kernel
theorem dX5_isVowel_27 : decode cX5_isVowel 27 = .ok (.iconst 1, 1) := by decide +kernel
theorem dX5_isVowel_28 : decode cX5_isVowel 28 = .ok (.goto 4, 3) := by decide +kernel
theorem dX5_isVowel_31 : decode cX5_isVowel 31 = .ok (.iconst 0, 1) := by decide +kernel
theorem dX5_isVowel_32 : decode cX5_isVowel 32 = .ok (.ireturn, 1) := by decide +kernel
def fX5_isVowel (n : Nat) (a0 : Int32) (μ : Mem) : Option (Int32 × Mem) :=
  if a0 = 0 then some (1, μ) else if a0 = 4 then some (1, μ) else if a0 = 8 then some (1, μ) else if a0 = 14 then some (1, μ) else if a0 = 20 then some (1, μ) else some (0, μ)
set_option maxHeartbeats 4000000 in
set_option maxRecDepth 100000 in
theorem ctX5_isVowel (ad : Nat → Nat) (n : Nat) (a0 : Int32) (μ : Mem) : Ct yX5_isVowel kX5_isVowel ad encI [.int a0] μ (fX5_isVowel n a0 μ) := Ct.of (by decide +kernel) rfl (Nat.le_of_ble_eq_true rfl) (by
  show G kX5_isVowel ad encI 0 [(0, .int a0)] [] μ (fX5_isVowel n a0 μ)
  unfold fX5_isVowel
  refine g_iload_n (pc := 0) 0 dX5_isVowel_0 rfl rfl ?_
  refine g_if_eq (pc := 1) 27 dX5_isVowel_1 rfl ?_ ?_
  · refine g_iconst (pc := 27) 1 dX5_isVowel_27 (by decide) ?_
    refine g_goto (pc := 28) 32 dX5_isVowel_28 rfl ?_
    exact g_zreturn (pc := 32) (by decide) dX5_isVowel_32 rfl
  · refine g_iload_n (pc := 4) 0 dX5_isVowel_4 rfl rfl ?_
    refine g_iconst (pc := 5) 4 dX5_isVowel_5 (by decide) ?_
    refine g_icmp_eq (pc := 6) 27 dX5_isVowel_6 rfl ?_ ?_
    · refine g_iconst (pc := 27) 1 dX5_isVowel_27 (by decide) ?_
      refine g_goto (pc := 28) 32 dX5_isVowel_28 rfl ?_
      exact g_zreturn (pc := 32) (by decide) dX5_isVowel_32 rfl
    · refine g_iload_n (pc := 9) 0 dX5_isVowel_9 rfl rfl ?_
      refine g_bipush (pc := 10) 8 dX5_isVowel_10 (by decide) ?_
      refine g_icmp_eq (pc := 12) 27 dX5_isVowel_12 rfl ?_ ?_
      · refine g_iconst (pc := 27) 1 dX5_isVowel_27 (by decide) ?_
        refine g_goto (pc := 28) 32 dX5_isVowel_28 rfl ?_
        exact g_zreturn (pc := 32) (by decide) dX5_isVowel_32 rfl
      · refine g_iload_n (pc := 15) 0 dX5_isVowel_15 rfl rfl ?_
        refine g_bipush (pc := 16) 14 dX5_isVowel_16 (by decide) ?_
        refine g_icmp_eq (pc := 18) 27 dX5_isVowel_18 rfl ?_ ?_
        · refine g_iconst (pc := 27) 1 dX5_isVowel_27 (by decide) ?_
          refine g_goto (pc := 28) 32 dX5_isVowel_28 rfl ?_
          exact g_zreturn (pc := 32) (by decide) dX5_isVowel_32 rfl
        · refine g_iload_n (pc := 21) 0 dX5_isVowel_21 rfl rfl ?_
          refine g_bipush (pc := 22) 20 dX5_isVowel_22 (by decide) ?_
          refine g_icmp_ne (pc := 24) 31 dX5_isVowel_24 rfl ?_ ?_
          · refine g_iconst (pc := 31) 0 dX5_isVowel_31 (by decide) ?_
            exact g_zreturn (pc := 32) (by decide) dX5_isVowel_32 rfl
          · refine g_iconst (pc := 27) 1 dX5_isVowel_27 (by decide) ?_
            refine g_goto (pc := 28) 32 dX5_isVowel_28 rfl ?_
            exact g_zreturn (pc := 32) (by decide) dX5_isVowel_32 rfl)
-- StopsByLettersModel.vowelsOf(I)I
abbrev kX5_vowelsOf : Cfg := (RX5, cX5_vowelsOf, 4, (some .int), 1)
theorem dX5_vowelsOf_0 : decode cX5_vowelsOf 0 = .ok (.iconst 0, 1) := by decide +kernel
theorem dX5_vowelsOf_1 : decode cX5_vowelsOf 1 = .ok (.istore_n 2, 1) := by decide +kernel
theorem dX5_vowelsOf_2 : decode cX5_vowelsOf 2 = .ok (.iconst 0, 1) := by decide +kernel
theorem dX5_vowelsOf_3 : decode cX5_vowelsOf 3 = .ok (.istore_n 3, 1) := by decide +kernel
theorem dX5_vowelsOf_4 : decode cX5_vowelsOf 4 = .ok (.iload_n 3, 1) := by decide +kernel
theorem dX5_vowelsOf_5 : decode cX5_vowelsOf 5 = .ok (.aload_n 0, 1) := by decide +kernel
theorem dX5_vowelsOf_6 : decode cX5_vowelsOf 6 = .ok (.getfield 16, 3) := by decide +kernel
theorem dX5_vowelsOf_9 : decode cX5_vowelsOf 9 = .ok (.iload_n 1, 1) := by decide +kernel
theorem dX5_vowelsOf_10 : decode cX5_vowelsOf 10 = .ok (.iaload, 1) := by decide +kernel
theorem dX5_vowelsOf_11 : decode cX5_vowelsOf 11 = .ok (.if_icmp .ge 34, 3) := by decide +kernel
theorem dX5_vowelsOf_14 : decode cX5_vowelsOf 14 = .ok (.iload_n 2, 1) := by decide +kernel
theorem dX5_vowelsOf_15 : decode cX5_vowelsOf 15 = .ok (.aload_n 0, 1) := by decide +kernel
theorem dX5_vowelsOf_16 : decode cX5_vowelsOf 16 = .ok (.getfield 13, 3) := by decide +kernel
theorem dX5_vowelsOf_19 : decode cX5_vowelsOf 19 = .ok (.bipush 10, 2) := by decide +kernel
theorem dX5_vowelsOf_21 : decode cX5_vowelsOf 21 = .ok (.iload_n 1, 1) := by decide +kernel
theorem dX5_vowelsOf_22 : decode cX5_vowelsOf 22 = .ok (.imul, 1) := by decide +kernel
theorem dX5_vowelsOf_23 : decode cX5_vowelsOf 23 = .ok (.iload_n 3, 1) := by decide +kernel
theorem dX5_vowelsOf_24 : decode cX5_vowelsOf 24 = .ok (.iadd, 1) := by decide +kernel
theorem dX5_vowelsOf_25 : decode cX5_vowelsOf 25 = .ok (.iaload, 1) := by decide +kernel
theorem dX5_vowelsOf_26 : decode cX5_vowelsOf 26 = .ok (.invokestatic 133, 3) := by decide +kernel
theorem dX5_vowelsOf_29 : decode cX5_vowelsOf 29 = .ok (.ifCond .eq 7, 3) := by decide +kernel
theorem dX5_vowelsOf_32 : decode cX5_vowelsOf 32 = .ok (.iconst 1, 1) := by decide +kernel
theorem dX5_vowelsOf_33 : decode cX5_vowelsOf 33 = .ok (.goto 4, 3) := by decide +kernel
theorem dX5_vowelsOf_36 : decode cX5_vowelsOf 36 = .ok (.iconst 0, 1) := by decide +kernel
theorem dX5_vowelsOf_37 : decode cX5_vowelsOf 37 = .ok (.iadd, 1) := by decide +kernel
theorem dX5_vowelsOf_38 : decode cX5_vowelsOf 38 = .ok (.istore_n 2, 1) := by decide +kernel
theorem dX5_vowelsOf_39 : decode cX5_vowelsOf 39 = .ok (.iinc 3 1, 3) := by decide +kernel
theorem dX5_vowelsOf_42 : decode cX5_vowelsOf 42 = .ok (.goto (-38), 3) := by decide +kernel
theorem dX5_vowelsOf_45 : decode cX5_vowelsOf 45 = .ok (.iload_n 2, 1) := by decide +kernel
theorem dX5_vowelsOf_46 : decode cX5_vowelsOf 46 = .ok (.ireturn, 1) := by decide +kernel
theorem lnX5_133 : Ln RX5 133 yX5_isVowel := Or.inl (tb_in 851 (by decide +kernel) rfl)
theorem moX5_isVowel : Ms yX5_isVowel kX5_isVowel 1 := ⟨⟨tb_in 853 (by decide +kernel) rfl, tb_in 92 (by decide +kernel) rfl, ⟨by decide, by decide⟩, by decide +kernel⟩, tb_in 852 (by decide +kernel) rfl⟩
def fX5_vowelsOf_L4 (n : Nat) (v1 : Int32) : Nat → Int32 → Int32 → Mem → Option (Int32 × Mem)
  | 0, _, _, _ => none
  | F + 1, v2, v3, μ => gd (inb v1 9) (if (μ.1 50 (Int32.toNatClampNeg v1)) ≤ v3 then some (v2, μ) else gd (inb ((10 * v1) + v3) 90) (bd (fX5_isVowel n (μ.1 49 (Int32.toNatClampNeg ((10 * v1) + v3))) μ) (fun r2 m1 => bnd (fun (x4 : Int32) (m5 : Mem) => bnd (v2 + x4) (fun x6 => bnd (v3 + 1) (fun x7 => fX5_vowelsOf_L4 n v1 F x6 x7 m5))) (fun kb3 => if r2 = 0 then kb3 0 m1 else kb3 1 m1))))
def fX5_vowelsOf (n : Nat) (a1 : Int32) (μ : Mem) : Option (Int32 × Mem) :=
  fX5_vowelsOf_L4 n a1 n 0 0 μ
set_option maxHeartbeats 4000000 in
set_option maxRecDepth 100000 in
theorem wX5_vowelsOf_L4 (ad : Nat → Nat) (n : Nat) (v1 : Int32) : ∀ (F : Nat) (v2 : Int32) (v3 : Int32) (μ : Mem), G kX5_vowelsOf ad encI 4 [(0, .ref (ad 47)), (1, .int v1), (2, .int v2), (3, .int v3)] [] μ (fX5_vowelsOf_L4 n v1 F v2 v3 μ) := by
  intro F
  induction F with
  | zero =>
    intro v2 v3 μ
    exact g_none
  | succ F ih =>
    intro v2 v3 μ
    rw [fX5_vowelsOf_L4]
    refine g_iload_n (pc := 4) 3 dX5_vowelsOf_4 rfl rfl ?_
    refine g_aload_n (pc := 5) 0 dX5_vowelsOf_5 rfl rfl ?_
    refine g_get (pc := 6) rfl foX5_16 (v := .ref (ad 50)) rfl dX5_vowelsOf_6 ?_
    refine g_iload_n (pc := 9) 1 dX5_vowelsOf_9 rfl rfl ?_
    refine g_iald (pc := 10) rfl (by decide) dX5_vowelsOf_10 ?_
    refine g_icmp_ge (pc := 11) 45 dX5_vowelsOf_11 rfl ?_ ?_
    · refine g_iload_n (pc := 45) 2 dX5_vowelsOf_45 rfl rfl ?_
      exact g_ireturn (pc := 46) dX5_vowelsOf_46 rfl
    · refine g_iload_n (pc := 14) 2 dX5_vowelsOf_14 rfl rfl ?_
      refine g_aload_n (pc := 15) 0 dX5_vowelsOf_15 rfl rfl ?_
      refine g_get (pc := 16) rfl foX5_13 (v := .ref (ad 49)) rfl dX5_vowelsOf_16 ?_
      refine g_bipush (pc := 19) 10 dX5_vowelsOf_19 (by decide) ?_
      refine g_iload_n (pc := 21) 1 dX5_vowelsOf_21 rfl rfl ?_
      refine g_imul (pc := 22) dX5_vowelsOf_22 ?_
      refine g_iload_n (pc := 23) 3 dX5_vowelsOf_23 rfl rfl ?_
      refine g_iadd (pc := 24) dX5_vowelsOf_24 ?_
      refine g_iald (pc := 25) rfl (by decide) dX5_vowelsOf_25 ?_
      refine g_cSI (pc := 26) (st := [.int v2]) [.int (μ.1 49 (Int32.toNatClampNeg ((10 * v1) + v3)))] moX5_isVowel lnX5_133 (ctX5_isVowel ad n (μ.1 49 (Int32.toNatClampNeg ((10 * v1) + v3))) μ) rfl ⟨Nat.le_of_ble_eq_true rfl, Nat.le_of_ble_eq_true rfl⟩ rfl (Nat.le_of_ble_eq_true rfl) dX5_vowelsOf_26 (fun r2 m1 => ?_)
      refine g_join (fun kb => ∀ (x4 : Int32) (m5 : Mem), G kX5_vowelsOf ad encI 37 [(0, .ref (ad 47)), (1, .int v1), (3, .int v3)] [.int x4, .int v2] m5 (kb x4 m5)) (fun x4 m5 => ?_) (fun kb3 hkb3 => ?_)
      · refine g_iadd (pc := 37) dX5_vowelsOf_37 ?_
        refine g_istore_nB (pc := 38) (fun x6 => [(2, .int x6), (0, .ref (ad 47)), (1, .int v1), (3, .int v3)]) dX5_vowelsOf_38 rfl (by decide) (fun _ => rfl) (fun x6 => ?_)
        refine g_iincB (pc := 39) 3 1 1 (fun x7 => [(3, .int x7), (2, .int x6), (0, .ref (ad 47)), (1, .int v1)]) dX5_vowelsOf_39 rfl (by decide) (by decide) (fun _ => rfl) (fun x7 => ?_)
        refine g_goto (pc := 42) 4 dX5_vowelsOf_42 rfl ?_
        exact g_sub [2, 3, 1, 0] rfl (ih x6 x7 m5)
      ·
        refine g_if_eq (pc := 29) 36 dX5_vowelsOf_29 rfl ?_ ?_
        · refine g_iconst (pc := 36) 0 dX5_vowelsOf_36 (by decide) ?_
          exact g_sub [0, 1, 3] rfl (hkb3 0 m1)
        · refine g_iconst (pc := 32) 1 dX5_vowelsOf_32 (by decide) ?_
          refine g_goto (pc := 33) 37 dX5_vowelsOf_33 rfl ?_
          exact g_sub [0, 1, 3] rfl (hkb3 1 m1)
set_option maxHeartbeats 4000000 in
set_option maxRecDepth 100000 in
theorem ctX5_vowelsOf (ad : Nat → Nat) (n : Nat) (a1 : Int32) (μ : Mem) : Ct yX5_vowelsOf kX5_vowelsOf ad encI [.ref (ad 47), .int a1] μ (fX5_vowelsOf n a1 μ) := Ct.of (by decide +kernel) rfl (Nat.le_of_ble_eq_true rfl) (by
  show G kX5_vowelsOf ad encI 0 [(0, .ref (ad 47)), (1, .int a1)] [] μ (fX5_vowelsOf n a1 μ)
  unfold fX5_vowelsOf
  refine g_iconst (pc := 0) 0 dX5_vowelsOf_0 (by decide) ?_
  refine g_istore_n (pc := 1) [(2, .int 0), (0, .ref (ad 47)), (1, .int a1)] dX5_vowelsOf_1 rfl (by decide) rfl ?_
  refine g_iconst (pc := 2) 0 dX5_vowelsOf_2 (by decide) ?_
  refine g_istore_n (pc := 3) [(3, .int 0), (2, .int 0), (0, .ref (ad 47)), (1, .int a1)] dX5_vowelsOf_3 rfl (by decide) rfl ?_
  exact g_sub [2, 3, 1, 0] rfl (wX5_vowelsOf_L4 ad n a1 n 0 0 μ))
-- StopsByLettersModel.stopsOf(I)I
abbrev kX5_stopsOf : Cfg := (RX5, cX5_stopsOf, 2, (some .int), 2)
theorem dX5_stopsOf_0 : decode cX5_stopsOf 0 = .ok (.aload_n 0, 1) := by decide +kernel
theorem dX5_stopsOf_1 : decode cX5_stopsOf 1 = .ok (.getfield 19, 3) := by decide +kernel
theorem dX5_stopsOf_4 : decode cX5_stopsOf 4 = .ok (.iload_n 1, 1) := by decide +kernel
theorem dX5_stopsOf_5 : decode cX5_stopsOf 5 = .ok (.iaload, 1) := by decide +kernel
theorem dX5_stopsOf_6 : decode cX5_stopsOf 6 = .ok (.tableswitch 78 2 5 #[30, 36, 30, 57], 30) := by decide +kernel
theorem dX5_stopsOf_36 : decode cX5_stopsOf 36 = .ok (.aload_n 0, 1) := by decide +kernel
theorem dX5_stopsOf_37 : decode cX5_stopsOf 37 = .ok (.iload_n 1, 1) := by decide +kernel
theorem dX5_stopsOf_38 : decode cX5_stopsOf 38 = .ok (.invokevirtual 136, 3) := by decide +kernel
theorem dX5_stopsOf_41 : decode cX5_stopsOf 41 = .ok (.ireturn, 1) := by decide +kernel
theorem dX5_stopsOf_42 : decode cX5_stopsOf 42 = .ok (.aload_n 0, 1) := by decide +kernel
theorem dX5_stopsOf_43 : decode cX5_stopsOf 43 = .ok (.getfield 16, 3) := by decide +kernel
theorem dX5_stopsOf_46 : decode cX5_stopsOf 46 = .ok (.iload_n 1, 1) := by decide +kernel
theorem dX5_stopsOf_47 : decode cX5_stopsOf 47 = .ok (.iaload, 1) := by decide +kernel
theorem dX5_stopsOf_48 : decode cX5_stopsOf 48 = .ok (.aload_n 0, 1) := by decide +kernel
theorem dX5_stopsOf_49 : decode cX5_stopsOf 49 = .ok (.getfield 16, 3) := by decide +kernel
theorem dX5_stopsOf_52 : decode cX5_stopsOf 52 = .ok (.iload_n 1, 1) := by decide +kernel
theorem dX5_stopsOf_53 : decode cX5_stopsOf 53 = .ok (.iconst 1, 1) := by decide +kernel
theorem dX5_stopsOf_54 : decode cX5_stopsOf 54 = .ok (.iadd, 1) := by decide +kernel
theorem dX5_stopsOf_55 : decode cX5_stopsOf 55 = .ok (.aload_n 0, 1) := by decide +kernel
theorem dX5_stopsOf_56 : decode cX5_stopsOf 56 = .ok (.getfield 56, 3) := by decide +kernel
theorem dX5_stopsOf_59 : decode cX5_stopsOf 59 = .ok (.irem, 1) := by decide +kernel
theorem dX5_stopsOf_60 : decode cX5_stopsOf 60 = .ok (.iaload, 1) := by decide +kernel
theorem dX5_stopsOf_61 : decode cX5_stopsOf 61 = .ok (.iadd, 1) := by decide +kernel
theorem dX5_stopsOf_62 : decode cX5_stopsOf 62 = .ok (.ireturn, 1) := by decide +kernel
theorem dX5_stopsOf_63 : decode cX5_stopsOf 63 = .ok (.aload_n 0, 1) := by decide +kernel
theorem dX5_stopsOf_64 : decode cX5_stopsOf 64 = .ok (.getfield 13, 3) := by decide +kernel
theorem dX5_stopsOf_67 : decode cX5_stopsOf 67 = .ok (.bipush 10, 2) := by decide +kernel
theorem dX5_stopsOf_69 : decode cX5_stopsOf 69 = .ok (.iload_n 1, 1) := by decide +kernel
theorem dX5_stopsOf_70 : decode cX5_stopsOf 70 = .ok (.imul, 1) := by decide +kernel
theorem dX5_stopsOf_71 : decode cX5_stopsOf 71 = .ok (.aload_n 0, 1) := by decide +kernel
theorem dX5_stopsOf_72 : decode cX5_stopsOf 72 = .ok (.getfield 16, 3) := by decide +kernel
theorem dX5_stopsOf_75 : decode cX5_stopsOf 75 = .ok (.iload_n 1, 1) := by decide +kernel
theorem dX5_stopsOf_76 : decode cX5_stopsOf 76 = .ok (.iaload, 1) := by decide +kernel
theorem dX5_stopsOf_77 : decode cX5_stopsOf 77 = .ok (.iadd, 1) := by decide +kernel
theorem dX5_stopsOf_78 : decode cX5_stopsOf 78 = .ok (.iconst 1, 1) := by decide +kernel
theorem dX5_stopsOf_79 : decode cX5_stopsOf 79 = .ok (.isub, 1) := by decide +kernel
theorem dX5_stopsOf_80 : decode cX5_stopsOf 80 = .ok (.iaload, 1) := by decide +kernel
theorem dX5_stopsOf_81 : decode cX5_stopsOf 81 = .ok (.iconst 1, 1) := by decide +kernel
theorem dX5_stopsOf_82 : decode cX5_stopsOf 82 = .ok (.iadd, 1) := by decide +kernel
theorem dX5_stopsOf_83 : decode cX5_stopsOf 83 = .ok (.ireturn, 1) := by decide +kernel
theorem dX5_stopsOf_84 : decode cX5_stopsOf 84 = .ok (.aload_n 0, 1) := by decide +kernel
theorem dX5_stopsOf_85 : decode cX5_stopsOf 85 = .ok (.getfield 16, 3) := by decide +kernel
theorem dX5_stopsOf_88 : decode cX5_stopsOf 88 = .ok (.iload_n 1, 1) := by decide +kernel
theorem dX5_stopsOf_89 : decode cX5_stopsOf 89 = .ok (.iaload, 1) := by decide +kernel
theorem dX5_stopsOf_90 : decode cX5_stopsOf 90 = .ok (.ireturn, 1) := by decide +kernel
theorem lnX5_136 : Ln RX5 136 yX5_vowelsOf := Or.inl (tb_in 847 (by decide +kernel) rfl)
theorem moX5_vowelsOf : Mv yX5_vowelsOf kX5_vowelsOf 1 := ⟨⟨tb_in 850 (by decide +kernel) rfl, tb_in 92 (by decide +kernel) rfl, ⟨by decide, by decide⟩, by decide +kernel⟩, tb_in 849 (by decide +kernel) rfl, tb_in 69 (by decide +kernel) rfl⟩
def fX5_stopsOf (n : Nat) (a1 : Int32) (μ : Mem) : Option (Int32 × Mem) :=
  gd (inb a1 9) (bnd (μ.1 51 (Int32.toNatClampNeg a1)) (fun sx1 => if sx1 = 2 then bd (fX5_vowelsOf n a1 μ) (fun r3 m2 => some (r3, m2)) else if sx1 = 3 then gd (inb a1 9) (gd (nz (μ.1 47 4)) (gd (inb (jrem (a1 + 1) (μ.1 47 4)) 9) (some (((μ.1 50 (Int32.toNatClampNeg a1)) + (μ.1 50 (Int32.toNatClampNeg (jrem (a1 + 1) (μ.1 47 4))))), μ)))) else if sx1 = 4 then bd (fX5_vowelsOf n a1 μ) (fun r7 m6 => some (r7, m6)) else if sx1 = 5 then gd (inb a1 9) (gd (inb (((10 * a1) + (μ.1 50 (Int32.toNatClampNeg a1))) - 1) 90) (some (((μ.1 49 (Int32.toNatClampNeg (((10 * a1) + (μ.1 50 (Int32.toNatClampNeg a1))) - 1))) + 1), μ))) else gd (inb a1 9) (some ((μ.1 50 (Int32.toNatClampNeg a1)), μ))))
set_option maxHeartbeats 4000000 in
set_option maxRecDepth 100000 in
theorem ctX5_stopsOf (ad : Nat → Nat) (n : Nat) (a1 : Int32) (μ : Mem) : Ct yX5_stopsOf kX5_stopsOf ad encI [.ref (ad 47), .int a1] μ (fX5_stopsOf n a1 μ) := Ct.of (by decide +kernel) rfl (Nat.le_of_ble_eq_true rfl) (by
  show G kX5_stopsOf ad encI 0 [(0, .ref (ad 47)), (1, .int a1)] [] μ (fX5_stopsOf n a1 μ)
  unfold fX5_stopsOf
  refine g_aload_n (pc := 0) 0 dX5_stopsOf_0 rfl rfl ?_
  refine g_get (pc := 1) rfl foX5_19 (v := .ref (ad 51)) rfl dX5_stopsOf_1 ?_
  refine g_iload_n (pc := 4) 1 dX5_stopsOf_4 rfl rfl ?_
  refine g_iald (pc := 5) rfl (by decide) dX5_stopsOf_5 ?_
  refine g_swx (fun sx1 => ?_)
  refine g_ite (fun hq => ?_) (fun hs4 => ?_)
  · subst hq
    refine g_tabIn (pc := 6) 36 30 dX5_stopsOf_6 (by decide) ?_
    refine g_aload_n (pc := 36) 0 dX5_stopsOf_36 rfl rfl ?_
    refine g_iload_n (pc := 37) 1 dX5_stopsOf_37 rfl rfl ?_
    refine g_cVI (pc := 38) (st := []) [.int a1] rfl rfl moX5_vowelsOf lnX5_136 (ctX5_vowelsOf ad n a1 μ) rfl ⟨Nat.le_of_ble_eq_true rfl, Nat.le_of_ble_eq_true rfl⟩ rfl (Nat.le_of_ble_eq_true rfl) dX5_stopsOf_38 (fun r3 m2 => ?_)
    exact g_ireturn (pc := 41) dX5_stopsOf_41 rfl
  ·
    refine g_ite (fun hq => ?_) (fun hs5 => ?_)
    · subst hq
      refine g_tabIn (pc := 6) 42 36 dX5_stopsOf_6 (by decide) ?_
      refine g_aload_n (pc := 42) 0 dX5_stopsOf_42 rfl rfl ?_
      refine g_get (pc := 43) rfl foX5_16 (v := .ref (ad 50)) rfl dX5_stopsOf_43 ?_
      refine g_iload_n (pc := 46) 1 dX5_stopsOf_46 rfl rfl ?_
      refine g_iald (pc := 47) rfl (by decide) dX5_stopsOf_47 ?_
      refine g_aload_n (pc := 48) 0 dX5_stopsOf_48 rfl rfl ?_
      refine g_get (pc := 49) rfl foX5_16 (v := .ref (ad 50)) rfl dX5_stopsOf_49 ?_
      refine g_iload_n (pc := 52) 1 dX5_stopsOf_52 rfl rfl ?_
      refine g_iconst (pc := 53) 1 dX5_stopsOf_53 (by decide) ?_
      refine g_iadd (pc := 54) dX5_stopsOf_54 ?_
      refine g_aload_n (pc := 55) 0 dX5_stopsOf_55 rfl rfl ?_
      refine g_get (pc := 56) rfl foX5_56 (v := .int (μ.1 47 4)) rfl dX5_stopsOf_56 ?_
      refine g_iremG (pc := 59) dX5_stopsOf_59 ?_
      refine g_iald (pc := 60) rfl (by decide) dX5_stopsOf_60 ?_
      refine g_iadd (pc := 61) dX5_stopsOf_61 ?_
      exact g_ireturn (pc := 62) dX5_stopsOf_62 rfl
    ·
      refine g_ite (fun hq => ?_) (fun hs8 => ?_)
      · subst hq
        refine g_tabIn (pc := 6) 36 30 dX5_stopsOf_6 (by decide) ?_
        refine g_aload_n (pc := 36) 0 dX5_stopsOf_36 rfl rfl ?_
        refine g_iload_n (pc := 37) 1 dX5_stopsOf_37 rfl rfl ?_
        refine g_cVI (pc := 38) (st := []) [.int a1] rfl rfl moX5_vowelsOf lnX5_136 (ctX5_vowelsOf ad n a1 μ) rfl ⟨Nat.le_of_ble_eq_true rfl, Nat.le_of_ble_eq_true rfl⟩ rfl (Nat.le_of_ble_eq_true rfl) dX5_stopsOf_38 (fun r7 m6 => ?_)
        exact g_ireturn (pc := 41) dX5_stopsOf_41 rfl
      ·
        refine g_ite (fun hq => ?_) (fun hs9 => ?_)
        · subst hq
          refine g_tabIn (pc := 6) 63 57 dX5_stopsOf_6 (by decide) ?_
          refine g_aload_n (pc := 63) 0 dX5_stopsOf_63 rfl rfl ?_
          refine g_get (pc := 64) rfl foX5_13 (v := .ref (ad 49)) rfl dX5_stopsOf_64 ?_
          refine g_bipush (pc := 67) 10 dX5_stopsOf_67 (by decide) ?_
          refine g_iload_n (pc := 69) 1 dX5_stopsOf_69 rfl rfl ?_
          refine g_imul (pc := 70) dX5_stopsOf_70 ?_
          refine g_aload_n (pc := 71) 0 dX5_stopsOf_71 rfl rfl ?_
          refine g_get (pc := 72) rfl foX5_16 (v := .ref (ad 50)) rfl dX5_stopsOf_72 ?_
          refine g_iload_n (pc := 75) 1 dX5_stopsOf_75 rfl rfl ?_
          refine g_iald (pc := 76) rfl (by decide) dX5_stopsOf_76 ?_
          refine g_iadd (pc := 77) dX5_stopsOf_77 ?_
          refine g_iconst (pc := 78) 1 dX5_stopsOf_78 (by decide) ?_
          refine g_isub (pc := 79) dX5_stopsOf_79 ?_
          refine g_iald (pc := 80) rfl (by decide) dX5_stopsOf_80 ?_
          refine g_iconst (pc := 81) 1 dX5_stopsOf_81 (by decide) ?_
          refine g_iadd (pc := 82) dX5_stopsOf_82 ?_
          exact g_ireturn (pc := 83) dX5_stopsOf_83 rfl
        ·
          refine g_tabD (pc := 6) 84 dX5_stopsOf_6 [2, 3, 4, 5] (by decide) ⟨hs4, hs5, hs8, hs9, trivial⟩ rfl ?_
          refine g_aload_n (pc := 84) 0 dX5_stopsOf_84 rfl rfl ?_
          refine g_get (pc := 85) rfl foX5_16 (v := .ref (ad 50)) rfl dX5_stopsOf_85 ?_
          refine g_iload_n (pc := 88) 1 dX5_stopsOf_88 rfl rfl ?_
          refine g_iald (pc := 89) rfl (by decide) dX5_stopsOf_89 ?_
          exact g_ireturn (pc := 90) dX5_stopsOf_90 rfl)
-- StopsByLettersModel.bitAt(II)I
abbrev kX5_bitAt : Cfg := (RX5, cX5_bitAt, 4, (some .int), 1)
theorem dX5_bitAt_0 : decode cX5_bitAt 0 = .ok (.iload_n 1, 1) := by decide +kernel
theorem dX5_bitAt_1 : decode cX5_bitAt 1 = .ok (.iload_n 2, 1) := by decide +kernel
theorem dX5_bitAt_2 : decode cX5_bitAt 2 = .ok (.iadd, 1) := by decide +kernel
theorem dX5_bitAt_3 : decode cX5_bitAt 3 = .ok (.istore_n 3, 1) := by decide +kernel
theorem dX5_bitAt_4 : decode cX5_bitAt 4 = .ok (.aload_n 0, 1) := by decide +kernel
theorem dX5_bitAt_5 : decode cX5_bitAt 5 = .ok (.getfield 103, 3) := by decide +kernel
theorem dX5_bitAt_8 : decode cX5_bitAt 8 = .ok (.iconst 1, 1) := by decide +kernel
theorem dX5_bitAt_9 : decode cX5_bitAt 9 = .ok (.if_icmp .ne 20, 3) := by decide +kernel
theorem dX5_bitAt_12 : decode cX5_bitAt 12 = .ok (.iload_n 3, 1) := by decide +kernel
theorem dX5_bitAt_13 : decode cX5_bitAt 13 = .ok (.aload_n 0, 1) := by decide +kernel
theorem dX5_bitAt_14 : decode cX5_bitAt 14 = .ok (.getfield 56, 3) := by decide +kernel
theorem dX5_bitAt_17 : decode cX5_bitAt 17 = .ok (.irem, 1) := by decide +kernel
theorem dX5_bitAt_18 : decode cX5_bitAt 18 = .ok (.aload_n 0, 1) := by decide +kernel
theorem dX5_bitAt_19 : decode cX5_bitAt 19 = .ok (.getfield 56, 3) := by decide +kernel
theorem dX5_bitAt_22 : decode cX5_bitAt 22 = .ok (.iadd, 1) := by decide +kernel
theorem dX5_bitAt_23 : decode cX5_bitAt 23 = .ok (.aload_n 0, 1) := by decide +kernel
theorem dX5_bitAt_24 : decode cX5_bitAt 24 = .ok (.getfield 56, 3) := by decide +kernel
theorem dX5_bitAt_27 : decode cX5_bitAt 27 = .ok (.irem, 1) := by decide +kernel
theorem dX5_bitAt_28 : decode cX5_bitAt 28 = .ok (.istore_n 3, 1) := by decide +kernel
theorem dX5_bitAt_29 : decode cX5_bitAt 29 = .ok (.aload_n 0, 1) := by decide +kernel
theorem dX5_bitAt_30 : decode cX5_bitAt 30 = .ok (.iload_n 3, 1) := by decide +kernel
theorem dX5_bitAt_31 : decode cX5_bitAt 31 = .ok (.invokevirtual 100, 3) := by decide +kernel
theorem dX5_bitAt_34 : decode cX5_bitAt 34 = .ok (.ifCond .eq 9, 3) := by decide +kernel
theorem dX5_bitAt_37 : decode cX5_bitAt 37 = .ok (.iconst 1, 1) := by decide +kernel
theorem dX5_bitAt_38 : decode cX5_bitAt 38 = .ok (.iload_n 3, 1) := by decide +kernel
theorem dX5_bitAt_39 : decode cX5_bitAt 39 = .ok (.ishl, 1) := by decide +kernel
theorem dX5_bitAt_40 : decode cX5_bitAt 40 = .ok (.goto 4, 3) := by decide +kernel
theorem dX5_bitAt_43 : decode cX5_bitAt 43 = .ok (.iconst 0, 1) := by decide +kernel
theorem dX5_bitAt_44 : decode cX5_bitAt 44 = .ok (.ireturn, 1) := by decide +kernel
def fX5_bitAt (n : Nat) (a1 : Int32) (a2 : Int32) (μ : Mem) : Option (Int32 × Mem) :=
  bnd (a1 + a2) (fun x1 => bnd (fun (x3 : Int32) (m4 : Mem) => bd (fX5_isStation n x3 m4) (fun r6 m5 => if r6 = 0 then some (0, m5) else some ((jshl 1 x3), m5))) (fun kb2 => if (μ.1 47 5) = 1 then gd (nz (μ.1 47 4)) (gd (nz (μ.1 47 4)) (bnd (jrem ((jrem x1 (μ.1 47 4)) + (μ.1 47 4)) (μ.1 47 4)) (fun x7 => kb2 x7 μ))) else kb2 x1 μ))
set_option maxHeartbeats 4000000 in
set_option maxRecDepth 100000 in
theorem ctX5_bitAt (ad : Nat → Nat) (n : Nat) (a1 : Int32) (a2 : Int32) (μ : Mem) : Ct yX5_bitAt kX5_bitAt ad encI [.ref (ad 47), .int a1, .int a2] μ (fX5_bitAt n a1 a2 μ) := Ct.of (by decide +kernel) rfl (Nat.le_of_ble_eq_true rfl) (by
  show G kX5_bitAt ad encI 0 [(0, .ref (ad 47)), (1, .int a1), (2, .int a2)] [] μ (fX5_bitAt n a1 a2 μ)
  unfold fX5_bitAt
  refine g_iload_n (pc := 0) 1 dX5_bitAt_0 rfl rfl ?_
  refine g_iload_n (pc := 1) 2 dX5_bitAt_1 rfl rfl ?_
  refine g_iadd (pc := 2) dX5_bitAt_2 ?_
  refine g_istore_nB (pc := 3) (fun x1 => [(3, .int x1), (0, .ref (ad 47)), (1, .int a1), (2, .int a2)]) dX5_bitAt_3 rfl (by decide) (fun _ => rfl) (fun x1 => ?_)
  refine g_aload_n (pc := 4) 1 dX5_bitAt_4 rfl rfl ?_
  refine g_get (pc := 5) rfl foX5_103 (v := .int (μ.1 47 5)) rfl dX5_bitAt_5 ?_
  refine g_iconst (pc := 8) 1 dX5_bitAt_8 (by decide) ?_
  refine g_join (fun kb => ∀ (x3 : Int32) (m4 : Mem), G kX5_bitAt ad encI 29 [(0, .ref (ad 47)), (3, .int x3)] [] m4 (kb x3 m4)) (fun x3 m4 => ?_) (fun kb2 hkb2 => ?_)
  · refine g_aload_n (pc := 29) 0 dX5_bitAt_29 rfl rfl ?_
    refine g_iload_n (pc := 30) 1 dX5_bitAt_30 rfl rfl ?_
    refine g_cVI (pc := 31) (st := []) [.int x3] rfl rfl moX5_isStation lnX5_100 (ctX5_isStation ad n x3 m4) rfl ⟨Nat.le_of_ble_eq_true rfl, Nat.le_of_ble_eq_true rfl⟩ rfl (Nat.le_of_ble_eq_true rfl) dX5_bitAt_31 (fun r6 m5 => ?_)
    refine g_if_eq (pc := 34) 43 dX5_bitAt_34 rfl ?_ ?_
    · refine g_iconst (pc := 43) 0 dX5_bitAt_43 (by decide) ?_
      exact g_ireturn (pc := 44) dX5_bitAt_44 rfl
    · refine g_iconst (pc := 37) 1 dX5_bitAt_37 (by decide) ?_
      refine g_iload_n (pc := 38) 1 dX5_bitAt_38 rfl rfl ?_
      refine g_ishl' (pc := 39) dX5_bitAt_39 ?_
      refine g_goto (pc := 40) 44 dX5_bitAt_40 rfl ?_
      exact g_ireturn (pc := 44) dX5_bitAt_44 rfl
  ·
    refine g_icmp_ne (pc := 9) 29 dX5_bitAt_9 rfl ?_ ?_
    · exact g_sub [1, 0] rfl (hkb2 x1 μ)
    · refine g_iload_n (pc := 12) 0 dX5_bitAt_12 rfl rfl ?_
      refine g_aload_n (pc := 13) 1 dX5_bitAt_13 rfl rfl ?_
      refine g_get (pc := 14) rfl foX5_56 (v := .int (μ.1 47 4)) rfl dX5_bitAt_14 ?_
      refine g_iremG (pc := 17) dX5_bitAt_17 ?_
      refine g_aload_n (pc := 18) 1 dX5_bitAt_18 rfl rfl ?_
      refine g_get (pc := 19) rfl foX5_56 (v := .int (μ.1 47 4)) rfl dX5_bitAt_19 ?_
      refine g_iadd (pc := 22) dX5_bitAt_22 ?_
      refine g_aload_n (pc := 23) 1 dX5_bitAt_23 rfl rfl ?_
      refine g_get (pc := 24) rfl foX5_56 (v := .int (μ.1 47 4)) rfl dX5_bitAt_24 ?_
      refine g_iremG (pc := 27) dX5_bitAt_27 ?_
      refine g_istore_nB (pc := 28) (fun x7 => [(3, .int x7), (0, .ref (ad 47)), (1, .int a1), (2, .int a2)]) dX5_bitAt_28 rfl (by decide) (fun _ => rfl) (fun x7 => ?_)
      exact g_sub [1, 0] rfl (hkb2 x7 μ))
-- StopsByLettersModel.ridesOf(I)I
abbrev kX5_ridesOf : Cfg := (RX5, cX5_ridesOf, 4, (some .int), 3)
theorem dX5_ridesOf_0 : decode cX5_ridesOf 0 = .ok (.aload_n 0, 1) := by decide +kernel
theorem dX5_ridesOf_1 : decode cX5_ridesOf 1 = .ok (.iload_n 1, 1) := by decide +kernel
theorem dX5_ridesOf_2 : decode cX5_ridesOf 2 = .ok (.invokevirtual 139, 3) := by decide +kernel
theorem dX5_ridesOf_5 : decode cX5_ridesOf 5 = .ok (.istore_n 2, 1) := by decide +kernel
theorem dX5_ridesOf_6 : decode cX5_ridesOf 6 = .ok (.aload_n 0, 1) := by decide +kernel
theorem dX5_ridesOf_7 : decode cX5_ridesOf 7 = .ok (.getfield 19, 3) := by decide +kernel
theorem dX5_ridesOf_10 : decode cX5_ridesOf 10 = .ok (.iload_n 1, 1) := by decide +kernel
theorem dX5_ridesOf_11 : decode cX5_ridesOf 11 = .ok (.iaload, 1) := by decide +kernel
theorem dX5_ridesOf_12 : decode cX5_ridesOf 12 = .ok (.iconst 4, 1) := by decide +kernel
theorem dX5_ridesOf_13 : decode cX5_ridesOf 13 = .ok (.if_icmp .ne 12, 3) := by decide +kernel
theorem dX5_ridesOf_16 : decode cX5_ridesOf 16 = .ok (.iload_n 2, 1) := by decide +kernel
theorem dX5_ridesOf_17 : decode cX5_ridesOf 17 = .ok (.iconst 2, 1) := by decide +kernel
theorem dX5_ridesOf_18 : decode cX5_ridesOf 18 = .ok (.irem, 1) := by decide +kernel
theorem dX5_ridesOf_19 : decode cX5_ridesOf 19 = .ok (.iconst 1, 1) := by decide +kernel
theorem dX5_ridesOf_20 : decode cX5_ridesOf 20 = .ok (.if_icmp .ne 5, 3) := by decide +kernel
theorem dX5_ridesOf_23 : decode cX5_ridesOf 23 = .ok (.iconst 0, 1) := by decide +kernel
theorem dX5_ridesOf_24 : decode cX5_ridesOf 24 = .ok (.ireturn, 1) := by decide +kernel
theorem dX5_ridesOf_25 : decode cX5_ridesOf 25 = .ok (.aload_n 0, 1) := by decide +kernel
theorem dX5_ridesOf_26 : decode cX5_ridesOf 26 = .ok (.iload_n 1, 1) := by decide +kernel
theorem dX5_ridesOf_27 : decode cX5_ridesOf 27 = .ok (.iload_n 2, 1) := by decide +kernel
theorem dX5_ridesOf_28 : decode cX5_ridesOf 28 = .ok (.invokevirtual 142, 3) := by decide +kernel
theorem dX5_ridesOf_31 : decode cX5_ridesOf 31 = .ok (.istore_n 3, 1) := by decide +kernel
theorem dX5_ridesOf_32 : decode cX5_ridesOf 32 = .ok (.aload_n 0, 1) := by decide +kernel
theorem dX5_ridesOf_33 : decode cX5_ridesOf 33 = .ok (.getfield 19, 3) := by decide +kernel
theorem dX5_ridesOf_36 : decode cX5_ridesOf 36 = .ok (.iload_n 1, 1) := by decide +kernel
theorem dX5_ridesOf_37 : decode cX5_ridesOf 37 = .ok (.iaload, 1) := by decide +kernel
theorem dX5_ridesOf_38 : decode cX5_ridesOf 38 = .ok (.iconst 1, 1) := by decide +kernel
theorem dX5_ridesOf_39 : decode cX5_ridesOf 39 = .ok (.if_icmp .eq 13, 3) := by decide +kernel
theorem dX5_ridesOf_42 : decode cX5_ridesOf 42 = .ok (.aload_n 0, 1) := by decide +kernel
theorem dX5_ridesOf_43 : decode cX5_ridesOf 43 = .ok (.getfield 19, 3) := by decide +kernel
theorem dX5_ridesOf_46 : decode cX5_ridesOf 46 = .ok (.iload_n 1, 1) := by decide +kernel
theorem dX5_ridesOf_47 : decode cX5_ridesOf 47 = .ok (.iaload, 1) := by decide +kernel
theorem dX5_ridesOf_48 : decode cX5_ridesOf 48 = .ok (.iconst 5, 1) := by decide +kernel
theorem dX5_ridesOf_49 : decode cX5_ridesOf 49 = .ok (.if_icmp .ne 7, 3) := by decide +kernel
theorem dX5_ridesOf_52 : decode cX5_ridesOf 52 = .ok (.iload_n 3, 1) := by decide +kernel
theorem dX5_ridesOf_53 : decode cX5_ridesOf 53 = .ok (.goto 12, 3) := by decide +kernel
theorem dX5_ridesOf_56 : decode cX5_ridesOf 56 = .ok (.iload_n 3, 1) := by decide +kernel
theorem dX5_ridesOf_57 : decode cX5_ridesOf 57 = .ok (.aload_n 0, 1) := by decide +kernel
theorem dX5_ridesOf_58 : decode cX5_ridesOf 58 = .ok (.iload_n 1, 1) := by decide +kernel
theorem dX5_ridesOf_59 : decode cX5_ridesOf 59 = .ok (.iload_n 2, 1) := by decide +kernel
theorem dX5_ridesOf_60 : decode cX5_ridesOf 60 = .ok (.ineg, 1) := by decide +kernel
theorem dX5_ridesOf_61 : decode cX5_ridesOf 61 = .ok (.invokevirtual 142, 3) := by decide +kernel
theorem dX5_ridesOf_64 : decode cX5_ridesOf 64 = .ok (.ior, 1) := by decide +kernel
theorem dX5_ridesOf_65 : decode cX5_ridesOf 65 = .ok (.ireturn, 1) := by decide +kernel
theorem lnX5_142 : Ln RX5 142 yX5_bitAt := Or.inl (tb_in 854 (by decide +kernel) rfl)
theorem moX5_bitAt : Mv yX5_bitAt kX5_bitAt 2 := ⟨⟨tb_in 857 (by decide +kernel) rfl, tb_in 92 (by decide +kernel) rfl, ⟨by decide, by decide⟩, by decide +kernel⟩, tb_in 856 (by decide +kernel) rfl, tb_in 70 (by decide +kernel) rfl⟩
theorem lnX5_139 : Ln RX5 139 yX5_stopsOf := Or.inl (tb_in 843 (by decide +kernel) rfl)
theorem moX5_stopsOf : Mv yX5_stopsOf kX5_stopsOf 1 := ⟨⟨tb_in 846 (by decide +kernel) rfl, tb_in 92 (by decide +kernel) rfl, ⟨by decide, by decide⟩, by decide +kernel⟩, tb_in 845 (by decide +kernel) rfl, tb_in 68 (by decide +kernel) rfl⟩
def fX5_ridesOf (n : Nat) (a1 : Int32) (μ : Mem) : Option (Int32 × Mem) :=
  bd (fX5_stopsOf n a1 μ) (fun r2 m1 => gd (inb a1 9) (bnd (fun (m4 : Mem) => bd (fX5_bitAt n a1 r2 m4) (fun r6 m5 => gd (inb a1 9) (if (m5.1 51 (Int32.toNatClampNeg a1)) = 1 then some (r6, m5) else gd (inb a1 9) (if (m5.1 51 (Int32.toNatClampNeg a1)) = 5 then some (r6, m5) else bd (fX5_bitAt n a1 (-r2) m5) (fun r8 m7 => some ((r6 ||| r8), m7)))))) (fun kb3 => if (m1.1 51 (Int32.toNatClampNeg a1)) = 4 then if (jrem r2 2) = 1 then some (0, m1) else kb3 m1 else kb3 m1)))
set_option maxHeartbeats 4000000 in
set_option maxRecDepth 100000 in
theorem ctX5_ridesOf (ad : Nat → Nat) (n : Nat) (a1 : Int32) (μ : Mem) : Ct yX5_ridesOf kX5_ridesOf ad encI [.ref (ad 47), .int a1] μ (fX5_ridesOf n a1 μ) := Ct.of (by decide +kernel) rfl (Nat.le_of_ble_eq_true rfl) (by
  show G kX5_ridesOf ad encI 0 [(0, .ref (ad 47)), (1, .int a1)] [] μ (fX5_ridesOf n a1 μ)
  unfold fX5_ridesOf
  refine g_aload_n (pc := 0) 0 dX5_ridesOf_0 rfl rfl ?_
  refine g_iload_n (pc := 1) 1 dX5_ridesOf_1 rfl rfl ?_
  refine g_cVI (pc := 2) (st := []) [.int a1] rfl rfl moX5_stopsOf lnX5_139 (ctX5_stopsOf ad n a1 μ) rfl ⟨Nat.le_of_ble_eq_true rfl, Nat.le_of_ble_eq_true rfl⟩ rfl (Nat.le_of_ble_eq_true rfl) dX5_ridesOf_2 (fun r2 m1 => ?_)
  refine g_istore_n (pc := 5) [(2, .int r2), (0, .ref (ad 47)), (1, .int a1)] dX5_ridesOf_5 rfl (by decide) rfl ?_
  refine g_aload_n (pc := 6) 1 dX5_ridesOf_6 rfl rfl ?_
  refine g_get (pc := 7) rfl foX5_19 (v := .ref (ad 51)) rfl dX5_ridesOf_7 ?_
  refine g_iload_n (pc := 10) 2 dX5_ridesOf_10 rfl rfl ?_
  refine g_iald (pc := 11) rfl (by decide) dX5_ridesOf_11 ?_
  refine g_iconst (pc := 12) 4 dX5_ridesOf_12 (by decide) ?_
  refine g_join (fun kb => ∀ (m4 : Mem), G kX5_ridesOf ad encI 25 [(0, .ref (ad 47)), (1, .int a1), (2, .int r2)] [] m4 (kb m4)) (fun m4 => ?_) (fun kb3 hkb3 => ?_)
  · refine g_aload_n (pc := 25) 0 dX5_ridesOf_25 rfl rfl ?_
    refine g_iload_n (pc := 26) 1 dX5_ridesOf_26 rfl rfl ?_
    refine g_iload_n (pc := 27) 2 dX5_ridesOf_27 rfl rfl ?_
    refine g_cVI (pc := 28) (st := []) [.int a1, .int r2] rfl rfl moX5_bitAt lnX5_142 (ctX5_bitAt ad n a1 r2 m4) rfl ⟨Nat.le_of_ble_eq_true rfl, Nat.le_of_ble_eq_true rfl⟩ rfl (Nat.le_of_ble_eq_true rfl) dX5_ridesOf_28 (fun r6 m5 => ?_)
    refine g_istore_n (pc := 31) [(3, .int r6), (0, .ref (ad 47)), (1, .int a1), (2, .int r2)] dX5_ridesOf_31 rfl (by decide) rfl ?_
    refine g_aload_n (pc := 32) 1 dX5_ridesOf_32 rfl rfl ?_
    refine g_get (pc := 33) rfl foX5_19 (v := .ref (ad 51)) rfl dX5_ridesOf_33 ?_
    refine g_iload_n (pc := 36) 2 dX5_ridesOf_36 rfl rfl ?_
    refine g_iald (pc := 37) rfl (by decide) dX5_ridesOf_37 ?_
    refine g_iconst (pc := 38) 1 dX5_ridesOf_38 (by decide) ?_
    refine g_icmp_eq (pc := 39) 52 dX5_ridesOf_39 rfl ?_ ?_
    · refine g_iload_n (pc := 52) 0 dX5_ridesOf_52 rfl rfl ?_
      refine g_goto (pc := 53) 65 dX5_ridesOf_53 rfl ?_
      exact g_ireturn (pc := 65) dX5_ridesOf_65 rfl
    · refine g_aload_n (pc := 42) 1 dX5_ridesOf_42 rfl rfl ?_
      refine g_get (pc := 43) rfl foX5_19 (v := .ref (ad 51)) rfl dX5_ridesOf_43 ?_
      refine g_iload_n (pc := 46) 2 dX5_ridesOf_46 rfl rfl ?_
      refine g_iald (pc := 47) rfl (by decide) dX5_ridesOf_47 ?_
      refine g_iconst (pc := 48) 5 dX5_ridesOf_48 (by decide) ?_
      refine g_icmp_ne (pc := 49) 56 dX5_ridesOf_49 rfl ?_ ?_
      · refine g_iload_n (pc := 56) 0 dX5_ridesOf_56 rfl rfl ?_
        refine g_aload_n (pc := 57) 1 dX5_ridesOf_57 rfl rfl ?_
        refine g_iload_n (pc := 58) 2 dX5_ridesOf_58 rfl rfl ?_
        refine g_iload_n (pc := 59) 3 dX5_ridesOf_59 rfl rfl ?_
        refine g_ineg (pc := 60) dX5_ridesOf_60 ?_
        refine g_cVI (pc := 61) (st := [.int r6]) [.int a1, .int (-r2)] rfl rfl moX5_bitAt lnX5_142 (ctX5_bitAt ad n a1 (-r2) m5) rfl ⟨Nat.le_of_ble_eq_true rfl, Nat.le_of_ble_eq_true rfl⟩ rfl (Nat.le_of_ble_eq_true rfl) dX5_ridesOf_61 (fun r8 m7 => ?_)
        refine g_ior (pc := 64) dX5_ridesOf_64 ?_
        exact g_ireturn (pc := 65) dX5_ridesOf_65 rfl
      · refine g_iload_n (pc := 52) 0 dX5_ridesOf_52 rfl rfl ?_
        refine g_goto (pc := 53) 65 dX5_ridesOf_53 rfl ?_
        exact g_ireturn (pc := 65) dX5_ridesOf_65 rfl
  ·
    refine g_icmp_ne (pc := 13) 25 dX5_ridesOf_13 rfl ?_ ?_
    · exact g_sub [1, 2, 0] rfl (hkb3 m1)
    · refine g_iload_n (pc := 16) 0 dX5_ridesOf_16 rfl rfl ?_
      refine g_iconst (pc := 17) 2 dX5_ridesOf_17 (by decide) ?_
      refine g_irem' (pc := 18) dX5_ridesOf_18 (by decide) ?_
      refine g_iconst (pc := 19) 1 dX5_ridesOf_19 (by decide) ?_
      refine g_icmp_ne (pc := 20) 25 dX5_ridesOf_20 rfl ?_ ?_
      · exact g_sub [1, 2, 0] rfl (hkb3 m1)
      · refine g_iconst (pc := 23) 0 dX5_ridesOf_23 (by decide) ?_
        exact g_ireturn (pc := 24) dX5_ridesOf_24 rfl)
-- StopsByLettersModel.station(II)I
abbrev kX5_station : Cfg := (RX5, cX5_station, 3, (some .int), 4)
theorem dX5_station_0 : decode cX5_station 0 = .ok (.aload_n 0, 1) := by decide +kernel
theorem dX5_station_1 : decode cX5_station 1 = .ok (.iload_n 1, 1) := by decide +kernel
theorem dX5_station_2 : decode cX5_station 2 = .ok (.invokevirtual 100, 3) := by decide +kernel
theorem dX5_station_5 : decode cX5_station 5 = .ok (.ifCond .ne 9, 3) := by decide +kernel
theorem dX5_station_8 : decode cX5_station 8 = .ok (.aload_n 0, 1) := by decide +kernel
theorem dX5_station_9 : decode cX5_station 9 = .ok (.iconst (-1), 1) := by decide +kernel
theorem dX5_station_10 : decode cX5_station 10 = .ok (.invokevirtual 67, 3) := by decide +kernel
theorem dX5_station_13 : decode cX5_station 13 = .ok (.ireturn, 1) := by decide +kernel
theorem dX5_station_14 : decode cX5_station 14 = .ok (.iload_n 2, 1) := by decide +kernel
theorem dX5_station_15 : decode cX5_station 15 = .ok (.tableswitch 55 0 3 #[29, 36, 43, 49], 29) := by decide +kernel
theorem dX5_station_44 : decode cX5_station 44 = .ok (.aload_n 0, 1) := by decide +kernel
theorem dX5_station_45 : decode cX5_station 45 = .ok (.getfield 19, 3) := by decide +kernel
theorem dX5_station_48 : decode cX5_station 48 = .ok (.iload_n 1, 1) := by decide +kernel
theorem dX5_station_49 : decode cX5_station 49 = .ok (.iaload, 1) := by decide +kernel
theorem dX5_station_50 : decode cX5_station 50 = .ok (.ireturn, 1) := by decide +kernel
theorem dX5_station_51 : decode cX5_station 51 = .ok (.aload_n 0, 1) := by decide +kernel
theorem dX5_station_52 : decode cX5_station 52 = .ok (.getfield 16, 3) := by decide +kernel
theorem dX5_station_55 : decode cX5_station 55 = .ok (.iload_n 1, 1) := by decide +kernel
theorem dX5_station_56 : decode cX5_station 56 = .ok (.iaload, 1) := by decide +kernel
theorem dX5_station_57 : decode cX5_station 57 = .ok (.ireturn, 1) := by decide +kernel
theorem dX5_station_58 : decode cX5_station 58 = .ok (.aload_n 0, 1) := by decide +kernel
theorem dX5_station_59 : decode cX5_station 59 = .ok (.iload_n 1, 1) := by decide +kernel
theorem dX5_station_60 : decode cX5_station 60 = .ok (.invokevirtual 146, 3) := by decide +kernel
theorem dX5_station_63 : decode cX5_station 63 = .ok (.ireturn, 1) := by decide +kernel
theorem dX5_station_64 : decode cX5_station 64 = .ok (.aload_n 0, 1) := by decide +kernel
theorem dX5_station_65 : decode cX5_station 65 = .ok (.iload_n 1, 1) := by decide +kernel
theorem dX5_station_66 : decode cX5_station 66 = .ok (.invokevirtual 139, 3) := by decide +kernel
theorem dX5_station_69 : decode cX5_station 69 = .ok (.ireturn, 1) := by decide +kernel
theorem dX5_station_70 : decode cX5_station 70 = .ok (.aload_n 0, 1) := by decide +kernel
theorem dX5_station_71 : decode cX5_station 71 = .ok (.bipush (-2), 2) := by decide +kernel
theorem dX5_station_73 : decode cX5_station 73 = .ok (.invokevirtual 67, 3) := by decide +kernel
theorem dX5_station_76 : decode cX5_station 76 = .ok (.ireturn, 1) := by decide +kernel
theorem lnX5_146 : Ln RX5 146 yX5_ridesOf := Or.inl (tb_in 839 (by decide +kernel) rfl)
theorem moX5_ridesOf : Mv yX5_ridesOf kX5_ridesOf 1 := ⟨⟨tb_in 842 (by decide +kernel) rfl, tb_in 92 (by decide +kernel) rfl, ⟨by decide, by decide⟩, by decide +kernel⟩, tb_in 841 (by decide +kernel) rfl, tb_in 67 (by decide +kernel) rfl⟩
def fX5_station (n : Nat) (a1 : Int32) (a2 : Int32) (μ : Mem) : Option (Int32 × Mem) :=
  bd (fX5_isStation n a1 μ) (fun r2 m1 => if r2 = 0 then bd (fX5_no n (-1) m1) (fun r15 m14 => some (r15, m14)) else bnd a2 (fun sx3 => if sx3 = 0 then gd (inb a1 9) (some ((m1.1 51 (Int32.toNatClampNeg a1)), m1)) else if sx3 = 1 then gd (inb a1 9) (some ((m1.1 50 (Int32.toNatClampNeg a1)), m1)) else if sx3 = 2 then bd (fX5_ridesOf n a1 m1) (fun r7 m6 => some (r7, m6)) else if sx3 = 3 then bd (fX5_stopsOf n a1 m1) (fun r10 m9 => some (r10, m9)) else bd (fX5_no n (-2) m1) (fun r13 m12 => some (r13, m12))))
set_option maxHeartbeats 4000000 in
set_option maxRecDepth 100000 in
theorem ctX5_station (ad : Nat → Nat) (n : Nat) (a1 : Int32) (a2 : Int32) (μ : Mem) : Ct yX5_station kX5_station ad encI [.ref (ad 47), .int a1, .int a2] μ (fX5_station n a1 a2 μ) := Ct.of (by decide +kernel) rfl (Nat.le_of_ble_eq_true rfl) (by
  show G kX5_station ad encI 0 [(0, .ref (ad 47)), (1, .int a1), (2, .int a2)] [] μ (fX5_station n a1 a2 μ)
  unfold fX5_station
  refine g_aload_n (pc := 0) 0 dX5_station_0 rfl rfl ?_
  refine g_iload_n (pc := 1) 1 dX5_station_1 rfl rfl ?_
  refine g_cVI (pc := 2) (st := []) [.int a1] rfl rfl moX5_isStation lnX5_100 (ctX5_isStation ad n a1 μ) rfl ⟨Nat.le_of_ble_eq_true rfl, Nat.le_of_ble_eq_true rfl⟩ rfl (Nat.le_of_ble_eq_true rfl) dX5_station_2 (fun r2 m1 => ?_)
  refine g_if_ne (pc := 5) 14 dX5_station_5 rfl ?_ ?_
  · refine g_iload_n (pc := 14) 2 dX5_station_14 rfl rfl ?_
    refine g_swx (fun sx3 => ?_)
    refine g_ite (fun hq => ?_) (fun hs4 => ?_)
    · subst hq
      refine g_tabIn (pc := 15) 44 29 dX5_station_15 (by decide) ?_
      refine g_aload_n (pc := 44) 0 dX5_station_44 rfl rfl ?_
      refine g_get (pc := 45) rfl foX5_19 (v := .ref (ad 51)) rfl dX5_station_45 ?_
      refine g_iload_n (pc := 48) 1 dX5_station_48 rfl rfl ?_
      refine g_iald (pc := 49) rfl (by decide) dX5_station_49 ?_
      exact g_ireturn (pc := 50) dX5_station_50 rfl
    ·
      refine g_ite (fun hq => ?_) (fun hs5 => ?_)
      · subst hq
        refine g_tabIn (pc := 15) 51 36 dX5_station_15 (by decide) ?_
        refine g_aload_n (pc := 51) 0 dX5_station_51 rfl rfl ?_
        refine g_get (pc := 52) rfl foX5_16 (v := .ref (ad 50)) rfl dX5_station_52 ?_
        refine g_iload_n (pc := 55) 1 dX5_station_55 rfl rfl ?_
        refine g_iald (pc := 56) rfl (by decide) dX5_station_56 ?_
        exact g_ireturn (pc := 57) dX5_station_57 rfl
      ·
        refine g_ite (fun hq => ?_) (fun hs8 => ?_)
        · subst hq
          refine g_tabIn (pc := 15) 58 43 dX5_station_15 (by decide) ?_
          refine g_aload_n (pc := 58) 0 dX5_station_58 rfl rfl ?_
          refine g_iload_n (pc := 59) 1 dX5_station_59 rfl rfl ?_
          refine g_cVI (pc := 60) (st := []) [.int a1] rfl rfl moX5_ridesOf lnX5_146 (ctX5_ridesOf ad n a1 m1) rfl ⟨Nat.le_of_ble_eq_true rfl, Nat.le_of_ble_eq_true rfl⟩ rfl (Nat.le_of_ble_eq_true rfl) dX5_station_60 (fun r7 m6 => ?_)
          exact g_ireturn (pc := 63) dX5_station_63 rfl
        ·
          refine g_ite (fun hq => ?_) (fun hs11 => ?_)
          · subst hq
            refine g_tabIn (pc := 15) 64 49 dX5_station_15 (by decide) ?_
            refine g_aload_n (pc := 64) 0 dX5_station_64 rfl rfl ?_
            refine g_iload_n (pc := 65) 1 dX5_station_65 rfl rfl ?_
            refine g_cVI (pc := 66) (st := []) [.int a1] rfl rfl moX5_stopsOf lnX5_139 (ctX5_stopsOf ad n a1 m1) rfl ⟨Nat.le_of_ble_eq_true rfl, Nat.le_of_ble_eq_true rfl⟩ rfl (Nat.le_of_ble_eq_true rfl) dX5_station_66 (fun r10 m9 => ?_)
            exact g_ireturn (pc := 69) dX5_station_69 rfl
          ·
            refine g_tabD (pc := 15) 70 dX5_station_15 [0, 1, 2, 3] (by decide) ⟨hs4, hs5, hs8, hs11, trivial⟩ rfl ?_
            refine g_aload_n (pc := 70) 0 dX5_station_70 rfl rfl ?_
            refine g_bipush (pc := 71) (-2) dX5_station_71 (by decide) ?_
            refine g_cVI (pc := 73) (st := []) [.int (-2)] rfl rfl moX5_no lnX5_67 (ctX5_no ad n (-2) m1) rfl ⟨Nat.le_of_ble_eq_true rfl, Nat.le_of_ble_eq_true rfl⟩ rfl (Nat.le_of_ble_eq_true rfl) dX5_station_73 (fun r13 m12 => ?_)
            exact g_ireturn (pc := 76) dX5_station_76 rfl
  · refine g_aload_n (pc := 8) 0 dX5_station_8 rfl rfl ?_
    refine g_iconst (pc := 9) (-1) dX5_station_9 (by decide) ?_
    refine g_cVI (pc := 10) (st := []) [.int (-1)] rfl rfl moX5_no lnX5_67 (ctX5_no ad n (-1) m1) rfl ⟨Nat.le_of_ble_eq_true rfl, Nat.le_of_ble_eq_true rfl⟩ rfl (Nat.le_of_ble_eq_true rfl) dX5_station_10 (fun r15 m14 => ?_)
    exact g_ireturn (pc := 13) dX5_station_13 rfl)
-- StopsByLettersModel.name(II)I
abbrev kX5_name : Cfg := (RX5, cX5_name, 3, (some .int), 1)
theorem dX5_name_0 : decode cX5_name 0 = .ok (.aload_n 0, 1) := by decide +kernel
theorem dX5_name_1 : decode cX5_name 1 = .ok (.iload_n 1, 1) := by decide +kernel
theorem dX5_name_2 : decode cX5_name 2 = .ok (.invokevirtual 100, 3) := by decide +kernel
theorem dX5_name_5 : decode cX5_name 5 = .ok (.ifCond .eq 33, 3) := by decide +kernel
theorem dX5_name_8 : decode cX5_name 8 = .ok (.iload_n 2, 1) := by decide +kernel
theorem dX5_name_9 : decode cX5_name 9 = .ok (.iconst 0, 1) := by decide +kernel
theorem dX5_name_10 : decode cX5_name 10 = .ok (.aload_n 0, 1) := by decide +kernel
theorem dX5_name_11 : decode cX5_name 11 = .ok (.getfield 16, 3) := by decide +kernel
theorem dX5_name_14 : decode cX5_name 14 = .ok (.iload_n 1, 1) := by decide +kernel
theorem dX5_name_15 : decode cX5_name 15 = .ok (.iaload, 1) := by decide +kernel
theorem dX5_name_16 : decode cX5_name 16 = .ok (.iconst 1, 1) := by decide +kernel
theorem dX5_name_17 : decode cX5_name 17 = .ok (.isub, 1) := by decide +kernel
theorem dX5_name_18 : decode cX5_name 18 = .ok (.invokestatic 81, 3) := by decide +kernel
theorem dX5_name_21 : decode cX5_name 21 = .ok (.ifCond .eq 17, 3) := by decide +kernel
theorem dX5_name_24 : decode cX5_name 24 = .ok (.aload_n 0, 1) := by decide +kernel
theorem dX5_name_25 : decode cX5_name 25 = .ok (.getfield 13, 3) := by decide +kernel
theorem dX5_name_28 : decode cX5_name 28 = .ok (.bipush 10, 2) := by decide +kernel
theorem dX5_name_30 : decode cX5_name 30 = .ok (.iload_n 1, 1) := by decide +kernel
theorem dX5_name_31 : decode cX5_name 31 = .ok (.imul, 1) := by decide +kernel
theorem dX5_name_32 : decode cX5_name 32 = .ok (.iload_n 2, 1) := by decide +kernel
theorem dX5_name_33 : decode cX5_name 33 = .ok (.iadd, 1) := by decide +kernel
theorem dX5_name_34 : decode cX5_name 34 = .ok (.iaload, 1) := by decide +kernel
theorem dX5_name_35 : decode cX5_name 35 = .ok (.goto 8, 3) := by decide +kernel
theorem dX5_name_38 : decode cX5_name 38 = .ok (.aload_n 0, 1) := by decide +kernel
theorem dX5_name_39 : decode cX5_name 39 = .ok (.iconst (-1), 1) := by decide +kernel
theorem dX5_name_40 : decode cX5_name 40 = .ok (.invokevirtual 67, 3) := by decide +kernel
theorem dX5_name_43 : decode cX5_name 43 = .ok (.ireturn, 1) := by decide +kernel
def fX5_name (n : Nat) (a1 : Int32) (a2 : Int32) (μ : Mem) : Option (Int32 × Mem) :=
  bd (fX5_isStation n a1 μ) (fun r2 m1 => if r2 = 0 then bd (fX5_no n (-1) m1) (fun r4 m3 => some (r4, m3)) else gd (inb a1 9) (bd (fX5_isIn n a2 0 ((m1.1 50 (Int32.toNatClampNeg a1)) - 1) m1) (fun r6 m5 => if r6 = 0 then bd (fX5_no n (-1) m5) (fun r8 m7 => some (r8, m7)) else gd (inb ((10 * a1) + a2) 90) (some ((m5.1 49 (Int32.toNatClampNeg ((10 * a1) + a2))), m5)))))
set_option maxHeartbeats 4000000 in
set_option maxRecDepth 100000 in
theorem ctX5_name (ad : Nat → Nat) (n : Nat) (a1 : Int32) (a2 : Int32) (μ : Mem) : Ct yX5_name kX5_name ad encI [.ref (ad 47), .int a1, .int a2] μ (fX5_name n a1 a2 μ) := Ct.of (by decide +kernel) rfl (Nat.le_of_ble_eq_true rfl) (by
  show G kX5_name ad encI 0 [(0, .ref (ad 47)), (1, .int a1), (2, .int a2)] [] μ (fX5_name n a1 a2 μ)
  unfold fX5_name
  refine g_aload_n (pc := 0) 0 dX5_name_0 rfl rfl ?_
  refine g_iload_n (pc := 1) 1 dX5_name_1 rfl rfl ?_
  refine g_cVI (pc := 2) (st := []) [.int a1] rfl rfl moX5_isStation lnX5_100 (ctX5_isStation ad n a1 μ) rfl ⟨Nat.le_of_ble_eq_true rfl, Nat.le_of_ble_eq_true rfl⟩ rfl (Nat.le_of_ble_eq_true rfl) dX5_name_2 (fun r2 m1 => ?_)
  refine g_if_eq (pc := 5) 38 dX5_name_5 rfl ?_ ?_
  · refine g_aload_n (pc := 38) 0 dX5_name_38 rfl rfl ?_
    refine g_iconst (pc := 39) (-1) dX5_name_39 (by decide) ?_
    refine g_cVI (pc := 40) (st := []) [.int (-1)] rfl rfl moX5_no lnX5_67 (ctX5_no ad n (-1) m1) rfl ⟨Nat.le_of_ble_eq_true rfl, Nat.le_of_ble_eq_true rfl⟩ rfl (Nat.le_of_ble_eq_true rfl) dX5_name_40 (fun r4 m3 => ?_)
    exact g_ireturn (pc := 43) dX5_name_43 rfl
  · refine g_iload_n (pc := 8) 2 dX5_name_8 rfl rfl ?_
    refine g_iconst (pc := 9) 0 dX5_name_9 (by decide) ?_
    refine g_aload_n (pc := 10) 0 dX5_name_10 rfl rfl ?_
    refine g_get (pc := 11) rfl foX5_16 (v := .ref (ad 50)) rfl dX5_name_11 ?_
    refine g_iload_n (pc := 14) 1 dX5_name_14 rfl rfl ?_
    refine g_iald (pc := 15) rfl (by decide) dX5_name_15 ?_
    refine g_iconst (pc := 16) 1 dX5_name_16 (by decide) ?_
    refine g_isub (pc := 17) dX5_name_17 ?_
    refine g_cSI (pc := 18) (st := []) [.int a2, .int 0, .int ((m1.1 50 (Int32.toNatClampNeg a1)) - 1)] moX5_isIn lnX5_81 (ctX5_isIn ad n a2 0 ((m1.1 50 (Int32.toNatClampNeg a1)) - 1) m1) rfl ⟨Nat.le_of_ble_eq_true rfl, Nat.le_of_ble_eq_true rfl⟩ rfl (Nat.le_of_ble_eq_true rfl) dX5_name_18 (fun r6 m5 => ?_)
    refine g_if_eq (pc := 21) 38 dX5_name_21 rfl ?_ ?_
    · refine g_aload_n (pc := 38) 0 dX5_name_38 rfl rfl ?_
      refine g_iconst (pc := 39) (-1) dX5_name_39 (by decide) ?_
      refine g_cVI (pc := 40) (st := []) [.int (-1)] rfl rfl moX5_no lnX5_67 (ctX5_no ad n (-1) m5) rfl ⟨Nat.le_of_ble_eq_true rfl, Nat.le_of_ble_eq_true rfl⟩ rfl (Nat.le_of_ble_eq_true rfl) dX5_name_40 (fun r8 m7 => ?_)
      exact g_ireturn (pc := 43) dX5_name_43 rfl
    · refine g_aload_n (pc := 24) 0 dX5_name_24 rfl rfl ?_
      refine g_get (pc := 25) rfl foX5_13 (v := .ref (ad 49)) rfl dX5_name_25 ?_
      refine g_bipush (pc := 28) 10 dX5_name_28 (by decide) ?_
      refine g_iload_n (pc := 30) 1 dX5_name_30 rfl rfl ?_
      refine g_imul (pc := 31) dX5_name_31 ?_
      refine g_iload_n (pc := 32) 2 dX5_name_32 rfl rfl ?_
      refine g_iadd (pc := 33) dX5_name_33 ?_
      refine g_iald (pc := 34) rfl (by decide) dX5_name_34 ?_
      refine g_goto (pc := 35) 43 dX5_name_35 rfl ?_
      exact g_ireturn (pc := 43) dX5_name_43 rfl)
-- StopsByLettersModel.kind(II)I
abbrev kX5_kind : Cfg := (RX5, cX5_kind, 4, (some .int), 1)
theorem dX5_kind_0 : decode cX5_kind 0 = .ok (.aload_n 0, 1) := by decide +kernel
theorem dX5_kind_1 : decode cX5_kind 1 = .ok (.iload_n 1, 1) := by decide +kernel
theorem dX5_kind_2 : decode cX5_kind 2 = .ok (.invokevirtual 100, 3) := by decide +kernel
theorem dX5_kind_5 : decode cX5_kind 5 = .ok (.ifCond .ne 9, 3) := by decide +kernel
theorem dX5_kind_8 : decode cX5_kind 8 = .ok (.aload_n 0, 1) := by decide +kernel
theorem dX5_kind_9 : decode cX5_kind 9 = .ok (.iconst (-1), 1) := by decide +kernel
theorem dX5_kind_10 : decode cX5_kind 10 = .ok (.invokevirtual 67, 3) := by decide +kernel
theorem dX5_kind_13 : decode cX5_kind 13 = .ok (.ireturn, 1) := by decide +kernel
theorem dX5_kind_14 : decode cX5_kind 14 = .ok (.iload_n 2, 1) := by decide +kernel
theorem dX5_kind_15 : decode cX5_kind 15 = .ok (.iconst 0, 1) := by decide +kernel
theorem dX5_kind_16 : decode cX5_kind 16 = .ok (.iconst 5, 1) := by decide +kernel
theorem dX5_kind_17 : decode cX5_kind 17 = .ok (.invokestatic 81, 3) := by decide +kernel
theorem dX5_kind_20 : decode cX5_kind 20 = .ok (.ifCond .ne 10, 3) := by decide +kernel
theorem dX5_kind_23 : decode cX5_kind 23 = .ok (.aload_n 0, 1) := by decide +kernel
theorem dX5_kind_24 : decode cX5_kind 24 = .ok (.bipush (-2), 2) := by decide +kernel
theorem dX5_kind_26 : decode cX5_kind 26 = .ok (.invokevirtual 67, 3) := by decide +kernel
theorem dX5_kind_29 : decode cX5_kind 29 = .ok (.ireturn, 1) := by decide +kernel
theorem dX5_kind_30 : decode cX5_kind 30 = .ok (.aload_n 0, 1) := by decide +kernel
theorem dX5_kind_31 : decode cX5_kind 31 = .ok (.getfield 19, 3) := by decide +kernel
theorem dX5_kind_34 : decode cX5_kind 34 = .ok (.iload_n 1, 1) := by decide +kernel
theorem dX5_kind_35 : decode cX5_kind 35 = .ok (.iaload, 1) := by decide +kernel
theorem dX5_kind_36 : decode cX5_kind 36 = .ok (.istore_n 3, 1) := by decide +kernel
theorem dX5_kind_37 : decode cX5_kind 37 = .ok (.aload_n 0, 1) := by decide +kernel
theorem dX5_kind_38 : decode cX5_kind 38 = .ok (.getfield 19, 3) := by decide +kernel
theorem dX5_kind_41 : decode cX5_kind 41 = .ok (.iload_n 1, 1) := by decide +kernel
theorem dX5_kind_42 : decode cX5_kind 42 = .ok (.iload_n 2, 1) := by decide +kernel
theorem dX5_kind_43 : decode cX5_kind 43 = .ok (.iastore, 1) := by decide +kernel
theorem dX5_kind_44 : decode cX5_kind 44 = .ok (.iload_n 3, 1) := by decide +kernel
theorem dX5_kind_45 : decode cX5_kind 45 = .ok (.ireturn, 1) := by decide +kernel
def fX5_kind (n : Nat) (a1 : Int32) (a2 : Int32) (μ : Mem) : Option (Int32 × Mem) :=
  bd (fX5_isStation n a1 μ) (fun r2 m1 => if r2 = 0 then bd (fX5_no n (-1) m1) (fun r10 m9 => some (r10, m9)) else bd (fX5_isIn n a2 0 5 m1) (fun r4 m3 => if r4 = 0 then bd (fX5_no n (-2) m3) (fun r8 m7 => some (r8, m7)) else gd (inb a1 9) (bnd (m3.1 51 (Int32.toNatClampNeg a1)) (fun x5 => gd (inb a1 9) (bnd (setI m3 51 (Int32.toNatClampNeg a1) a2) (fun m6 => some (x5, m6)))))))
set_option maxHeartbeats 4000000 in
set_option maxRecDepth 100000 in
theorem ctX5_kind (ad : Nat → Nat) (n : Nat) (a1 : Int32) (a2 : Int32) (μ : Mem) : Ct yX5_kind kX5_kind ad encI [.ref (ad 47), .int a1, .int a2] μ (fX5_kind n a1 a2 μ) := Ct.of (by decide +kernel) rfl (Nat.le_of_ble_eq_true rfl) (by
  show G kX5_kind ad encI 0 [(0, .ref (ad 47)), (1, .int a1), (2, .int a2)] [] μ (fX5_kind n a1 a2 μ)
  unfold fX5_kind
  refine g_aload_n (pc := 0) 0 dX5_kind_0 rfl rfl ?_
  refine g_iload_n (pc := 1) 1 dX5_kind_1 rfl rfl ?_
  refine g_cVI (pc := 2) (st := []) [.int a1] rfl rfl moX5_isStation lnX5_100 (ctX5_isStation ad n a1 μ) rfl ⟨Nat.le_of_ble_eq_true rfl, Nat.le_of_ble_eq_true rfl⟩ rfl (Nat.le_of_ble_eq_true rfl) dX5_kind_2 (fun r2 m1 => ?_)
  refine g_if_ne (pc := 5) 14 dX5_kind_5 rfl ?_ ?_
  · refine g_iload_n (pc := 14) 2 dX5_kind_14 rfl rfl ?_
    refine g_iconst (pc := 15) 0 dX5_kind_15 (by decide) ?_
    refine g_iconst (pc := 16) 5 dX5_kind_16 (by decide) ?_
    refine g_cSI (pc := 17) (st := []) [.int a2, .int 0, .int 5] moX5_isIn lnX5_81 (ctX5_isIn ad n a2 0 5 m1) rfl ⟨Nat.le_of_ble_eq_true rfl, Nat.le_of_ble_eq_true rfl⟩ rfl (Nat.le_of_ble_eq_true rfl) dX5_kind_17 (fun r4 m3 => ?_)
    refine g_if_ne (pc := 20) 30 dX5_kind_20 rfl ?_ ?_
    · refine g_aload_n (pc := 30) 0 dX5_kind_30 rfl rfl ?_
      refine g_get (pc := 31) rfl foX5_19 (v := .ref (ad 51)) rfl dX5_kind_31 ?_
      refine g_iload_n (pc := 34) 1 dX5_kind_34 rfl rfl ?_
      refine g_iald (pc := 35) rfl (by decide) dX5_kind_35 ?_
      refine g_istore_nB (pc := 36) (fun x5 => [(3, .int x5), (0, .ref (ad 47)), (1, .int a1), (2, .int a2)]) dX5_kind_36 rfl (by decide) (fun _ => rfl) (fun x5 => ?_)
      refine g_aload_n (pc := 37) 1 dX5_kind_37 rfl rfl ?_
      refine g_get (pc := 38) rfl foX5_19 (v := .ref (ad 51)) rfl dX5_kind_38 ?_
      refine g_iload_n (pc := 41) 2 dX5_kind_41 rfl rfl ?_
      refine g_iload_n (pc := 42) 3 dX5_kind_42 rfl rfl ?_
      refine g_iast (pc := 43) rfl (by decide) dX5_kind_43 (fun m6 => ?_)
      refine g_iload_n (pc := 44) 0 dX5_kind_44 rfl rfl ?_
      exact g_ireturn (pc := 45) dX5_kind_45 rfl
    · refine g_aload_n (pc := 23) 0 dX5_kind_23 rfl rfl ?_
      refine g_bipush (pc := 24) (-2) dX5_kind_24 (by decide) ?_
      refine g_cVI (pc := 26) (st := []) [.int (-2)] rfl rfl moX5_no lnX5_67 (ctX5_no ad n (-2) m3) rfl ⟨Nat.le_of_ble_eq_true rfl, Nat.le_of_ble_eq_true rfl⟩ rfl (Nat.le_of_ble_eq_true rfl) dX5_kind_26 (fun r8 m7 => ?_)
      exact g_ireturn (pc := 29) dX5_kind_29 rfl
  · refine g_aload_n (pc := 8) 0 dX5_kind_8 rfl rfl ?_
    refine g_iconst (pc := 9) (-1) dX5_kind_9 (by decide) ?_
    refine g_cVI (pc := 10) (st := []) [.int (-1)] rfl rfl moX5_no lnX5_67 (ctX5_no ad n (-1) m1) rfl ⟨Nat.le_of_ble_eq_true rfl, Nat.le_of_ble_eq_true rfl⟩ rfl (Nat.le_of_ble_eq_true rfl) dX5_kind_10 (fun r10 m9 => ?_)
    exact g_ireturn (pc := 13) dX5_kind_13 rfl)
-- StopsByLettersModel.form(I)I
abbrev kX5_form : Cfg := (RX5, cX5_form, 3, (some .int), 1)
theorem dX5_form_0 : decode cX5_form 0 = .ok (.iload_n 1, 1) := by decide +kernel
theorem dX5_form_1 : decode cX5_form 1 = .ok (.iconst 0, 1) := by decide +kernel
theorem dX5_form_2 : decode cX5_form 2 = .ok (.iconst 1, 1) := by decide +kernel
theorem dX5_form_3 : decode cX5_form 3 = .ok (.invokestatic 81, 3) := by decide +kernel
theorem dX5_form_6 : decode cX5_form 6 = .ok (.ifCond .ne 10, 3) := by decide +kernel
theorem dX5_form_9 : decode cX5_form 9 = .ok (.aload_n 0, 1) := by decide +kernel
theorem dX5_form_10 : decode cX5_form 10 = .ok (.bipush (-2), 2) := by decide +kernel
theorem dX5_form_12 : decode cX5_form 12 = .ok (.invokevirtual 67, 3) := by decide +kernel
theorem dX5_form_15 : decode cX5_form 15 = .ok (.ireturn, 1) := by decide +kernel
theorem dX5_form_16 : decode cX5_form 16 = .ok (.aload_n 0, 1) := by decide +kernel
theorem dX5_form_17 : decode cX5_form 17 = .ok (.getfield 103, 3) := by decide +kernel
theorem dX5_form_20 : decode cX5_form 20 = .ok (.istore_n 2, 1) := by decide +kernel
theorem dX5_form_21 : decode cX5_form 21 = .ok (.aload_n 0, 1) := by decide +kernel
theorem dX5_form_22 : decode cX5_form 22 = .ok (.iload_n 1, 1) := by decide +kernel
theorem dX5_form_23 : decode cX5_form 23 = .ok (.putfield 103, 3) := by decide +kernel
theorem dX5_form_26 : decode cX5_form 26 = .ok (.iload_n 2, 1) := by decide +kernel
theorem dX5_form_27 : decode cX5_form 27 = .ok (.ireturn, 1) := by decide +kernel
def fX5_form (n : Nat) (a1 : Int32) (μ : Mem) : Option (Int32 × Mem) :=
  bd (fX5_isIn n a1 0 1 μ) (fun r2 m1 => if r2 = 0 then bd (fX5_no n (-2) m1) (fun r6 m5 => some (r6, m5)) else bnd (m1.1 47 5) (fun x3 => bnd (setI m1 47 5 a1) (fun m4 => some (x3, m4))))
set_option maxHeartbeats 4000000 in
set_option maxRecDepth 100000 in
theorem ctX5_form (ad : Nat → Nat) (n : Nat) (a1 : Int32) (μ : Mem) : Ct yX5_form kX5_form ad encI [.ref (ad 47), .int a1] μ (fX5_form n a1 μ) := Ct.of (by decide +kernel) rfl (Nat.le_of_ble_eq_true rfl) (by
  show G kX5_form ad encI 0 [(0, .ref (ad 47)), (1, .int a1)] [] μ (fX5_form n a1 μ)
  unfold fX5_form
  refine g_iload_n (pc := 0) 1 dX5_form_0 rfl rfl ?_
  refine g_iconst (pc := 1) 0 dX5_form_1 (by decide) ?_
  refine g_iconst (pc := 2) 1 dX5_form_2 (by decide) ?_
  refine g_cSI (pc := 3) (st := []) [.int a1, .int 0, .int 1] moX5_isIn lnX5_81 (ctX5_isIn ad n a1 0 1 μ) rfl ⟨Nat.le_of_ble_eq_true rfl, Nat.le_of_ble_eq_true rfl⟩ rfl (Nat.le_of_ble_eq_true rfl) dX5_form_3 (fun r2 m1 => ?_)
  refine g_if_ne (pc := 6) 16 dX5_form_6 rfl ?_ ?_
  · refine g_aload_n (pc := 16) 0 dX5_form_16 rfl rfl ?_
    refine g_get (pc := 17) rfl foX5_103 (v := .int (m1.1 47 5)) rfl dX5_form_17 ?_
    refine g_istore_nB (pc := 20) (fun x3 => [(2, .int x3), (0, .ref (ad 47)), (1, .int a1)]) dX5_form_20 rfl (by decide) (fun _ => rfl) (fun x3 => ?_)
    refine g_aload_n (pc := 21) 1 dX5_form_21 rfl rfl ?_
    refine g_iload_n (pc := 22) 2 dX5_form_22 rfl rfl ?_
    refine g_put (pc := 23) rfl foX5_103 fpX5_5 rfl rfl dX5_form_23 (fun m4 => ?_)
    refine g_iload_n (pc := 26) 0 dX5_form_26 rfl rfl ?_
    exact g_ireturn (pc := 27) dX5_form_27 rfl
  · refine g_aload_n (pc := 9) 0 dX5_form_9 rfl rfl ?_
    refine g_bipush (pc := 10) (-2) dX5_form_10 (by decide) ?_
    refine g_cVI (pc := 12) (st := []) [.int (-2)] rfl rfl moX5_no lnX5_67 (ctX5_no ad n (-2) m1) rfl ⟨Nat.le_of_ble_eq_true rfl, Nat.le_of_ble_eq_true rfl⟩ rfl (Nat.le_of_ble_eq_true rfl) dX5_form_12 (fun r6 m5 => ?_)
    exact g_ireturn (pc := 15) dX5_form_15 rfl)
-- StopsByLettersModel.goesOn(I)I
abbrev kX5_goesOn : Cfg := (RX5, cX5_goesOn, 4, (some .int), 4)
theorem dX5_goesOn_0 : decode cX5_goesOn 0 = .ok (.iconst 0, 1) := by decide +kernel
theorem dX5_goesOn_1 : decode cX5_goesOn 1 = .ok (.istore_n 2, 1) := by decide +kernel
theorem dX5_goesOn_2 : decode cX5_goesOn 2 = .ok (.iconst 0, 1) := by decide +kernel
theorem dX5_goesOn_3 : decode cX5_goesOn 3 = .ok (.istore_n 3, 1) := by decide +kernel
theorem dX5_goesOn_4 : decode cX5_goesOn 4 = .ok (.iload_n 3, 1) := by decide +kernel
theorem dX5_goesOn_5 : decode cX5_goesOn 5 = .ok (.aload_n 0, 1) := by decide +kernel
theorem dX5_goesOn_6 : decode cX5_goesOn 6 = .ok (.getfield 56, 3) := by decide +kernel
theorem dX5_goesOn_9 : decode cX5_goesOn 9 = .ok (.if_icmp .ge 30, 3) := by decide +kernel
theorem dX5_goesOn_12 : decode cX5_goesOn 12 = .ok (.iload_n 2, 1) := by decide +kernel
theorem dX5_goesOn_13 : decode cX5_goesOn 13 = .ok (.iload_n 1, 1) := by decide +kernel
theorem dX5_goesOn_14 : decode cX5_goesOn 14 = .ok (.iload_n 3, 1) := by decide +kernel
theorem dX5_goesOn_15 : decode cX5_goesOn 15 = .ok (.ishr, 1) := by decide +kernel
theorem dX5_goesOn_16 : decode cX5_goesOn 16 = .ok (.iconst 1, 1) := by decide +kernel
theorem dX5_goesOn_17 : decode cX5_goesOn 17 = .ok (.iand, 1) := by decide +kernel
theorem dX5_goesOn_18 : decode cX5_goesOn 18 = .ok (.iconst 1, 1) := by decide +kernel
theorem dX5_goesOn_19 : decode cX5_goesOn 19 = .ok (.if_icmp .ne 11, 3) := by decide +kernel
theorem dX5_goesOn_22 : decode cX5_goesOn 22 = .ok (.aload_n 0, 1) := by decide +kernel
theorem dX5_goesOn_23 : decode cX5_goesOn 23 = .ok (.iload_n 3, 1) := by decide +kernel
theorem dX5_goesOn_24 : decode cX5_goesOn 24 = .ok (.invokevirtual 146, 3) := by decide +kernel
theorem dX5_goesOn_27 : decode cX5_goesOn 27 = .ok (.goto 4, 3) := by decide +kernel
theorem dX5_goesOn_30 : decode cX5_goesOn 30 = .ok (.iconst 0, 1) := by decide +kernel
theorem dX5_goesOn_31 : decode cX5_goesOn 31 = .ok (.ior, 1) := by decide +kernel
theorem dX5_goesOn_32 : decode cX5_goesOn 32 = .ok (.istore_n 2, 1) := by decide +kernel
theorem dX5_goesOn_33 : decode cX5_goesOn 33 = .ok (.iinc 3 1, 3) := by decide +kernel
theorem dX5_goesOn_36 : decode cX5_goesOn 36 = .ok (.goto (-32), 3) := by decide +kernel
theorem dX5_goesOn_39 : decode cX5_goesOn 39 = .ok (.iload_n 2, 1) := by decide +kernel
theorem dX5_goesOn_40 : decode cX5_goesOn 40 = .ok (.ireturn, 1) := by decide +kernel
def fX5_goesOn_L4 (n : Nat) (v1 : Int32) : Nat → Int32 → Int32 → Mem → Option (Int32 × Mem)
  | 0, _, _, _ => none
  | F + 1, v2, v3, μ => if (μ.1 47 4) ≤ v3 then some (v2, μ) else bnd (fun (x2 : Int32) (m3 : Mem) => bnd (v2 ||| x2) (fun x4 => bnd (v3 + 1) (fun x5 => fX5_goesOn_L4 n v1 F x4 x5 m3))) (fun kb1 => if ((jshr v1 v3) &&& 1) = 1 then bd (fX5_ridesOf n v3 μ) (fun r7 m6 => kb1 r7 m6) else kb1 0 μ)
def fX5_goesOn (n : Nat) (a1 : Int32) (μ : Mem) : Option (Int32 × Mem) :=
  fX5_goesOn_L4 n a1 n 0 0 μ
set_option maxHeartbeats 4000000 in
set_option maxRecDepth 100000 in
theorem wX5_goesOn_L4 (ad : Nat → Nat) (n : Nat) (v1 : Int32) : ∀ (F : Nat) (v2 : Int32) (v3 : Int32) (μ : Mem), G kX5_goesOn ad encI 4 [(0, .ref (ad 47)), (1, .int v1), (2, .int v2), (3, .int v3)] [] μ (fX5_goesOn_L4 n v1 F v2 v3 μ) := by
  intro F
  induction F with
  | zero =>
    intro v2 v3 μ
    exact g_none
  | succ F ih =>
    intro v2 v3 μ
    rw [fX5_goesOn_L4]
    refine g_iload_n (pc := 4) 3 dX5_goesOn_4 rfl rfl ?_
    refine g_aload_n (pc := 5) 0 dX5_goesOn_5 rfl rfl ?_
    refine g_get (pc := 6) rfl foX5_56 (v := .int (μ.1 47 4)) rfl dX5_goesOn_6 ?_
    refine g_icmp_ge (pc := 9) 39 dX5_goesOn_9 rfl ?_ ?_
    · refine g_iload_n (pc := 39) 2 dX5_goesOn_39 rfl rfl ?_
      exact g_ireturn (pc := 40) dX5_goesOn_40 rfl
    · refine g_iload_n (pc := 12) 2 dX5_goesOn_12 rfl rfl ?_
      refine g_iload_n (pc := 13) 1 dX5_goesOn_13 rfl rfl ?_
      refine g_iload_n (pc := 14) 3 dX5_goesOn_14 rfl rfl ?_
      refine g_ishr' (pc := 15) dX5_goesOn_15 ?_
      refine g_iconst (pc := 16) 1 dX5_goesOn_16 (by decide) ?_
      refine g_iand (pc := 17) dX5_goesOn_17 ?_
      refine g_iconst (pc := 18) 1 dX5_goesOn_18 (by decide) ?_
      refine g_join (fun kb => ∀ (x2 : Int32) (m3 : Mem), G kX5_goesOn ad encI 31 [(0, .ref (ad 47)), (1, .int v1), (3, .int v3)] [.int x2, .int v2] m3 (kb x2 m3)) (fun x2 m3 => ?_) (fun kb1 hkb1 => ?_)
      · refine g_ior (pc := 31) dX5_goesOn_31 ?_
        refine g_istore_nB (pc := 32) (fun x4 => [(2, .int x4), (0, .ref (ad 47)), (1, .int v1), (3, .int v3)]) dX5_goesOn_32 rfl (by decide) (fun _ => rfl) (fun x4 => ?_)
        refine g_iincB (pc := 33) 3 1 1 (fun x5 => [(3, .int x5), (2, .int x4), (0, .ref (ad 47)), (1, .int v1)]) dX5_goesOn_33 rfl (by decide) (by decide) (fun _ => rfl) (fun x5 => ?_)
        refine g_goto (pc := 36) 4 dX5_goesOn_36 rfl ?_
        exact g_sub [2, 3, 1, 0] rfl (ih x4 x5 m3)
      ·
        refine g_icmp_ne (pc := 19) 30 dX5_goesOn_19 rfl ?_ ?_
        · refine g_iconst (pc := 30) 0 dX5_goesOn_30 (by decide) ?_
          exact g_sub [0, 1, 3] rfl (hkb1 0 μ)
        · refine g_aload_n (pc := 22) 0 dX5_goesOn_22 rfl rfl ?_
          refine g_iload_n (pc := 23) 3 dX5_goesOn_23 rfl rfl ?_
          refine g_cVI (pc := 24) (st := [.int v2]) [.int v3] rfl rfl moX5_ridesOf lnX5_146 (ctX5_ridesOf ad n v3 μ) rfl ⟨Nat.le_of_ble_eq_true rfl, Nat.le_of_ble_eq_true rfl⟩ rfl (Nat.le_of_ble_eq_true rfl) dX5_goesOn_24 (fun r7 m6 => ?_)
          refine g_goto (pc := 27) 31 dX5_goesOn_27 rfl ?_
          exact g_sub [0, 1, 3] rfl (hkb1 r7 m6)
set_option maxHeartbeats 4000000 in
set_option maxRecDepth 100000 in
theorem ctX5_goesOn (ad : Nat → Nat) (n : Nat) (a1 : Int32) (μ : Mem) : Ct yX5_goesOn kX5_goesOn ad encI [.ref (ad 47), .int a1] μ (fX5_goesOn n a1 μ) := Ct.of (by decide +kernel) rfl (Nat.le_of_ble_eq_true rfl) (by
  show G kX5_goesOn ad encI 0 [(0, .ref (ad 47)), (1, .int a1)] [] μ (fX5_goesOn n a1 μ)
  unfold fX5_goesOn
  refine g_iconst (pc := 0) 0 dX5_goesOn_0 (by decide) ?_
  refine g_istore_n (pc := 1) [(2, .int 0), (0, .ref (ad 47)), (1, .int a1)] dX5_goesOn_1 rfl (by decide) rfl ?_
  refine g_iconst (pc := 2) 0 dX5_goesOn_2 (by decide) ?_
  refine g_istore_n (pc := 3) [(3, .int 0), (2, .int 0), (0, .ref (ad 47)), (1, .int a1)] dX5_goesOn_3 rfl (by decide) rfl ?_
  exact g_sub [2, 3, 1, 0] rfl (wX5_goesOn_L4 ad n a1 n 0 0 μ))
-- StopsByLettersModel.few(II)I
abbrev kX5_few : Cfg := (RX5, cX5_few, 5, (some .int), 5)
theorem dX5_few_0 : decode cX5_few 0 = .ok (.aload_n 0, 1) := by decide +kernel
theorem dX5_few_1 : decode cX5_few 1 = .ok (.iload_n 1, 1) := by decide +kernel
theorem dX5_few_2 : decode cX5_few 2 = .ok (.invokevirtual 100, 3) := by decide +kernel
theorem dX5_few_5 : decode cX5_few 5 = .ok (.ifCond .eq 11, 3) := by decide +kernel
theorem dX5_few_8 : decode cX5_few 8 = .ok (.aload_n 0, 1) := by decide +kernel
theorem dX5_few_9 : decode cX5_few 9 = .ok (.iload_n 2, 1) := by decide +kernel
theorem dX5_few_10 : decode cX5_few 10 = .ok (.invokevirtual 100, 3) := by decide +kernel
theorem dX5_few_13 : decode cX5_few 13 = .ok (.ifCond .ne 9, 3) := by decide +kernel
theorem dX5_few_16 : decode cX5_few 16 = .ok (.aload_n 0, 1) := by decide +kernel
theorem dX5_few_17 : decode cX5_few 17 = .ok (.iconst (-1), 1) := by decide +kernel
theorem dX5_few_18 : decode cX5_few 18 = .ok (.invokevirtual 67, 3) := by decide +kernel
theorem dX5_few_21 : decode cX5_few 21 = .ok (.ireturn, 1) := by decide +kernel
theorem dX5_few_22 : decode cX5_few 22 = .ok (.iconst 1, 1) := by decide +kernel
theorem dX5_few_23 : decode cX5_few 23 = .ok (.iload_n 1, 1) := by decide +kernel
theorem dX5_few_24 : decode cX5_few 24 = .ok (.ishl, 1) := by decide +kernel
theorem dX5_few_25 : decode cX5_few 25 = .ok (.istore_n 3, 1) := by decide +kernel
theorem dX5_few_26 : decode cX5_few 26 = .ok (.iconst 0, 1) := by decide +kernel
theorem dX5_few_27 : decode cX5_few 27 = .ok (.istore 4, 2) := by decide +kernel
theorem dX5_few_29 : decode cX5_few 29 = .ok (.iload 4, 2) := by decide +kernel
theorem dX5_few_31 : decode cX5_few 31 = .ok (.aload_n 0, 1) := by decide +kernel
theorem dX5_few_32 : decode cX5_few 32 = .ok (.getfield 56, 3) := by decide +kernel
theorem dX5_few_35 : decode cX5_few 35 = .ok (.if_icmp .ge 29, 3) := by decide +kernel
theorem dX5_few_38 : decode cX5_few 38 = .ok (.iload_n 3, 1) := by decide +kernel
theorem dX5_few_39 : decode cX5_few 39 = .ok (.iload_n 2, 1) := by decide +kernel
theorem dX5_few_40 : decode cX5_few 40 = .ok (.ishr, 1) := by decide +kernel
theorem dX5_few_41 : decode cX5_few 41 = .ok (.iconst 1, 1) := by decide +kernel
theorem dX5_few_42 : decode cX5_few 42 = .ok (.iand, 1) := by decide +kernel
theorem dX5_few_43 : decode cX5_few 43 = .ok (.iconst 1, 1) := by decide +kernel
theorem dX5_few_44 : decode cX5_few 44 = .ok (.if_icmp .ne 6, 3) := by decide +kernel
theorem dX5_few_47 : decode cX5_few 47 = .ok (.iload 4, 2) := by decide +kernel
theorem dX5_few_49 : decode cX5_few 49 = .ok (.ireturn, 1) := by decide +kernel
theorem dX5_few_50 : decode cX5_few 50 = .ok (.iload_n 3, 1) := by decide +kernel
theorem dX5_few_51 : decode cX5_few 51 = .ok (.aload_n 0, 1) := by decide +kernel
theorem dX5_few_52 : decode cX5_few 52 = .ok (.iload_n 3, 1) := by decide +kernel
theorem dX5_few_53 : decode cX5_few 53 = .ok (.invokevirtual 149, 3) := by decide +kernel
theorem dX5_few_56 : decode cX5_few 56 = .ok (.ior, 1) := by decide +kernel
theorem dX5_few_57 : decode cX5_few 57 = .ok (.istore_n 3, 1) := by decide +kernel
theorem dX5_few_58 : decode cX5_few 58 = .ok (.iinc 4 1, 3) := by decide +kernel
theorem dX5_few_61 : decode cX5_few 61 = .ok (.goto (-32), 3) := by decide +kernel
theorem dX5_few_64 : decode cX5_few 64 = .ok (.bipush (-9), 2) := by decide +kernel
theorem dX5_few_66 : decode cX5_few 66 = .ok (.ireturn, 1) := by decide +kernel
theorem lnX5_149 : Ln RX5 149 yX5_goesOn := Or.inl (tb_in 874 (by decide +kernel) rfl)
theorem moX5_goesOn : Mv yX5_goesOn kX5_goesOn 1 := ⟨⟨tb_in 877 (by decide +kernel) rfl, tb_in 92 (by decide +kernel) rfl, ⟨by decide, by decide⟩, by decide +kernel⟩, tb_in 876 (by decide +kernel) rfl, tb_in 71 (by decide +kernel) rfl⟩
def fX5_few_L29 (n : Nat) (v2 : Int32) : Nat → Int32 → Int32 → Mem → Option (Int32 × Mem)
  | 0, _, _, _ => none
  | F + 1, v3, v4, μ => if (μ.1 47 4) ≤ v4 then some ((-9), μ) else if ((jshr v3 v2) &&& 1) = 1 then some (v4, μ) else bd (fX5_goesOn n v3 μ) (fun r9 m8 => bnd (v3 ||| r9) (fun x10 => bnd (v4 + 1) (fun x11 => fX5_few_L29 n v2 F x10 x11 m8)))
def fX5_few (n : Nat) (a1 : Int32) (a2 : Int32) (μ : Mem) : Option (Int32 × Mem) :=
  bd (fX5_isStation n a1 μ) (fun r2 m1 => if r2 = 0 then bd (fX5_no n (-1) m1) (fun r4 m3 => some (r4, m3)) else bd (fX5_isStation n a2 m1) (fun r6 m5 => if r6 = 0 then bd (fX5_no n (-1) m5) (fun r13 m12 => some (r13, m12)) else bnd (jshl 1 a1) (fun x7 => fX5_few_L29 n a2 n x7 0 m5)))
set_option maxHeartbeats 4000000 in
set_option maxRecDepth 100000 in
theorem wX5_few_L29 (ad : Nat → Nat) (n : Nat) (v2 : Int32) : ∀ (F : Nat) (v3 : Int32) (v4 : Int32) (μ : Mem), G kX5_few ad encI 29 [(0, .ref (ad 47)), (2, .int v2), (3, .int v3), (4, .int v4)] [] μ (fX5_few_L29 n v2 F v3 v4 μ) := by
  intro F
  induction F with
  | zero =>
    intro v3 v4 μ
    exact g_none
  | succ F ih =>
    intro v3 v4 μ
    rw [fX5_few_L29]
    refine g_iload (pc := 29) 3 dX5_few_29 rfl ?_
    refine g_aload_n (pc := 31) 0 dX5_few_31 rfl rfl ?_
    refine g_get (pc := 32) rfl foX5_56 (v := .int (μ.1 47 4)) rfl dX5_few_32 ?_
    refine g_icmp_ge (pc := 35) 64 dX5_few_35 rfl ?_ ?_
    · refine g_bipush (pc := 64) (-9) dX5_few_64 (by decide) ?_
      exact g_ireturn (pc := 66) dX5_few_66 rfl
    · refine g_iload_n (pc := 38) 2 dX5_few_38 rfl rfl ?_
      refine g_iload_n (pc := 39) 1 dX5_few_39 rfl rfl ?_
      refine g_ishr' (pc := 40) dX5_few_40 ?_
      refine g_iconst (pc := 41) 1 dX5_few_41 (by decide) ?_
      refine g_iand (pc := 42) dX5_few_42 ?_
      refine g_iconst (pc := 43) 1 dX5_few_43 (by decide) ?_
      refine g_icmp_ne (pc := 44) 50 dX5_few_44 rfl ?_ ?_
      · refine g_iload_n (pc := 50) 2 dX5_few_50 rfl rfl ?_
        refine g_aload_n (pc := 51) 0 dX5_few_51 rfl rfl ?_
        refine g_iload_n (pc := 52) 2 dX5_few_52 rfl rfl ?_
        refine g_cVI (pc := 53) (st := [.int v3]) [.int v3] rfl rfl moX5_goesOn lnX5_149 (ctX5_goesOn ad n v3 μ) rfl ⟨Nat.le_of_ble_eq_true rfl, Nat.le_of_ble_eq_true rfl⟩ rfl (Nat.le_of_ble_eq_true rfl) dX5_few_53 (fun r9 m8 => ?_)
        refine g_ior (pc := 56) dX5_few_56 ?_
        refine g_istore_nB (pc := 57) (fun x10 => [(3, .int x10), (0, .ref (ad 47)), (2, .int v2), (4, .int v4)]) dX5_few_57 rfl (by decide) (fun _ => rfl) (fun x10 => ?_)
        refine g_iincB (pc := 58) 3 1 1 (fun x11 => [(4, .int x11), (3, .int x10), (0, .ref (ad 47)), (2, .int v2)]) dX5_few_58 rfl (by decide) (by decide) (fun _ => rfl) (fun x11 => ?_)
        refine g_goto (pc := 61) 29 dX5_few_61 rfl ?_
        exact g_sub [2, 3, 1, 0] rfl (ih x10 x11 m8)
      · refine g_iload (pc := 47) 3 dX5_few_47 rfl ?_
        exact g_ireturn (pc := 49) dX5_few_49 rfl
set_option maxHeartbeats 4000000 in
set_option maxRecDepth 100000 in
theorem ctX5_few (ad : Nat → Nat) (n : Nat) (a1 : Int32) (a2 : Int32) (μ : Mem) : Ct yX5_few kX5_few ad encI [.ref (ad 47), .int a1, .int a2] μ (fX5_few n a1 a2 μ) := Ct.of (by decide +kernel) rfl (Nat.le_of_ble_eq_true rfl) (by
  show G kX5_few ad encI 0 [(0, .ref (ad 47)), (1, .int a1), (2, .int a2)] [] μ (fX5_few n a1 a2 μ)
  unfold fX5_few
  refine g_aload_n (pc := 0) 0 dX5_few_0 rfl rfl ?_
  refine g_iload_n (pc := 1) 1 dX5_few_1 rfl rfl ?_
  refine g_cVI (pc := 2) (st := []) [.int a1] rfl rfl moX5_isStation lnX5_100 (ctX5_isStation ad n a1 μ) rfl ⟨Nat.le_of_ble_eq_true rfl, Nat.le_of_ble_eq_true rfl⟩ rfl (Nat.le_of_ble_eq_true rfl) dX5_few_2 (fun r2 m1 => ?_)
  refine g_if_eq (pc := 5) 16 dX5_few_5 rfl ?_ ?_
  · refine g_aload_n (pc := 16) 0 dX5_few_16 rfl rfl ?_
    refine g_iconst (pc := 17) (-1) dX5_few_17 (by decide) ?_
    refine g_cVI (pc := 18) (st := []) [.int (-1)] rfl rfl moX5_no lnX5_67 (ctX5_no ad n (-1) m1) rfl ⟨Nat.le_of_ble_eq_true rfl, Nat.le_of_ble_eq_true rfl⟩ rfl (Nat.le_of_ble_eq_true rfl) dX5_few_18 (fun r4 m3 => ?_)
    exact g_ireturn (pc := 21) dX5_few_21 rfl
  · refine g_aload_n (pc := 8) 0 dX5_few_8 rfl rfl ?_
    refine g_iload_n (pc := 9) 2 dX5_few_9 rfl rfl ?_
    refine g_cVI (pc := 10) (st := []) [.int a2] rfl rfl moX5_isStation lnX5_100 (ctX5_isStation ad n a2 m1) rfl ⟨Nat.le_of_ble_eq_true rfl, Nat.le_of_ble_eq_true rfl⟩ rfl (Nat.le_of_ble_eq_true rfl) dX5_few_10 (fun r6 m5 => ?_)
    refine g_if_ne (pc := 13) 22 dX5_few_13 rfl ?_ ?_
    · refine g_iconst (pc := 22) 1 dX5_few_22 (by decide) ?_
      refine g_iload_n (pc := 23) 1 dX5_few_23 rfl rfl ?_
      refine g_ishl' (pc := 24) dX5_few_24 ?_
      refine g_istore_nB (pc := 25) (fun x7 => [(3, .int x7), (0, .ref (ad 47)), (1, .int a1), (2, .int a2)]) dX5_few_25 rfl (by decide) (fun _ => rfl) (fun x7 => ?_)
      refine g_iconst (pc := 26) 0 dX5_few_26 (by decide) ?_
      refine g_istore (pc := 27) [(4, .int 0), (3, .int x7), (0, .ref (ad 47)), (1, .int a1), (2, .int a2)] dX5_few_27 (by decide) rfl ?_
      exact g_sub [2, 4, 1, 0] rfl (wX5_few_L29 ad n a2 n x7 0 m5)
    · refine g_aload_n (pc := 16) 0 dX5_few_16 rfl rfl ?_
      refine g_iconst (pc := 17) (-1) dX5_few_17 (by decide) ?_
      refine g_cVI (pc := 18) (st := []) [.int (-1)] rfl rfl moX5_no lnX5_67 (ctX5_no ad n (-1) m5) rfl ⟨Nat.le_of_ble_eq_true rfl, Nat.le_of_ble_eq_true rfl⟩ rfl (Nat.le_of_ble_eq_true rfl) dX5_few_18 (fun r13 m12 => ?_)
      exact g_ireturn (pc := 21) dX5_few_21 rfl)
-- StopsByLettersModel.bits(I)I
abbrev kX5_bits : Cfg := (RX5, cX5_bits, 3, (some .int), 0)
theorem dX5_bits_0 : decode cX5_bits 0 = .ok (.iconst 0, 1) := by decide +kernel
theorem dX5_bits_1 : decode cX5_bits 1 = .ok (.istore_n 1, 1) := by decide +kernel
theorem dX5_bits_2 : decode cX5_bits 2 = .ok (.iconst 0, 1) := by decide +kernel
theorem dX5_bits_3 : decode cX5_bits 3 = .ok (.istore_n 2, 1) := by decide +kernel
theorem dX5_bits_4 : decode cX5_bits 4 = .ok (.iload_n 2, 1) := by decide +kernel
theorem dX5_bits_5 : decode cX5_bits 5 = .ok (.bipush 31, 2) := by decide +kernel
theorem dX5_bits_7 : decode cX5_bits 7 = .ok (.if_icmp .ge 17, 3) := by decide +kernel
theorem dX5_bits_10 : decode cX5_bits 10 = .ok (.iload_n 1, 1) := by decide +kernel
theorem dX5_bits_11 : decode cX5_bits 11 = .ok (.iload_n 0, 1) := by decide +kernel
theorem dX5_bits_12 : decode cX5_bits 12 = .ok (.iload_n 2, 1) := by decide +kernel
theorem dX5_bits_13 : decode cX5_bits 13 = .ok (.ishr, 1) := by decide +kernel
theorem dX5_bits_14 : decode cX5_bits 14 = .ok (.iconst 1, 1) := by decide +kernel
theorem dX5_bits_15 : decode cX5_bits 15 = .ok (.iand, 1) := by decide +kernel
theorem dX5_bits_16 : decode cX5_bits 16 = .ok (.iadd, 1) := by decide +kernel
theorem dX5_bits_17 : decode cX5_bits 17 = .ok (.istore_n 1, 1) := by decide +kernel
theorem dX5_bits_18 : decode cX5_bits 18 = .ok (.iinc 2 1, 3) := by decide +kernel
theorem dX5_bits_21 : decode cX5_bits 21 = .ok (.goto (-17), 3) := by decide +kernel
theorem dX5_bits_24 : decode cX5_bits 24 = .ok (.iload_n 1, 1) := by decide +kernel
theorem dX5_bits_25 : decode cX5_bits 25 = .ok (.ireturn, 1) := by decide +kernel
def fX5_bits_L4 (n : Nat) (v0 : Int32) : Nat → Int32 → Int32 → Mem → Option (Int32 × Mem)
  | 0, _, _, _ => none
  | F + 1, v1, v2, μ => if 31 ≤ v2 then some (v1, μ) else bnd (v1 + ((jshr v0 v2) &&& 1)) (fun x1 => bnd (v2 + 1) (fun x2 => fX5_bits_L4 n v0 F x1 x2 μ))
def fX5_bits (n : Nat) (a0 : Int32) (μ : Mem) : Option (Int32 × Mem) :=
  fX5_bits_L4 n a0 n 0 0 μ
set_option maxHeartbeats 4000000 in
set_option maxRecDepth 100000 in
theorem wX5_bits_L4 (ad : Nat → Nat) (n : Nat) (v0 : Int32) : ∀ (F : Nat) (v1 : Int32) (v2 : Int32) (μ : Mem), G kX5_bits ad encI 4 [(0, .int v0), (1, .int v1), (2, .int v2)] [] μ (fX5_bits_L4 n v0 F v1 v2 μ) := by
  intro F
  induction F with
  | zero =>
    intro v1 v2 μ
    exact g_none
  | succ F ih =>
    intro v1 v2 μ
    rw [fX5_bits_L4]
    refine g_iload_n (pc := 4) 2 dX5_bits_4 rfl rfl ?_
    refine g_bipush (pc := 5) 31 dX5_bits_5 (by decide) ?_
    refine g_icmp_ge (pc := 7) 24 dX5_bits_7 rfl ?_ ?_
    · refine g_iload_n (pc := 24) 1 dX5_bits_24 rfl rfl ?_
      exact g_ireturn (pc := 25) dX5_bits_25 rfl
    · refine g_iload_n (pc := 10) 1 dX5_bits_10 rfl rfl ?_
      refine g_iload_n (pc := 11) 0 dX5_bits_11 rfl rfl ?_
      refine g_iload_n (pc := 12) 2 dX5_bits_12 rfl rfl ?_
      refine g_ishr' (pc := 13) dX5_bits_13 ?_
      refine g_iconst (pc := 14) 1 dX5_bits_14 (by decide) ?_
      refine g_iand (pc := 15) dX5_bits_15 ?_
      refine g_iadd (pc := 16) dX5_bits_16 ?_
      refine g_istore_nB (pc := 17) (fun x1 => [(1, .int x1), (0, .int v0), (2, .int v2)]) dX5_bits_17 rfl (by decide) (fun _ => rfl) (fun x1 => ?_)
      refine g_iincB (pc := 18) 2 1 1 (fun x2 => [(2, .int x2), (1, .int x1), (0, .int v0)]) dX5_bits_18 rfl (by decide) (by decide) (fun _ => rfl) (fun x2 => ?_)
      refine g_goto (pc := 21) 4 dX5_bits_21 rfl ?_
      exact g_sub [2, 1, 0] rfl (ih x1 x2 μ)
set_option maxHeartbeats 4000000 in
set_option maxRecDepth 100000 in
theorem ctX5_bits (ad : Nat → Nat) (n : Nat) (a0 : Int32) (μ : Mem) : Ct yX5_bits kX5_bits ad encI [.int a0] μ (fX5_bits n a0 μ) := Ct.of (by decide +kernel) rfl (Nat.le_of_ble_eq_true rfl) (by
  show G kX5_bits ad encI 0 [(0, .int a0)] [] μ (fX5_bits n a0 μ)
  unfold fX5_bits
  refine g_iconst (pc := 0) 0 dX5_bits_0 (by decide) ?_
  refine g_istore_n (pc := 1) [(1, .int 0), (0, .int a0)] dX5_bits_1 rfl (by decide) rfl ?_
  refine g_iconst (pc := 2) 0 dX5_bits_2 (by decide) ?_
  refine g_istore_n (pc := 3) [(2, .int 0), (1, .int 0), (0, .int a0)] dX5_bits_3 rfl (by decide) rfl ?_
  exact g_sub [2, 1, 0] rfl (wX5_bits_L4 ad n a0 n 0 0 μ))
-- StopsByLettersModel.goesWays(Z)V
abbrev kX5_goesWays : Cfg := (RX5, cX5_goesWays, 7, none, 4)
theorem dX5_goesWays_0 : decode cX5_goesWays 0 = .ok (.iconst 0, 1) := by decide +kernel
theorem dX5_goesWays_1 : decode cX5_goesWays 1 = .ok (.istore_n 2, 1) := by decide +kernel
theorem dX5_goesWays_2 : decode cX5_goesWays 2 = .ok (.iload_n 2, 1) := by decide +kernel
theorem dX5_goesWays_3 : decode cX5_goesWays 3 = .ok (.aload_n 0, 1) := by decide +kernel
theorem dX5_goesWays_4 : decode cX5_goesWays 4 = .ok (.getfield 56, 3) := by decide +kernel
theorem dX5_goesWays_7 : decode cX5_goesWays 7 = .ok (.if_icmp .ge 16, 3) := by decide +kernel
theorem dX5_goesWays_10 : decode cX5_goesWays 10 = .ok (.aload_n 0, 1) := by decide +kernel
theorem dX5_goesWays_11 : decode cX5_goesWays 11 = .ok (.getfield 47, 3) := by decide +kernel
theorem dX5_goesWays_14 : decode cX5_goesWays 14 = .ok (.iload_n 2, 1) := by decide +kernel
theorem dX5_goesWays_15 : decode cX5_goesWays 15 = .ok (.lconst 0, 1) := by decide +kernel
theorem dX5_goesWays_16 : decode cX5_goesWays 16 = .ok (.lastore, 1) := by decide +kernel
theorem dX5_goesWays_17 : decode cX5_goesWays 17 = .ok (.iinc 2 1, 3) := by decide +kernel
theorem dX5_goesWays_20 : decode cX5_goesWays 20 = .ok (.goto (-18), 3) := by decide +kernel
theorem dX5_goesWays_23 : decode cX5_goesWays 23 = .ok (.iconst 0, 1) := by decide +kernel
theorem dX5_goesWays_24 : decode cX5_goesWays 24 = .ok (.istore_n 2, 1) := by decide +kernel
theorem dX5_goesWays_25 : decode cX5_goesWays 25 = .ok (.iload_n 2, 1) := by decide +kernel
theorem dX5_goesWays_26 : decode cX5_goesWays 26 = .ok (.aload_n 0, 1) := by decide +kernel
theorem dX5_goesWays_27 : decode cX5_goesWays 27 = .ok (.getfield 56, 3) := by decide +kernel
theorem dX5_goesWays_30 : decode cX5_goesWays 30 = .ok (.if_icmp .ge 119, 3) := by decide +kernel
theorem dX5_goesWays_33 : decode cX5_goesWays 33 = .ok (.aload_n 0, 1) := by decide +kernel
theorem dX5_goesWays_34 : decode cX5_goesWays 34 = .ok (.iload_n 2, 1) := by decide +kernel
theorem dX5_goesWays_35 : decode cX5_goesWays 35 = .ok (.invokevirtual 146, 3) := by decide +kernel
theorem dX5_goesWays_38 : decode cX5_goesWays 38 = .ok (.istore_n 3, 1) := by decide +kernel
theorem dX5_goesWays_39 : decode cX5_goesWays 39 = .ok (.iload_n 3, 1) := by decide +kernel
theorem dX5_goesWays_40 : decode cX5_goesWays 40 = .ok (.ifCond .ne 26, 3) := by decide +kernel
theorem dX5_goesWays_43 : decode cX5_goesWays 43 = .ok (.iload_n 1, 1) := by decide +kernel
theorem dX5_goesWays_44 : decode cX5_goesWays 44 = .ok (.ifCond .eq 22, 3) := by decide +kernel
theorem dX5_goesWays_47 : decode cX5_goesWays 47 = .ok (.aload_n 0, 1) := by decide +kernel
theorem dX5_goesWays_48 : decode cX5_goesWays 48 = .ok (.getfield 47, 3) := by decide +kernel
theorem dX5_goesWays_51 : decode cX5_goesWays 51 = .ok (.iload_n 2, 1) := by decide +kernel
theorem dX5_goesWays_52 : decode cX5_goesWays 52 = .ok (.dup2, 1) := by decide +kernel
theorem dX5_goesWays_53 : decode cX5_goesWays 53 = .ok (.laload, 1) := by decide +kernel
theorem dX5_goesWays_54 : decode cX5_goesWays 54 = .ok (.ldc2_w 152, 3) := by decide +kernel
theorem dX5_goesWays_57 : decode cX5_goesWays 57 = .ok (.aload_n 0, 1) := by decide +kernel
theorem dX5_goesWays_58 : decode cX5_goesWays 58 = .ok (.getfield 43, 3) := by decide +kernel
theorem dX5_goesWays_61 : decode cX5_goesWays 61 = .ok (.iload_n 2, 1) := by decide +kernel
theorem dX5_goesWays_62 : decode cX5_goesWays 62 = .ok (.laload, 1) := by decide +kernel
theorem dX5_goesWays_63 : decode cX5_goesWays 63 = .ok (.lmul, 1) := by decide +kernel
theorem dX5_goesWays_64 : decode cX5_goesWays 64 = .ok (.ladd, 1) := by decide +kernel
theorem dX5_goesWays_65 : decode cX5_goesWays 65 = .ok (.lastore, 1) := by decide +kernel
theorem dX5_goesWays_66 : decode cX5_goesWays 66 = .ok (.iload_n 1, 1) := by decide +kernel
theorem dX5_goesWays_67 : decode cX5_goesWays 67 = .ok (.ifCond .eq 24, 3) := by decide +kernel
theorem dX5_goesWays_70 : decode cX5_goesWays 70 = .ok (.iload_n 3, 1) := by decide +kernel
theorem dX5_goesWays_71 : decode cX5_goesWays 71 = .ok (.invokestatic 154, 3) := by decide +kernel
theorem dX5_goesWays_74 : decode cX5_goesWays 74 = .ok (.iconst 1, 1) := by decide +kernel
theorem dX5_goesWays_75 : decode cX5_goesWays 75 = .ok (.if_icmp .ne 16, 3) := by decide +kernel
theorem dX5_goesWays_78 : decode cX5_goesWays 78 = .ok (.ldc2_w 152, 3) := by decide +kernel
theorem dX5_goesWays_81 : decode cX5_goesWays 81 = .ok (.aload_n 0, 1) := by decide +kernel
theorem dX5_goesWays_82 : decode cX5_goesWays 82 = .ok (.getfield 43, 3) := by decide +kernel
theorem dX5_goesWays_85 : decode cX5_goesWays 85 = .ok (.iload_n 2, 1) := by decide +kernel
theorem dX5_goesWays_86 : decode cX5_goesWays 86 = .ok (.laload, 1) := by decide +kernel
theorem dX5_goesWays_87 : decode cX5_goesWays 87 = .ok (.lmul, 1) := by decide +kernel
theorem dX5_goesWays_88 : decode cX5_goesWays 88 = .ok (.goto 9, 3) := by decide +kernel
theorem dX5_goesWays_91 : decode cX5_goesWays 91 = .ok (.aload_n 0, 1) := by decide +kernel
theorem dX5_goesWays_92 : decode cX5_goesWays 92 = .ok (.getfield 43, 3) := by decide +kernel
theorem dX5_goesWays_95 : decode cX5_goesWays 95 = .ok (.iload_n 2, 1) := by decide +kernel
theorem dX5_goesWays_96 : decode cX5_goesWays 96 = .ok (.laload, 1) := by decide +kernel
theorem dX5_goesWays_97 : decode cX5_goesWays 97 = .ok (.lstore 4, 2) := by decide +kernel
theorem dX5_goesWays_99 : decode cX5_goesWays 99 = .ok (.iconst 0, 1) := by decide +kernel
theorem dX5_goesWays_100 : decode cX5_goesWays 100 = .ok (.istore 6, 2) := by decide +kernel
theorem dX5_goesWays_102 : decode cX5_goesWays 102 = .ok (.iload 6, 2) := by decide +kernel
theorem dX5_goesWays_104 : decode cX5_goesWays 104 = .ok (.aload_n 0, 1) := by decide +kernel
theorem dX5_goesWays_105 : decode cX5_goesWays 105 = .ok (.getfield 56, 3) := by decide +kernel
theorem dX5_goesWays_108 : decode cX5_goesWays 108 = .ok (.if_icmp .ge 35, 3) := by decide +kernel
theorem dX5_goesWays_111 : decode cX5_goesWays 111 = .ok (.aload_n 0, 1) := by decide +kernel
theorem dX5_goesWays_112 : decode cX5_goesWays 112 = .ok (.getfield 47, 3) := by decide +kernel
theorem dX5_goesWays_115 : decode cX5_goesWays 115 = .ok (.iload 6, 2) := by decide +kernel
theorem dX5_goesWays_117 : decode cX5_goesWays 117 = .ok (.dup2, 1) := by decide +kernel
theorem dX5_goesWays_118 : decode cX5_goesWays 118 = .ok (.laload, 1) := by decide +kernel
theorem dX5_goesWays_119 : decode cX5_goesWays 119 = .ok (.iload_n 3, 1) := by decide +kernel
theorem dX5_goesWays_120 : decode cX5_goesWays 120 = .ok (.iload 6, 2) := by decide +kernel
theorem dX5_goesWays_122 : decode cX5_goesWays 122 = .ok (.ishr, 1) := by decide +kernel
theorem dX5_goesWays_123 : decode cX5_goesWays 123 = .ok (.iconst 1, 1) := by decide +kernel
theorem dX5_goesWays_124 : decode cX5_goesWays 124 = .ok (.iand, 1) := by decide +kernel
theorem dX5_goesWays_125 : decode cX5_goesWays 125 = .ok (.iconst 1, 1) := by decide +kernel
theorem dX5_goesWays_126 : decode cX5_goesWays 126 = .ok (.if_icmp .ne 8, 3) := by decide +kernel
theorem dX5_goesWays_129 : decode cX5_goesWays 129 = .ok (.lload 4, 2) := by decide +kernel
theorem dX5_goesWays_131 : decode cX5_goesWays 131 = .ok (.goto 4, 3) := by decide +kernel
theorem dX5_goesWays_134 : decode cX5_goesWays 134 = .ok (.lconst 0, 1) := by decide +kernel
theorem dX5_goesWays_135 : decode cX5_goesWays 135 = .ok (.ladd, 1) := by decide +kernel
theorem dX5_goesWays_136 : decode cX5_goesWays 136 = .ok (.lastore, 1) := by decide +kernel
theorem dX5_goesWays_137 : decode cX5_goesWays 137 = .ok (.iinc 6 1, 3) := by decide +kernel
theorem dX5_goesWays_140 : decode cX5_goesWays 140 = .ok (.goto (-38), 3) := by decide +kernel
theorem dX5_goesWays_143 : decode cX5_goesWays 143 = .ok (.iinc 2 1, 3) := by decide +kernel
theorem dX5_goesWays_146 : decode cX5_goesWays 146 = .ok (.goto (-121), 3) := by decide +kernel
theorem dX5_goesWays_149 : decode cX5_goesWays 149 = .ok (.iconst 0, 1) := by decide +kernel
theorem dX5_goesWays_150 : decode cX5_goesWays 150 = .ok (.istore_n 2, 1) := by decide +kernel
theorem dX5_goesWays_151 : decode cX5_goesWays 151 = .ok (.iload_n 2, 1) := by decide +kernel
theorem dX5_goesWays_152 : decode cX5_goesWays 152 = .ok (.aload_n 0, 1) := by decide +kernel
theorem dX5_goesWays_153 : decode cX5_goesWays 153 = .ok (.getfield 56, 3) := by decide +kernel
theorem dX5_goesWays_156 : decode cX5_goesWays 156 = .ok (.if_icmp .ge 21, 3) := by decide +kernel
theorem dX5_goesWays_159 : decode cX5_goesWays 159 = .ok (.aload_n 0, 1) := by decide +kernel
theorem dX5_goesWays_160 : decode cX5_goesWays 160 = .ok (.getfield 43, 3) := by decide +kernel
theorem dX5_goesWays_163 : decode cX5_goesWays 163 = .ok (.iload_n 2, 1) := by decide +kernel
theorem dX5_goesWays_164 : decode cX5_goesWays 164 = .ok (.aload_n 0, 1) := by decide +kernel
theorem dX5_goesWays_165 : decode cX5_goesWays 165 = .ok (.getfield 47, 3) := by decide +kernel
theorem dX5_goesWays_168 : decode cX5_goesWays 168 = .ok (.iload_n 2, 1) := by decide +kernel
theorem dX5_goesWays_169 : decode cX5_goesWays 169 = .ok (.laload, 1) := by decide +kernel
theorem dX5_goesWays_170 : decode cX5_goesWays 170 = .ok (.lastore, 1) := by decide +kernel
theorem dX5_goesWays_171 : decode cX5_goesWays 171 = .ok (.iinc 2 1, 3) := by decide +kernel
theorem dX5_goesWays_174 : decode cX5_goesWays 174 = .ok (.goto (-23), 3) := by decide +kernel
theorem dX5_goesWays_177 : decode cX5_goesWays 177 = .ok (.return_, 1) := by decide +kernel
theorem foX5_47 : Fo 5 RX5 TX5 23 20 RX5 47 := ⟨rfl, by decide, rfl, uwX5, rfl, Or.inl (tb_in 716 (by decide +kernel) rfl)⟩
def fX5_goesWays_L2 (n : Nat) (v1 : Int32) (K1 : Mem → Option (Unit × Mem)) : Nat → Int32 → Mem → Option (Unit × Mem)
  | 0, _, _ => none
  | F + 1, v2, μ => if (μ.1 47 4) ≤ v2 then K1 μ else gd (inb v2 9) (bnd (setJ μ 60 (Int32.toNatClampNeg v2) 0) (fun m1 => bnd (v2 + 1) (fun x2 => fX5_goesWays_L2 n v1 K1 F x2 m1)))
theorem foX5_43 : Fo 5 RX5 TX5 23 19 RX5 43 := ⟨rfl, by decide, rfl, uwX5, rfl, Or.inl (tb_in 715 (by decide +kernel) rfl)⟩
def fX5_goesWays_L102 (n : Nat) (v1 : Int32) (v2 : Int32) (v3 : Int32) (v4 : Int64) (K1 : Mem → Option (Unit × Mem)) : Nat → Int32 → Mem → Option (Unit × Mem)
  | 0, _, _ => none
  | F + 1, v6, μ => if (μ.1 47 4) ≤ v6 then K1 μ else gd (inb v6 9) (bnd (fun (x12 : Int64) (m13 : Mem) => gd (inb v6 9) (bnd (setJ m13 60 (Int32.toNatClampNeg v6) ((μ.2 60 (Int32.toNatClampNeg v6)) + x12)) (fun m14 => bnd (v6 + 1) (fun x15 => fX5_goesWays_L102 n v1 v2 v3 v4 K1 F x15 m14)))) (fun kb11 => if ((jshr v3 v6) &&& 1) = 1 then kb11 v4 μ else kb11 0 μ))
theorem cwX5_152 : Cond.constantLong RX5 152 (2 : Int64) ∈ TB := tb_in 895 (by decide +kernel) rfl
theorem lnX5_154 : Ln RX5 154 yX5_bits := Or.inl (tb_in 896 (by decide +kernel) rfl)
theorem moX5_bits : Ms yX5_bits kX5_bits 1 := ⟨⟨tb_in 898 (by decide +kernel) rfl, tb_in 92 (by decide +kernel) rfl, ⟨by decide, by decide⟩, by decide +kernel⟩, tb_in 897 (by decide +kernel) rfl⟩
def fX5_goesWays_L25 (n : Nat) (v1 : Int32) (K1 : Mem → Option (Unit × Mem)) : Nat → Int32 → Mem → Option (Unit × Mem)
  | 0, _, _ => none
  | F + 1, v2, μ => if (μ.1 47 4) ≤ v2 then K1 μ else bd (fX5_ridesOf n v2 μ) (fun r5 m4 => bnd (fun (m7 : Mem) => bnd (fun (m9 : Mem) => gd (inb v2 9) (bnd (m9.2 59 (Int32.toNatClampNeg v2)) (fun x10 => fX5_goesWays_L102 n v1 v2 r5 x10 (fun (m16 : Mem) => bnd (v2 + 1) (fun x17 => fX5_goesWays_L25 n v1 K1 F x17 m16)) n 0 m9))) (fun kb8 => if v1 = 0 then kb8 m7 else bd (fX5_bits n r5 m7) (fun r19 m18 => if r19 = 1 then gd (inb v2 9) (bnd (2 * (m18.2 59 (Int32.toNatClampNeg v2))) (fun x20 => fX5_goesWays_L102 n v1 v2 r5 x20 (fun (m21 : Mem) => bnd (v2 + 1) (fun x22 => fX5_goesWays_L25 n v1 K1 F x22 m21)) n 0 m18)) else kb8 m18))) (fun kb6 => if r5 = 0 then if v1 = 0 then kb6 m4 else gd (inb v2 9) (gd (inb v2 9) (gd (inb v2 9) (bnd (setJ m4 60 (Int32.toNatClampNeg v2) ((m4.2 60 (Int32.toNatClampNeg v2)) + (2 * (m4.2 59 (Int32.toNatClampNeg v2))))) (fun m23 => kb6 m23)))) else kb6 m4))
def fX5_goesWays_L151 (n : Nat) : Nat → Int32 → Mem → Option (Unit × Mem)
  | 0, _, _ => none
  | F + 1, v2, μ => if (μ.1 47 4) ≤ v2 then some ((), μ) else gd (inb v2 9) (gd (inb v2 9) (bnd (setJ μ 59 (Int32.toNatClampNeg v2) (μ.2 60 (Int32.toNatClampNeg v2))) (fun m25 => bnd (v2 + 1) (fun x26 => fX5_goesWays_L151 n F x26 m25))))
def fX5_goesWays (n : Nat) (a1 : Int32) (μ : Mem) : Option (Unit × Mem) :=
  fX5_goesWays_L2 n a1 (fun (m3 : Mem) => fX5_goesWays_L25 n a1 (fun (m24 : Mem) => fX5_goesWays_L151 n n 0 m24) n 0 m3) n 0 μ
set_option maxHeartbeats 4000000 in
set_option maxRecDepth 100000 in
theorem wX5_goesWays_L2 (ad : Nat → Nat) (n : Nat) (v1 : Int32) (K1 : Mem → Option (Unit × Mem)) (hK1 : ∀ (μ : Mem), G kX5_goesWays ad encV 23 [(0, .ref (ad 47)), (1, .int v1)] [] μ (K1 μ)) : ∀ (F : Nat) (v2 : Int32) (μ : Mem), G kX5_goesWays ad encV 2 [(0, .ref (ad 47)), (1, .int v1), (2, .int v2)] [] μ (fX5_goesWays_L2 n v1 K1 F v2 μ) := by
  intro F
  induction F with
  | zero =>
    intro v2 μ
    exact g_none
  | succ F ih =>
    intro v2 μ
    rw [fX5_goesWays_L2]
    refine g_iload_n (pc := 2) 2 dX5_goesWays_2 rfl rfl ?_
    refine g_aload_n (pc := 3) 0 dX5_goesWays_3 rfl rfl ?_
    refine g_get (pc := 4) rfl foX5_56 (v := .int (μ.1 47 4)) rfl dX5_goesWays_4 ?_
    refine g_icmp_ge (pc := 7) 23 dX5_goesWays_7 rfl ?_ ?_
    · exact g_sub [0, 1] rfl (hK1 μ)
    · refine g_aload_n (pc := 10) 0 dX5_goesWays_10 rfl rfl ?_
      refine g_get (pc := 11) rfl foX5_47 (v := .ref (ad 60)) rfl dX5_goesWays_11 ?_
      refine g_iload_n (pc := 14) 2 dX5_goesWays_14 rfl rfl ?_
      refine g_lconst (pc := 15) 0 dX5_goesWays_15 (by decide) ?_
      refine g_last (pc := 16) rfl dX5_goesWays_16 (fun m1 => ?_)
      refine g_iincB (pc := 17) 2 1 1 (fun x2 => [(2, .int x2), (0, .ref (ad 47)), (1, .int v1)]) dX5_goesWays_17 rfl (by decide) (by decide) (fun _ => rfl) (fun x2 => ?_)
      refine g_goto (pc := 20) 2 dX5_goesWays_20 rfl ?_
      exact g_sub [1, 2, 0] rfl (ih x2 m1)
set_option maxHeartbeats 4000000 in
set_option maxRecDepth 100000 in
theorem wX5_goesWays_L102 (ad : Nat → Nat) (n : Nat) (v1 : Int32) (v2 : Int32) (v3 : Int32) (v4 : Int64) (K1 : Mem → Option (Unit × Mem)) (hK1 : ∀ (μ : Mem), G kX5_goesWays ad encV 143 [(0, .ref (ad 47)), (1, .int v1), (2, .int v2)] [] μ (K1 μ)) : ∀ (F : Nat) (v6 : Int32) (μ : Mem), G kX5_goesWays ad encV 102 [(0, .ref (ad 47)), (1, .int v1), (2, .int v2), (3, .int v3), (4, .long v4), (6, .int v6)] [] μ (fX5_goesWays_L102 n v1 v2 v3 v4 K1 F v6 μ) := by
  intro F
  induction F with
  | zero =>
    intro v6 μ
    exact g_none
  | succ F ih =>
    intro v6 μ
    rw [fX5_goesWays_L102]
    refine g_iload (pc := 102) 5 dX5_goesWays_102 rfl ?_
    refine g_aload_n (pc := 104) 0 dX5_goesWays_104 rfl rfl ?_
    refine g_get (pc := 105) rfl foX5_56 (v := .int (μ.1 47 4)) rfl dX5_goesWays_105 ?_
    refine g_icmp_ge (pc := 108) 143 dX5_goesWays_108 rfl ?_ ?_
    · exact g_sub [0, 1, 2] rfl (hK1 μ)
    · refine g_aload_n (pc := 111) 0 dX5_goesWays_111 rfl rfl ?_
      refine g_get (pc := 112) rfl foX5_47 (v := .ref (ad 60)) rfl dX5_goesWays_112 ?_
      refine g_iload (pc := 115) 5 dX5_goesWays_115 rfl ?_
      refine g_dup2 (pc := 117) dX5_goesWays_117 rfl rfl ?_
      refine g_lald (pc := 118) rfl dX5_goesWays_118 ?_
      refine g_iload_n (pc := 119) 3 dX5_goesWays_119 rfl rfl ?_
      refine g_iload (pc := 120) 5 dX5_goesWays_120 rfl ?_
      refine g_ishr' (pc := 122) dX5_goesWays_122 ?_
      refine g_iconst (pc := 123) 1 dX5_goesWays_123 (by decide) ?_
      refine g_iand (pc := 124) dX5_goesWays_124 ?_
      refine g_iconst (pc := 125) 1 dX5_goesWays_125 (by decide) ?_
      refine g_join (fun kb => ∀ (x12 : Int64) (m13 : Mem), G kX5_goesWays ad encV 135 [(0, .ref (ad 47)), (1, .int v1), (2, .int v2), (3, .int v3), (4, .long v4), (6, .int v6)] [.long x12, .long (μ.2 60 (Int32.toNatClampNeg v6)), .int v6, .ref (ad 60)] m13 (kb x12 m13)) (fun x12 m13 => ?_) (fun kb11 hkb11 => ?_)
      · refine g_ladd (pc := 135) dX5_goesWays_135 ?_
        refine g_last (pc := 136) rfl dX5_goesWays_136 (fun m14 => ?_)
        refine g_iincB (pc := 137) 5 1 1 (fun x15 => [(6, .int x15), (0, .ref (ad 47)), (1, .int v1), (2, .int v2), (3, .int v3), (4, .long v4)]) dX5_goesWays_137 rfl (by decide) (by decide) (fun _ => rfl) (fun x15 => ?_)
        refine g_goto (pc := 140) 102 dX5_goesWays_140 rfl ?_
        exact g_sub [1, 2, 3, 4, 5, 0] rfl (ih x15 m14)
      ·
        refine g_icmp_ne (pc := 126) 134 dX5_goesWays_126 rfl ?_ ?_
        · refine g_lconst (pc := 134) 0 dX5_goesWays_134 (by decide) ?_
          exact g_sub [0, 1, 2, 3, 4, 5] rfl (hkb11 0 μ)
        · refine g_lload (pc := 129) 4 dX5_goesWays_129 rfl ?_
          refine g_goto (pc := 131) 135 dX5_goesWays_131 rfl ?_
          exact g_sub [0, 1, 2, 3, 4, 5] rfl (hkb11 v4 μ)
set_option maxHeartbeats 4000000 in
set_option maxRecDepth 100000 in
theorem wX5_goesWays_L25 (ad : Nat → Nat) (n : Nat) (v1 : Int32) (K1 : Mem → Option (Unit × Mem)) (hK1 : ∀ (μ : Mem), G kX5_goesWays ad encV 149 [(0, .ref (ad 47))] [] μ (K1 μ)) : ∀ (F : Nat) (v2 : Int32) (μ : Mem), G kX5_goesWays ad encV 25 [(0, .ref (ad 47)), (1, .int v1), (2, .int v2)] [] μ (fX5_goesWays_L25 n v1 K1 F v2 μ) := by
  intro F
  induction F with
  | zero =>
    intro v2 μ
    exact g_none
  | succ F ih =>
    intro v2 μ
    rw [fX5_goesWays_L25]
    refine g_iload_n (pc := 25) 2 dX5_goesWays_25 rfl rfl ?_
    refine g_aload_n (pc := 26) 0 dX5_goesWays_26 rfl rfl ?_
    refine g_get (pc := 27) rfl foX5_56 (v := .int (μ.1 47 4)) rfl dX5_goesWays_27 ?_
    refine g_icmp_ge (pc := 30) 149 dX5_goesWays_30 rfl ?_ ?_
    · exact g_sub [0] rfl (hK1 μ)
    · refine g_aload_n (pc := 33) 0 dX5_goesWays_33 rfl rfl ?_
      refine g_iload_n (pc := 34) 2 dX5_goesWays_34 rfl rfl ?_
      refine g_cVI (pc := 35) (st := []) [.int v2] rfl rfl moX5_ridesOf lnX5_146 (ctX5_ridesOf ad n v2 μ) rfl ⟨Nat.le_of_ble_eq_true rfl, Nat.le_of_ble_eq_true rfl⟩ rfl (Nat.le_of_ble_eq_true rfl) dX5_goesWays_35 (fun r5 m4 => ?_)
      refine g_istore_n (pc := 38) [(3, .int r5), (0, .ref (ad 47)), (1, .int v1), (2, .int v2)] dX5_goesWays_38 rfl (by decide) rfl ?_
      refine g_iload_n (pc := 39) 0 dX5_goesWays_39 rfl rfl ?_
      refine g_join (fun kb => ∀ (m7 : Mem), G kX5_goesWays ad encV 66 [(0, .ref (ad 47)), (1, .int v1), (2, .int v2), (3, .int r5)] [] m7 (kb m7)) (fun m7 => ?_) (fun kb6 hkb6 => ?_)
      · refine g_iload_n (pc := 66) 1 dX5_goesWays_66 rfl rfl ?_
        refine g_join (fun kb => ∀ (m9 : Mem), G kX5_goesWays ad encV 91 [(0, .ref (ad 47)), (1, .int v1), (2, .int v2), (3, .int r5)] [] m9 (kb m9)) (fun m9 => ?_) (fun kb8 hkb8 => ?_)
        · refine g_aload_n (pc := 91) 0 dX5_goesWays_91 rfl rfl ?_
          refine g_get (pc := 92) rfl foX5_43 (v := .ref (ad 59)) rfl dX5_goesWays_92 ?_
          refine g_iload_n (pc := 95) 2 dX5_goesWays_95 rfl rfl ?_
          refine g_lald (pc := 96) rfl dX5_goesWays_96 ?_
          refine g_lstoreB (pc := 97) (fun x10 => [(4, .long x10), (0, .ref (ad 47)), (1, .int v1), (2, .int v2), (3, .int r5)]) dX5_goesWays_97 (by decide) (fun _ => rfl) (fun x10 => ?_)
          refine g_iconst (pc := 99) 0 dX5_goesWays_99 (by decide) ?_
          refine g_istore (pc := 100) [(6, .int 0), (4, .long x10), (0, .ref (ad 47)), (1, .int v1), (2, .int v2), (3, .int r5)] dX5_goesWays_100 (by decide) rfl ?_
          refine g_sub [2, 3, 4, 5, 1, 0] rfl (wX5_goesWays_L102 ad n v1 v2 r5 x10 _ (fun m16 => ?_) n 0 m9)
          refine g_iincB (pc := 143) 2 1 1 (fun x17 => [(2, .int x17), (0, .ref (ad 47)), (1, .int v1)]) dX5_goesWays_143 rfl (by decide) (by decide) (fun _ => rfl) (fun x17 => ?_)
          refine g_goto (pc := 146) 25 dX5_goesWays_146 rfl ?_
          exact g_sub [1, 2, 0] rfl (ih x17 m16)
        ·
          refine g_if_eq (pc := 67) 91 dX5_goesWays_67 rfl ?_ ?_
          · exact g_sub [0, 1, 2, 3] rfl (hkb8 m7)
          · refine g_iload_n (pc := 70) 3 dX5_goesWays_70 rfl rfl ?_
            refine g_cSI (pc := 71) (st := []) [.int r5] moX5_bits lnX5_154 (ctX5_bits ad n r5 m7) rfl ⟨Nat.le_of_ble_eq_true rfl, Nat.le_of_ble_eq_true rfl⟩ rfl (Nat.le_of_ble_eq_true rfl) dX5_goesWays_71 (fun r19 m18 => ?_)
            refine g_iconst (pc := 74) 1 dX5_goesWays_74 (by decide) ?_
            refine g_icmp_ne (pc := 75) 91 dX5_goesWays_75 rfl ?_ ?_
            · exact g_sub [0, 1, 2, 3] rfl (hkb8 m18)
            · refine g_ldc2 (pc := 78) dX5_goesWays_78 cwX5_152 ?_
              refine g_aload_n (pc := 81) 0 dX5_goesWays_81 rfl rfl ?_
              refine g_get (pc := 82) rfl foX5_43 (v := .ref (ad 59)) rfl dX5_goesWays_82 ?_
              refine g_iload_n (pc := 85) 2 dX5_goesWays_85 rfl rfl ?_
              refine g_lald (pc := 86) rfl dX5_goesWays_86 ?_
              refine g_lmul (pc := 87) dX5_goesWays_87 ?_
              refine g_goto (pc := 88) 97 dX5_goesWays_88 rfl ?_
              refine g_lstoreB (pc := 97) (fun x20 => [(4, .long x20), (0, .ref (ad 47)), (1, .int v1), (2, .int v2), (3, .int r5)]) dX5_goesWays_97 (by decide) (fun _ => rfl) (fun x20 => ?_)
              refine g_iconst (pc := 99) 0 dX5_goesWays_99 (by decide) ?_
              refine g_istore (pc := 100) [(6, .int 0), (4, .long x20), (0, .ref (ad 47)), (1, .int v1), (2, .int v2), (3, .int r5)] dX5_goesWays_100 (by decide) rfl ?_
              refine g_sub [2, 3, 4, 5, 1, 0] rfl (wX5_goesWays_L102 ad n v1 v2 r5 x20 _ (fun m21 => ?_) n 0 m18)
              refine g_iincB (pc := 143) 2 1 1 (fun x22 => [(2, .int x22), (0, .ref (ad 47)), (1, .int v1)]) dX5_goesWays_143 rfl (by decide) (by decide) (fun _ => rfl) (fun x22 => ?_)
              refine g_goto (pc := 146) 25 dX5_goesWays_146 rfl ?_
              exact g_sub [1, 2, 0] rfl (ih x22 m21)
      ·
        refine g_if_ne (pc := 40) 66 dX5_goesWays_40 rfl ?_ ?_
        · exact g_sub [1, 2, 3, 0] rfl (hkb6 m4)
        · refine g_iload_n (pc := 43) 2 dX5_goesWays_43 rfl rfl ?_
          refine g_if_eq (pc := 44) 66 dX5_goesWays_44 rfl ?_ ?_
          · exact g_sub [1, 2, 3, 0] rfl (hkb6 m4)
          · refine g_aload_n (pc := 47) 1 dX5_goesWays_47 rfl rfl ?_
            refine g_get (pc := 48) rfl foX5_47 (v := .ref (ad 60)) rfl dX5_goesWays_48 ?_
            refine g_iload_n (pc := 51) 3 dX5_goesWays_51 rfl rfl ?_
            refine g_dup2 (pc := 52) dX5_goesWays_52 rfl rfl ?_
            refine g_lald (pc := 53) rfl dX5_goesWays_53 ?_
            refine g_ldc2 (pc := 54) dX5_goesWays_54 cwX5_152 ?_
            refine g_aload_n (pc := 57) 1 dX5_goesWays_57 rfl rfl ?_
            refine g_get (pc := 58) rfl foX5_43 (v := .ref (ad 59)) rfl dX5_goesWays_58 ?_
            refine g_iload_n (pc := 61) 3 dX5_goesWays_61 rfl rfl ?_
            refine g_lald (pc := 62) rfl dX5_goesWays_62 ?_
            refine g_lmul (pc := 63) dX5_goesWays_63 ?_
            refine g_ladd (pc := 64) dX5_goesWays_64 ?_
            refine g_last (pc := 65) rfl dX5_goesWays_65 (fun m23 => ?_)
            exact g_sub [1, 2, 3, 0] rfl (hkb6 m23)
set_option maxHeartbeats 4000000 in
set_option maxRecDepth 100000 in
theorem wX5_goesWays_L151 (ad : Nat → Nat) (n : Nat) : ∀ (F : Nat) (v2 : Int32) (μ : Mem), G kX5_goesWays ad encV 151 [(0, .ref (ad 47)), (2, .int v2)] [] μ (fX5_goesWays_L151 n F v2 μ) := by
  intro F
  induction F with
  | zero =>
    intro v2 μ
    exact g_none
  | succ F ih =>
    intro v2 μ
    rw [fX5_goesWays_L151]
    refine g_iload_n (pc := 151) 1 dX5_goesWays_151 rfl rfl ?_
    refine g_aload_n (pc := 152) 0 dX5_goesWays_152 rfl rfl ?_
    refine g_get (pc := 153) rfl foX5_56 (v := .int (μ.1 47 4)) rfl dX5_goesWays_153 ?_
    refine g_icmp_ge (pc := 156) 177 dX5_goesWays_156 rfl ?_ ?_
    · exact g_return (pc := 177) dX5_goesWays_177 rfl
    · refine g_aload_n (pc := 159) 0 dX5_goesWays_159 rfl rfl ?_
      refine g_get (pc := 160) rfl foX5_43 (v := .ref (ad 59)) rfl dX5_goesWays_160 ?_
      refine g_iload_n (pc := 163) 1 dX5_goesWays_163 rfl rfl ?_
      refine g_aload_n (pc := 164) 0 dX5_goesWays_164 rfl rfl ?_
      refine g_get (pc := 165) rfl foX5_47 (v := .ref (ad 60)) rfl dX5_goesWays_165 ?_
      refine g_iload_n (pc := 168) 1 dX5_goesWays_168 rfl rfl ?_
      refine g_lald (pc := 169) rfl dX5_goesWays_169 ?_
      refine g_last (pc := 170) rfl dX5_goesWays_170 (fun m25 => ?_)
      refine g_iincB (pc := 171) 1 1 1 (fun x26 => [(2, .int x26), (0, .ref (ad 47))]) dX5_goesWays_171 rfl (by decide) (by decide) (fun _ => rfl) (fun x26 => ?_)
      refine g_goto (pc := 174) 151 dX5_goesWays_174 rfl ?_
      exact g_sub [1, 0] rfl (ih x26 m25)
set_option maxHeartbeats 4000000 in
set_option maxRecDepth 100000 in
theorem ctX5_goesWays (ad : Nat → Nat) (n : Nat) (a1 : Int32) (μ : Mem) : Ct yX5_goesWays kX5_goesWays ad encV [.ref (ad 47), .int a1] μ (fX5_goesWays n a1 μ) := Ct.of (by decide +kernel) rfl (Nat.le_of_ble_eq_true rfl) (by
  show G kX5_goesWays ad encV 0 [(0, .ref (ad 47)), (1, .int a1)] [] μ (fX5_goesWays n a1 μ)
  unfold fX5_goesWays
  refine g_iconst (pc := 0) 0 dX5_goesWays_0 (by decide) ?_
  refine g_istore_n (pc := 1) [(2, .int 0), (0, .ref (ad 47)), (1, .int a1)] dX5_goesWays_1 rfl (by decide) rfl ?_
  refine g_sub [1, 2, 0] rfl (wX5_goesWays_L2 ad n a1 _ (fun m3 => ?_) n 0 μ)
  refine g_iconst (pc := 23) 0 dX5_goesWays_23 (by decide) ?_
  refine g_istore_n (pc := 24) [(2, .int 0), (0, .ref (ad 47)), (1, .int a1)] dX5_goesWays_24 rfl (by decide) rfl ?_
  refine g_sub [1, 2, 0] rfl (wX5_goesWays_L25 ad n a1 _ (fun m24 => ?_) n 0 m3)
  refine g_iconst (pc := 149) 0 dX5_goesWays_149 (by decide) ?_
  refine g_istore_n (pc := 150) [(2, .int 0), (0, .ref (ad 47))] dX5_goesWays_150 rfl (by decide) rfl ?_
  exact g_sub [1, 0] rfl (wX5_goesWays_L151 ad n n 0 m24))
-- StopsByLettersModel.beginsAt(I)V
abbrev kX5_beginsAt : Cfg := (RX5, cX5_beginsAt, 3, none, 0)
theorem dX5_beginsAt_0 : decode cX5_beginsAt 0 = .ok (.iconst 0, 1) := by decide +kernel
theorem dX5_beginsAt_1 : decode cX5_beginsAt 1 = .ok (.istore_n 2, 1) := by decide +kernel
theorem dX5_beginsAt_2 : decode cX5_beginsAt 2 = .ok (.iload_n 2, 1) := by decide +kernel
theorem dX5_beginsAt_3 : decode cX5_beginsAt 3 = .ok (.aload_n 0, 1) := by decide +kernel
theorem dX5_beginsAt_4 : decode cX5_beginsAt 4 = .ok (.getfield 56, 3) := by decide +kernel
theorem dX5_beginsAt_7 : decode cX5_beginsAt 7 = .ok (.if_icmp .ge 25, 3) := by decide +kernel
theorem dX5_beginsAt_10 : decode cX5_beginsAt 10 = .ok (.aload_n 0, 1) := by decide +kernel
theorem dX5_beginsAt_11 : decode cX5_beginsAt 11 = .ok (.getfield 43, 3) := by decide +kernel
theorem dX5_beginsAt_14 : decode cX5_beginsAt 14 = .ok (.iload_n 2, 1) := by decide +kernel
theorem dX5_beginsAt_15 : decode cX5_beginsAt 15 = .ok (.iload_n 2, 1) := by decide +kernel
theorem dX5_beginsAt_16 : decode cX5_beginsAt 16 = .ok (.iload_n 1, 1) := by decide +kernel
theorem dX5_beginsAt_17 : decode cX5_beginsAt 17 = .ok (.if_icmp .ne 7, 3) := by decide +kernel
theorem dX5_beginsAt_20 : decode cX5_beginsAt 20 = .ok (.lconst 1, 1) := by decide +kernel
theorem dX5_beginsAt_21 : decode cX5_beginsAt 21 = .ok (.goto 4, 3) := by decide +kernel
theorem dX5_beginsAt_24 : decode cX5_beginsAt 24 = .ok (.lconst 0, 1) := by decide +kernel
theorem dX5_beginsAt_25 : decode cX5_beginsAt 25 = .ok (.lastore, 1) := by decide +kernel
theorem dX5_beginsAt_26 : decode cX5_beginsAt 26 = .ok (.iinc 2 1, 3) := by decide +kernel
theorem dX5_beginsAt_29 : decode cX5_beginsAt 29 = .ok (.goto (-27), 3) := by decide +kernel
theorem dX5_beginsAt_32 : decode cX5_beginsAt 32 = .ok (.return_, 1) := by decide +kernel
def fX5_beginsAt_L2 (n : Nat) (v1 : Int32) : Nat → Int32 → Mem → Option (Unit × Mem)
  | 0, _, _ => none
  | F + 1, v2, μ => if (μ.1 47 4) ≤ v2 then some ((), μ) else if v2 = v1 then gd (inb v2 9) (bnd (setJ μ 59 (Int32.toNatClampNeg v2) 1) (fun m3 => bnd (v2 + 1) (fun x4 => fX5_beginsAt_L2 n v1 F x4 m3))) else gd (inb v2 9) (bnd (setJ μ 59 (Int32.toNatClampNeg v2) 0) (fun m1 => bnd (v2 + 1) (fun x2 => fX5_beginsAt_L2 n v1 F x2 m1)))
def fX5_beginsAt (n : Nat) (a1 : Int32) (μ : Mem) : Option (Unit × Mem) :=
  fX5_beginsAt_L2 n a1 n 0 μ
set_option maxHeartbeats 4000000 in
set_option maxRecDepth 100000 in
theorem wX5_beginsAt_L2 (ad : Nat → Nat) (n : Nat) (v1 : Int32) : ∀ (F : Nat) (v2 : Int32) (μ : Mem), G kX5_beginsAt ad encV 2 [(0, .ref (ad 47)), (1, .int v1), (2, .int v2)] [] μ (fX5_beginsAt_L2 n v1 F v2 μ) := by
  intro F
  induction F with
  | zero =>
    intro v2 μ
    exact g_none
  | succ F ih =>
    intro v2 μ
    rw [fX5_beginsAt_L2]
    refine g_iload_n (pc := 2) 2 dX5_beginsAt_2 rfl rfl ?_
    refine g_aload_n (pc := 3) 0 dX5_beginsAt_3 rfl rfl ?_
    refine g_get (pc := 4) rfl foX5_56 (v := .int (μ.1 47 4)) rfl dX5_beginsAt_4 ?_
    refine g_icmp_ge (pc := 7) 32 dX5_beginsAt_7 rfl ?_ ?_
    · exact g_return (pc := 32) dX5_beginsAt_32 rfl
    · refine g_aload_n (pc := 10) 0 dX5_beginsAt_10 rfl rfl ?_
      refine g_get (pc := 11) rfl foX5_43 (v := .ref (ad 59)) rfl dX5_beginsAt_11 ?_
      refine g_iload_n (pc := 14) 2 dX5_beginsAt_14 rfl rfl ?_
      refine g_iload_n (pc := 15) 2 dX5_beginsAt_15 rfl rfl ?_
      refine g_iload_n (pc := 16) 1 dX5_beginsAt_16 rfl rfl ?_
      refine g_icmp_ne (pc := 17) 24 dX5_beginsAt_17 rfl ?_ ?_
      · refine g_lconst (pc := 24) 0 dX5_beginsAt_24 (by decide) ?_
        refine g_last (pc := 25) rfl dX5_beginsAt_25 (fun m1 => ?_)
        refine g_iincB (pc := 26) 2 1 1 (fun x2 => [(2, .int x2), (0, .ref (ad 47)), (1, .int v1)]) dX5_beginsAt_26 rfl (by decide) (by decide) (fun _ => rfl) (fun x2 => ?_)
        refine g_goto (pc := 29) 2 dX5_beginsAt_29 rfl ?_
        exact g_sub [1, 2, 0] rfl (ih x2 m1)
      · refine g_lconst (pc := 20) 1 dX5_beginsAt_20 (by decide) ?_
        refine g_goto (pc := 21) 25 dX5_beginsAt_21 rfl ?_
        refine g_last (pc := 25) rfl dX5_beginsAt_25 (fun m3 => ?_)
        refine g_iincB (pc := 26) 2 1 1 (fun x4 => [(2, .int x4), (0, .ref (ad 47)), (1, .int v1)]) dX5_beginsAt_26 rfl (by decide) (by decide) (fun _ => rfl) (fun x4 => ?_)
        refine g_goto (pc := 29) 2 dX5_beginsAt_29 rfl ?_
        exact g_sub [1, 2, 0] rfl (ih x4 m3)
set_option maxHeartbeats 4000000 in
set_option maxRecDepth 100000 in
theorem ctX5_beginsAt (ad : Nat → Nat) (n : Nat) (a1 : Int32) (μ : Mem) : Ct yX5_beginsAt kX5_beginsAt ad encV [.ref (ad 47), .int a1] μ (fX5_beginsAt n a1 μ) := Ct.of (by decide +kernel) rfl (Nat.le_of_ble_eq_true rfl) (by
  show G kX5_beginsAt ad encV 0 [(0, .ref (ad 47)), (1, .int a1)] [] μ (fX5_beginsAt n a1 μ)
  unfold fX5_beginsAt
  refine g_iconst (pc := 0) 0 dX5_beginsAt_0 (by decide) ?_
  refine g_istore_n (pc := 1) [(2, .int 0), (0, .ref (ad 47)), (1, .int a1)] dX5_beginsAt_1 rfl (by decide) rfl ?_
  exact g_sub [1, 2, 0] rfl (wX5_beginsAt_L2 ad n a1 n 0 μ))
-- StopsByLettersModel.ways(III)J
abbrev kX5_ways : Cfg := (RX5, cX5_ways, 6, (some .long), 5)
theorem dX5_ways_0 : decode cX5_ways 0 = .ok (.aload_n 0, 1) := by decide +kernel
theorem dX5_ways_1 : decode cX5_ways 1 = .ok (.iload_n 1, 1) := by decide +kernel
theorem dX5_ways_2 : decode cX5_ways 2 = .ok (.invokevirtual 100, 3) := by decide +kernel
theorem dX5_ways_5 : decode cX5_ways 5 = .ok (.ifCond .eq 11, 3) := by decide +kernel
theorem dX5_ways_8 : decode cX5_ways 8 = .ok (.aload_n 0, 1) := by decide +kernel
theorem dX5_ways_9 : decode cX5_ways 9 = .ok (.iload_n 2, 1) := by decide +kernel
theorem dX5_ways_10 : decode cX5_ways 10 = .ok (.invokevirtual 100, 3) := by decide +kernel
theorem dX5_ways_13 : decode cX5_ways 13 = .ok (.ifCond .ne 9, 3) := by decide +kernel
theorem dX5_ways_16 : decode cX5_ways 16 = .ok (.aload_n 0, 1) := by decide +kernel
theorem dX5_ways_17 : decode cX5_ways 17 = .ok (.iconst (-1), 1) := by decide +kernel
theorem dX5_ways_18 : decode cX5_ways 18 = .ok (.invokevirtual 157, 3) := by decide +kernel
theorem dX5_ways_21 : decode cX5_ways 21 = .ok (.lreturn, 1) := by decide +kernel
theorem dX5_ways_22 : decode cX5_ways 22 = .ok (.iload_n 3, 1) := by decide +kernel
theorem dX5_ways_23 : decode cX5_ways 23 = .ok (.iconst 0, 1) := by decide +kernel
theorem dX5_ways_24 : decode cX5_ways 24 = .ok (.bipush 20, 2) := by decide +kernel
theorem dX5_ways_26 : decode cX5_ways 26 = .ok (.invokestatic 60, 3) := by decide +kernel
theorem dX5_ways_29 : decode cX5_ways 29 = .ok (.istore 4, 2) := by decide +kernel
theorem dX5_ways_31 : decode cX5_ways 31 = .ok (.iload 4, 2) := by decide +kernel
theorem dX5_ways_33 : decode cX5_ways 33 = .ok (.ifCond .eq 10, 3) := by decide +kernel
theorem dX5_ways_36 : decode cX5_ways 36 = .ok (.aload_n 0, 1) := by decide +kernel
theorem dX5_ways_37 : decode cX5_ways 37 = .ok (.iload 4, 2) := by decide +kernel
theorem dX5_ways_39 : decode cX5_ways 39 = .ok (.invokevirtual 157, 3) := by decide +kernel
theorem dX5_ways_42 : decode cX5_ways 42 = .ok (.lreturn, 1) := by decide +kernel
theorem dX5_ways_43 : decode cX5_ways 43 = .ok (.aload_n 0, 1) := by decide +kernel
theorem dX5_ways_44 : decode cX5_ways 44 = .ok (.iload_n 1, 1) := by decide +kernel
theorem dX5_ways_45 : decode cX5_ways 45 = .ok (.invokevirtual 161, 3) := by decide +kernel
theorem dX5_ways_48 : decode cX5_ways 48 = .ok (.iconst 0, 1) := by decide +kernel
theorem dX5_ways_49 : decode cX5_ways 49 = .ok (.istore 5, 2) := by decide +kernel
theorem dX5_ways_51 : decode cX5_ways 51 = .ok (.iload 5, 2) := by decide +kernel
theorem dX5_ways_53 : decode cX5_ways 53 = .ok (.iload_n 3, 1) := by decide +kernel
theorem dX5_ways_54 : decode cX5_ways 54 = .ok (.if_icmp .ge 14, 3) := by decide +kernel
theorem dX5_ways_57 : decode cX5_ways 57 = .ok (.aload_n 0, 1) := by decide +kernel
theorem dX5_ways_58 : decode cX5_ways 58 = .ok (.iconst 0, 1) := by decide +kernel
theorem dX5_ways_59 : decode cX5_ways 59 = .ok (.invokevirtual 165, 3) := by decide +kernel
theorem dX5_ways_62 : decode cX5_ways 62 = .ok (.iinc 5 1, 3) := by decide +kernel
theorem dX5_ways_65 : decode cX5_ways 65 = .ok (.goto (-14), 3) := by decide +kernel
theorem dX5_ways_68 : decode cX5_ways 68 = .ok (.aload_n 0, 1) := by decide +kernel
theorem dX5_ways_69 : decode cX5_ways 69 = .ok (.getfield 43, 3) := by decide +kernel
theorem dX5_ways_72 : decode cX5_ways 72 = .ok (.iload_n 2, 1) := by decide +kernel
theorem dX5_ways_73 : decode cX5_ways 73 = .ok (.laload, 1) := by decide +kernel
theorem dX5_ways_74 : decode cX5_ways 74 = .ok (.lreturn, 1) := by decide +kernel
theorem lnX5_157 : Ln RX5 157 yX5_lowest := Or.inl (tb_in 882 (by decide +kernel) rfl)
theorem moX5_lowest : Mv yX5_lowest kX5_lowest 1 := ⟨⟨tb_in 885 (by decide +kernel) rfl, tb_in 92 (by decide +kernel) rfl, ⟨by decide, by decide⟩, by decide +kernel⟩, tb_in 884 (by decide +kernel) rfl, tb_in 72 (by decide +kernel) rfl⟩
theorem lnX5_165 : Ln RX5 165 yX5_goesWays := Or.inl (tb_in 891 (by decide +kernel) rfl)
theorem moX5_goesWays : Mv yX5_goesWays kX5_goesWays 1 := ⟨⟨tb_in 894 (by decide +kernel) rfl, tb_in 92 (by decide +kernel) rfl, ⟨by decide, by decide⟩, by decide +kernel⟩, tb_in 893 (by decide +kernel) rfl, tb_in 74 (by decide +kernel) rfl⟩
def fX5_ways_L51 (n : Nat) (v2 : Int32) (v3 : Int32) : Nat → Int32 → Mem → Option (Int64 × Mem)
  | 0, _, _ => none
  | F + 1, v5, μ => if v3 ≤ v5 then gd (inb v2 9) (some ((μ.2 59 (Int32.toNatClampNeg v2)), μ)) else bd (fX5_goesWays n 0 μ) (fun r12 m11 => bnd (v5 + 1) (fun x13 => fX5_ways_L51 n v2 v3 F x13 m11))
theorem lnX5_161 : Ln RX5 161 yX5_beginsAt := Or.inl (tb_in 887 (by decide +kernel) rfl)
theorem moX5_beginsAt : Mv yX5_beginsAt kX5_beginsAt 1 := ⟨⟨tb_in 890 (by decide +kernel) rfl, tb_in 92 (by decide +kernel) rfl, ⟨by decide, by decide⟩, by decide +kernel⟩, tb_in 889 (by decide +kernel) rfl, tb_in 73 (by decide +kernel) rfl⟩
def fX5_ways (n : Nat) (a1 : Int32) (a2 : Int32) (a3 : Int32) (μ : Mem) : Option (Int64 × Mem) :=
  bd (fX5_isStation n a1 μ) (fun r2 m1 => if r2 = 0 then bd (fX5_lowest n (-1) m1) (fun r4 m3 => some (r4, m3)) else bd (fX5_isStation n a2 m1) (fun r6 m5 => if r6 = 0 then bd (fX5_lowest n (-1) m5) (fun r17 m16 => some (r17, m16)) else bd (fX5_bound n a3 0 20 m5) (fun r8 m7 => if r8 = 0 then bd (fX5_beginsAt n a1 m7) (fun r10 m9 => fX5_ways_L51 n a2 a3 n 0 m9) else bd (fX5_lowest n r8 m7) (fun r15 m14 => some (r15, m14)))))
set_option maxHeartbeats 4000000 in
set_option maxRecDepth 100000 in
theorem wX5_ways_L51 (ad : Nat → Nat) (n : Nat) (v2 : Int32) (v3 : Int32) : ∀ (F : Nat) (v5 : Int32) (μ : Mem), G kX5_ways ad encJ 51 [(0, .ref (ad 47)), (2, .int v2), (3, .int v3), (5, .int v5)] [] μ (fX5_ways_L51 n v2 v3 F v5 μ) := by
  intro F
  induction F with
  | zero =>
    intro v5 μ
    exact g_none
  | succ F ih =>
    intro v5 μ
    rw [fX5_ways_L51]
    refine g_iload (pc := 51) 3 dX5_ways_51 rfl ?_
    refine g_iload_n (pc := 53) 2 dX5_ways_53 rfl rfl ?_
    refine g_icmp_ge (pc := 54) 68 dX5_ways_54 rfl ?_ ?_
    · refine g_aload_n (pc := 68) 0 dX5_ways_68 rfl rfl ?_
      refine g_get (pc := 69) rfl foX5_43 (v := .ref (ad 59)) rfl dX5_ways_69 ?_
      refine g_iload_n (pc := 72) 1 dX5_ways_72 rfl rfl ?_
      refine g_lald (pc := 73) rfl dX5_ways_73 ?_
      exact g_lreturn (pc := 74) dX5_ways_74 rfl
    · refine g_aload_n (pc := 57) 0 dX5_ways_57 rfl rfl ?_
      refine g_iconst (pc := 58) 0 dX5_ways_58 (by decide) ?_
      refine g_cVV (pc := 59) (st := []) [.int 0] rfl rfl moX5_goesWays lnX5_165 (ctX5_goesWays ad n 0 μ) rfl ⟨Nat.le_of_ble_eq_true rfl, Nat.le_of_ble_eq_true rfl⟩ rfl (Nat.le_of_ble_eq_true rfl) dX5_ways_59 (fun r12 m11 => ?_)
      refine g_iincB (pc := 62) 3 1 1 (fun x13 => [(5, .int x13), (0, .ref (ad 47)), (2, .int v2), (3, .int v3)]) dX5_ways_62 rfl (by decide) (by decide) (fun _ => rfl) (fun x13 => ?_)
      refine g_goto (pc := 65) 51 dX5_ways_65 rfl ?_
      exact g_sub [1, 2, 3, 0] rfl (ih x13 m11)
set_option maxHeartbeats 4000000 in
set_option maxRecDepth 100000 in
theorem ctX5_ways (ad : Nat → Nat) (n : Nat) (a1 : Int32) (a2 : Int32) (a3 : Int32) (μ : Mem) : Ct yX5_ways kX5_ways ad encJ [.ref (ad 47), .int a1, .int a2, .int a3] μ (fX5_ways n a1 a2 a3 μ) := Ct.of (by decide +kernel) rfl (Nat.le_of_ble_eq_true rfl) (by
  show G kX5_ways ad encJ 0 [(0, .ref (ad 47)), (1, .int a1), (2, .int a2), (3, .int a3)] [] μ (fX5_ways n a1 a2 a3 μ)
  unfold fX5_ways
  refine g_aload_n (pc := 0) 0 dX5_ways_0 rfl rfl ?_
  refine g_iload_n (pc := 1) 1 dX5_ways_1 rfl rfl ?_
  refine g_cVI (pc := 2) (st := []) [.int a1] rfl rfl moX5_isStation lnX5_100 (ctX5_isStation ad n a1 μ) rfl ⟨Nat.le_of_ble_eq_true rfl, Nat.le_of_ble_eq_true rfl⟩ rfl (Nat.le_of_ble_eq_true rfl) dX5_ways_2 (fun r2 m1 => ?_)
  refine g_if_eq (pc := 5) 16 dX5_ways_5 rfl ?_ ?_
  · refine g_aload_n (pc := 16) 0 dX5_ways_16 rfl rfl ?_
    refine g_iconst (pc := 17) (-1) dX5_ways_17 (by decide) ?_
    refine g_cVJ (pc := 18) (st := []) [.int (-1)] rfl rfl moX5_lowest lnX5_157 (ctX5_lowest ad n (-1) m1) rfl ⟨Nat.le_of_ble_eq_true rfl, Nat.le_of_ble_eq_true rfl⟩ rfl (Nat.le_of_ble_eq_true rfl) dX5_ways_18 (fun r4 m3 => ?_)
    exact g_lreturn (pc := 21) dX5_ways_21 rfl
  · refine g_aload_n (pc := 8) 0 dX5_ways_8 rfl rfl ?_
    refine g_iload_n (pc := 9) 2 dX5_ways_9 rfl rfl ?_
    refine g_cVI (pc := 10) (st := []) [.int a2] rfl rfl moX5_isStation lnX5_100 (ctX5_isStation ad n a2 m1) rfl ⟨Nat.le_of_ble_eq_true rfl, Nat.le_of_ble_eq_true rfl⟩ rfl (Nat.le_of_ble_eq_true rfl) dX5_ways_10 (fun r6 m5 => ?_)
    refine g_if_ne (pc := 13) 22 dX5_ways_13 rfl ?_ ?_
    · refine g_iload_n (pc := 22) 3 dX5_ways_22 rfl rfl ?_
      refine g_iconst (pc := 23) 0 dX5_ways_23 (by decide) ?_
      refine g_bipush (pc := 24) 20 dX5_ways_24 (by decide) ?_
      refine g_cSI (pc := 26) (st := []) [.int a3, .int 0, .int 20] moX5_bound lnX5_60 (ctX5_bound ad n a3 0 20 m5) rfl ⟨Nat.le_of_ble_eq_true rfl, Nat.le_of_ble_eq_true rfl⟩ rfl (Nat.le_of_ble_eq_true rfl) dX5_ways_26 (fun r8 m7 => ?_)
      refine g_istore (pc := 29) [(4, .int r8), (0, .ref (ad 47)), (1, .int a1), (2, .int a2), (3, .int a3)] dX5_ways_29 (by decide) rfl ?_
      refine g_iload (pc := 31) 0 dX5_ways_31 rfl ?_
      refine g_if_eq (pc := 33) 43 dX5_ways_33 rfl ?_ ?_
      · refine g_aload_n (pc := 43) 1 dX5_ways_43 rfl rfl ?_
        refine g_iload_n (pc := 44) 2 dX5_ways_44 rfl rfl ?_
        refine g_cVV (pc := 45) (st := []) [.int a1] rfl rfl moX5_beginsAt lnX5_161 (ctX5_beginsAt ad n a1 m7) rfl ⟨Nat.le_of_ble_eq_true rfl, Nat.le_of_ble_eq_true rfl⟩ rfl (Nat.le_of_ble_eq_true rfl) dX5_ways_45 (fun r10 m9 => ?_)
        refine g_iconst (pc := 48) 0 dX5_ways_48 (by decide) ?_
        refine g_istore (pc := 49) [(5, .int 0), (4, .int r8), (0, .ref (ad 47)), (1, .int a1), (2, .int a2), (3, .int a3)] dX5_ways_49 (by decide) rfl ?_
        exact g_sub [2, 4, 5, 0] rfl (wX5_ways_L51 ad n a2 a3 n 0 m9)
      · refine g_aload_n (pc := 36) 1 dX5_ways_36 rfl rfl ?_
        refine g_iload (pc := 37) 0 dX5_ways_37 rfl ?_
        refine g_cVJ (pc := 39) (st := []) [.int r8] rfl rfl moX5_lowest lnX5_157 (ctX5_lowest ad n r8 m7) rfl ⟨Nat.le_of_ble_eq_true rfl, Nat.le_of_ble_eq_true rfl⟩ rfl (Nat.le_of_ble_eq_true rfl) dX5_ways_39 (fun r15 m14 => ?_)
        exact g_lreturn (pc := 42) dX5_ways_42 rfl
    · refine g_aload_n (pc := 16) 0 dX5_ways_16 rfl rfl ?_
      refine g_iconst (pc := 17) (-1) dX5_ways_17 (by decide) ?_
      refine g_cVJ (pc := 18) (st := []) [.int (-1)] rfl rfl moX5_lowest lnX5_157 (ctX5_lowest ad n (-1) m5) rfl ⟨Nat.le_of_ble_eq_true rfl, Nat.le_of_ble_eq_true rfl⟩ rfl (Nat.le_of_ble_eq_true rfl) dX5_ways_18 (fun r17 m16 => ?_)
      exact g_lreturn (pc := 21) dX5_ways_21 rfl)
-- StopsByLettersModel.whitherOf(I)I
abbrev kX5_whitherOf : Cfg := (RX5, cX5_whitherOf, 4, (some .int), 5)
theorem dX5_whitherOf_0 : decode cX5_whitherOf 0 = .ok (.iconst 1, 1) := by decide +kernel
theorem dX5_whitherOf_1 : decode cX5_whitherOf 1 = .ok (.iload_n 1, 1) := by decide +kernel
theorem dX5_whitherOf_2 : decode cX5_whitherOf 2 = .ok (.ishl, 1) := by decide +kernel
theorem dX5_whitherOf_3 : decode cX5_whitherOf 3 = .ok (.istore_n 2, 1) := by decide +kernel
theorem dX5_whitherOf_4 : decode cX5_whitherOf 4 = .ok (.iconst 0, 1) := by decide +kernel
theorem dX5_whitherOf_5 : decode cX5_whitherOf 5 = .ok (.istore_n 3, 1) := by decide +kernel
theorem dX5_whitherOf_6 : decode cX5_whitherOf 6 = .ok (.iload_n 3, 1) := by decide +kernel
theorem dX5_whitherOf_7 : decode cX5_whitherOf 7 = .ok (.aload_n 0, 1) := by decide +kernel
theorem dX5_whitherOf_8 : decode cX5_whitherOf 8 = .ok (.getfield 56, 3) := by decide +kernel
theorem dX5_whitherOf_11 : decode cX5_whitherOf 11 = .ok (.if_icmp .ge 17, 3) := by decide +kernel
theorem dX5_whitherOf_14 : decode cX5_whitherOf 14 = .ok (.iload_n 2, 1) := by decide +kernel
theorem dX5_whitherOf_15 : decode cX5_whitherOf 15 = .ok (.aload_n 0, 1) := by decide +kernel
theorem dX5_whitherOf_16 : decode cX5_whitherOf 16 = .ok (.iload_n 2, 1) := by decide +kernel
theorem dX5_whitherOf_17 : decode cX5_whitherOf 17 = .ok (.invokevirtual 149, 3) := by decide +kernel
theorem dX5_whitherOf_20 : decode cX5_whitherOf 20 = .ok (.ior, 1) := by decide +kernel
theorem dX5_whitherOf_21 : decode cX5_whitherOf 21 = .ok (.istore_n 2, 1) := by decide +kernel
theorem dX5_whitherOf_22 : decode cX5_whitherOf 22 = .ok (.iinc 3 1, 3) := by decide +kernel
theorem dX5_whitherOf_25 : decode cX5_whitherOf 25 = .ok (.goto (-19), 3) := by decide +kernel
theorem dX5_whitherOf_28 : decode cX5_whitherOf 28 = .ok (.iload_n 2, 1) := by decide +kernel
theorem dX5_whitherOf_29 : decode cX5_whitherOf 29 = .ok (.ireturn, 1) := by decide +kernel
def fX5_whitherOf_L6 (n : Nat) : Nat → Int32 → Int32 → Mem → Option (Int32 × Mem)
  | 0, _, _, _ => none
  | F + 1, v2, v3, μ => if (μ.1 47 4) ≤ v3 then some (v2, μ) else bd (fX5_goesOn n v2 μ) (fun r3 m2 => bnd (v2 ||| r3) (fun x4 => bnd (v3 + 1) (fun x5 => fX5_whitherOf_L6 n F x4 x5 m2)))
def fX5_whitherOf (n : Nat) (a1 : Int32) (μ : Mem) : Option (Int32 × Mem) :=
  bnd (jshl 1 a1) (fun x1 => fX5_whitherOf_L6 n n x1 0 μ)
set_option maxHeartbeats 4000000 in
set_option maxRecDepth 100000 in
theorem wX5_whitherOf_L6 (ad : Nat → Nat) (n : Nat) : ∀ (F : Nat) (v2 : Int32) (v3 : Int32) (μ : Mem), G kX5_whitherOf ad encI 6 [(0, .ref (ad 47)), (2, .int v2), (3, .int v3)] [] μ (fX5_whitherOf_L6 n F v2 v3 μ) := by
  intro F
  induction F with
  | zero =>
    intro v2 v3 μ
    exact g_none
  | succ F ih =>
    intro v2 v3 μ
    rw [fX5_whitherOf_L6]
    refine g_iload_n (pc := 6) 2 dX5_whitherOf_6 rfl rfl ?_
    refine g_aload_n (pc := 7) 0 dX5_whitherOf_7 rfl rfl ?_
    refine g_get (pc := 8) rfl foX5_56 (v := .int (μ.1 47 4)) rfl dX5_whitherOf_8 ?_
    refine g_icmp_ge (pc := 11) 28 dX5_whitherOf_11 rfl ?_ ?_
    · refine g_iload_n (pc := 28) 1 dX5_whitherOf_28 rfl rfl ?_
      exact g_ireturn (pc := 29) dX5_whitherOf_29 rfl
    · refine g_iload_n (pc := 14) 1 dX5_whitherOf_14 rfl rfl ?_
      refine g_aload_n (pc := 15) 0 dX5_whitherOf_15 rfl rfl ?_
      refine g_iload_n (pc := 16) 1 dX5_whitherOf_16 rfl rfl ?_
      refine g_cVI (pc := 17) (st := [.int v2]) [.int v2] rfl rfl moX5_goesOn lnX5_149 (ctX5_goesOn ad n v2 μ) rfl ⟨Nat.le_of_ble_eq_true rfl, Nat.le_of_ble_eq_true rfl⟩ rfl (Nat.le_of_ble_eq_true rfl) dX5_whitherOf_17 (fun r3 m2 => ?_)
      refine g_ior (pc := 20) dX5_whitherOf_20 ?_
      refine g_istore_nB (pc := 21) (fun x4 => [(2, .int x4), (0, .ref (ad 47)), (3, .int v3)]) dX5_whitherOf_21 rfl (by decide) (fun _ => rfl) (fun x4 => ?_)
      refine g_iincB (pc := 22) 2 1 1 (fun x5 => [(3, .int x5), (2, .int x4), (0, .ref (ad 47))]) dX5_whitherOf_22 rfl (by decide) (by decide) (fun _ => rfl) (fun x5 => ?_)
      refine g_goto (pc := 25) 6 dX5_whitherOf_25 rfl ?_
      exact g_sub [2, 1, 0] rfl (ih x4 x5 m2)
set_option maxHeartbeats 4000000 in
set_option maxRecDepth 100000 in
theorem ctX5_whitherOf (ad : Nat → Nat) (n : Nat) (a1 : Int32) (μ : Mem) : Ct yX5_whitherOf kX5_whitherOf ad encI [.ref (ad 47), .int a1] μ (fX5_whitherOf n a1 μ) := Ct.of (by decide +kernel) rfl (Nat.le_of_ble_eq_true rfl) (by
  show G kX5_whitherOf ad encI 0 [(0, .ref (ad 47)), (1, .int a1)] [] μ (fX5_whitherOf n a1 μ)
  unfold fX5_whitherOf
  refine g_iconst (pc := 0) 1 dX5_whitherOf_0 (by decide) ?_
  refine g_iload_n (pc := 1) 1 dX5_whitherOf_1 rfl rfl ?_
  refine g_ishl' (pc := 2) dX5_whitherOf_2 ?_
  refine g_istore_nB (pc := 3) (fun x1 => [(2, .int x1), (0, .ref (ad 47)), (1, .int a1)]) dX5_whitherOf_3 rfl (by decide) (fun _ => rfl) (fun x1 => ?_)
  refine g_iconst (pc := 4) 0 dX5_whitherOf_4 (by decide) ?_
  refine g_istore_n (pc := 5) [(3, .int 0), (2, .int x1), (0, .ref (ad 47)), (1, .int a1)] dX5_whitherOf_5 rfl (by decide) rfl ?_
  exact g_sub [2, 1, 0] rfl (wX5_whitherOf_L6 ad n n x1 0 μ))
-- StopsByLettersModel.whither(I)I
abbrev kX5_whither : Cfg := (RX5, cX5_whither, 2, (some .int), 6)
theorem dX5_whither_0 : decode cX5_whither 0 = .ok (.aload_n 0, 1) := by decide +kernel
theorem dX5_whither_1 : decode cX5_whither 1 = .ok (.iload_n 1, 1) := by decide +kernel
theorem dX5_whither_2 : decode cX5_whither 2 = .ok (.invokevirtual 100, 3) := by decide +kernel
theorem dX5_whither_5 : decode cX5_whither 5 = .ok (.ifCond .eq 11, 3) := by decide +kernel
theorem dX5_whither_8 : decode cX5_whither 8 = .ok (.aload_n 0, 1) := by decide +kernel
theorem dX5_whither_9 : decode cX5_whither 9 = .ok (.iload_n 1, 1) := by decide +kernel
theorem dX5_whither_10 : decode cX5_whither 10 = .ok (.invokevirtual 169, 3) := by decide +kernel
theorem dX5_whither_13 : decode cX5_whither 13 = .ok (.goto 8, 3) := by decide +kernel
theorem dX5_whither_16 : decode cX5_whither 16 = .ok (.aload_n 0, 1) := by decide +kernel
theorem dX5_whither_17 : decode cX5_whither 17 = .ok (.iconst (-1), 1) := by decide +kernel
theorem dX5_whither_18 : decode cX5_whither 18 = .ok (.invokevirtual 67, 3) := by decide +kernel
theorem dX5_whither_21 : decode cX5_whither 21 = .ok (.ireturn, 1) := by decide +kernel
theorem lnX5_169 : Ln RX5 169 yX5_whitherOf := Or.inl (tb_in 903 (by decide +kernel) rfl)
theorem moX5_whitherOf : Mv yX5_whitherOf kX5_whitherOf 1 := ⟨⟨tb_in 906 (by decide +kernel) rfl, tb_in 92 (by decide +kernel) rfl, ⟨by decide, by decide⟩, by decide +kernel⟩, tb_in 905 (by decide +kernel) rfl, tb_in 75 (by decide +kernel) rfl⟩
def fX5_whither (n : Nat) (a1 : Int32) (μ : Mem) : Option (Int32 × Mem) :=
  bd (fX5_isStation n a1 μ) (fun r2 m1 => if r2 = 0 then bd (fX5_no n (-1) m1) (fun r4 m3 => some (r4, m3)) else bd (fX5_whitherOf n a1 m1) (fun r6 m5 => some (r6, m5)))
set_option maxHeartbeats 4000000 in
set_option maxRecDepth 100000 in
theorem ctX5_whither (ad : Nat → Nat) (n : Nat) (a1 : Int32) (μ : Mem) : Ct yX5_whither kX5_whither ad encI [.ref (ad 47), .int a1] μ (fX5_whither n a1 μ) := Ct.of (by decide +kernel) rfl (Nat.le_of_ble_eq_true rfl) (by
  show G kX5_whither ad encI 0 [(0, .ref (ad 47)), (1, .int a1)] [] μ (fX5_whither n a1 μ)
  unfold fX5_whither
  refine g_aload_n (pc := 0) 0 dX5_whither_0 rfl rfl ?_
  refine g_iload_n (pc := 1) 1 dX5_whither_1 rfl rfl ?_
  refine g_cVI (pc := 2) (st := []) [.int a1] rfl rfl moX5_isStation lnX5_100 (ctX5_isStation ad n a1 μ) rfl ⟨Nat.le_of_ble_eq_true rfl, Nat.le_of_ble_eq_true rfl⟩ rfl (Nat.le_of_ble_eq_true rfl) dX5_whither_2 (fun r2 m1 => ?_)
  refine g_if_eq (pc := 5) 16 dX5_whither_5 rfl ?_ ?_
  · refine g_aload_n (pc := 16) 0 dX5_whither_16 rfl rfl ?_
    refine g_iconst (pc := 17) (-1) dX5_whither_17 (by decide) ?_
    refine g_cVI (pc := 18) (st := []) [.int (-1)] rfl rfl moX5_no lnX5_67 (ctX5_no ad n (-1) m1) rfl ⟨Nat.le_of_ble_eq_true rfl, Nat.le_of_ble_eq_true rfl⟩ rfl (Nat.le_of_ble_eq_true rfl) dX5_whither_18 (fun r4 m3 => ?_)
    exact g_ireturn (pc := 21) dX5_whither_21 rfl
  · refine g_aload_n (pc := 8) 0 dX5_whither_8 rfl rfl ?_
    refine g_iload_n (pc := 9) 1 dX5_whither_9 rfl rfl ?_
    refine g_cVI (pc := 10) (st := []) [.int a1] rfl rfl moX5_whitherOf lnX5_169 (ctX5_whitherOf ad n a1 m1) rfl ⟨Nat.le_of_ble_eq_true rfl, Nat.le_of_ble_eq_true rfl⟩ rfl (Nat.le_of_ble_eq_true rfl) dX5_whither_10 (fun r6 m5 => ?_)
    refine g_goto (pc := 13) 21 dX5_whither_13 rfl ?_
    exact g_ireturn (pc := 21) dX5_whither_21 rfl)
-- StopsByLettersModel.whenceOf(I)I
abbrev kX5_whenceOf : Cfg := (RX5, cX5_whenceOf, 4, (some .int), 6)
theorem dX5_whenceOf_0 : decode cX5_whenceOf 0 = .ok (.iconst 0, 1) := by decide +kernel
theorem dX5_whenceOf_1 : decode cX5_whenceOf 1 = .ok (.istore_n 2, 1) := by decide +kernel
theorem dX5_whenceOf_2 : decode cX5_whenceOf 2 = .ok (.iconst 0, 1) := by decide +kernel
theorem dX5_whenceOf_3 : decode cX5_whenceOf 3 = .ok (.istore_n 3, 1) := by decide +kernel
theorem dX5_whenceOf_4 : decode cX5_whenceOf 4 = .ok (.iload_n 3, 1) := by decide +kernel
theorem dX5_whenceOf_5 : decode cX5_whenceOf 5 = .ok (.aload_n 0, 1) := by decide +kernel
theorem dX5_whenceOf_6 : decode cX5_whenceOf 6 = .ok (.getfield 56, 3) := by decide +kernel
theorem dX5_whenceOf_9 : decode cX5_whenceOf 9 = .ok (.if_icmp .ge 23, 3) := by decide +kernel
theorem dX5_whenceOf_12 : decode cX5_whenceOf 12 = .ok (.iload_n 2, 1) := by decide +kernel
theorem dX5_whenceOf_13 : decode cX5_whenceOf 13 = .ok (.aload_n 0, 1) := by decide +kernel
theorem dX5_whenceOf_14 : decode cX5_whenceOf 14 = .ok (.iload_n 3, 1) := by decide +kernel
theorem dX5_whenceOf_15 : decode cX5_whenceOf 15 = .ok (.invokevirtual 169, 3) := by decide +kernel
theorem dX5_whenceOf_18 : decode cX5_whenceOf 18 = .ok (.iload_n 1, 1) := by decide +kernel
theorem dX5_whenceOf_19 : decode cX5_whenceOf 19 = .ok (.ishr, 1) := by decide +kernel
theorem dX5_whenceOf_20 : decode cX5_whenceOf 20 = .ok (.iconst 1, 1) := by decide +kernel
theorem dX5_whenceOf_21 : decode cX5_whenceOf 21 = .ok (.iand, 1) := by decide +kernel
theorem dX5_whenceOf_22 : decode cX5_whenceOf 22 = .ok (.iload_n 3, 1) := by decide +kernel
theorem dX5_whenceOf_23 : decode cX5_whenceOf 23 = .ok (.ishl, 1) := by decide +kernel
theorem dX5_whenceOf_24 : decode cX5_whenceOf 24 = .ok (.ior, 1) := by decide +kernel
theorem dX5_whenceOf_25 : decode cX5_whenceOf 25 = .ok (.istore_n 2, 1) := by decide +kernel
theorem dX5_whenceOf_26 : decode cX5_whenceOf 26 = .ok (.iinc 3 1, 3) := by decide +kernel
theorem dX5_whenceOf_29 : decode cX5_whenceOf 29 = .ok (.goto (-25), 3) := by decide +kernel
theorem dX5_whenceOf_32 : decode cX5_whenceOf 32 = .ok (.iload_n 2, 1) := by decide +kernel
theorem dX5_whenceOf_33 : decode cX5_whenceOf 33 = .ok (.ireturn, 1) := by decide +kernel
def fX5_whenceOf_L4 (n : Nat) (v1 : Int32) : Nat → Int32 → Int32 → Mem → Option (Int32 × Mem)
  | 0, _, _, _ => none
  | F + 1, v2, v3, μ => if (μ.1 47 4) ≤ v3 then some (v2, μ) else bd (fX5_whitherOf n v3 μ) (fun r2 m1 => bnd (v2 ||| (jshl ((jshr r2 v1) &&& 1) v3)) (fun x3 => bnd (v3 + 1) (fun x4 => fX5_whenceOf_L4 n v1 F x3 x4 m1)))
def fX5_whenceOf (n : Nat) (a1 : Int32) (μ : Mem) : Option (Int32 × Mem) :=
  fX5_whenceOf_L4 n a1 n 0 0 μ
set_option maxHeartbeats 4000000 in
set_option maxRecDepth 100000 in
theorem wX5_whenceOf_L4 (ad : Nat → Nat) (n : Nat) (v1 : Int32) : ∀ (F : Nat) (v2 : Int32) (v3 : Int32) (μ : Mem), G kX5_whenceOf ad encI 4 [(0, .ref (ad 47)), (1, .int v1), (2, .int v2), (3, .int v3)] [] μ (fX5_whenceOf_L4 n v1 F v2 v3 μ) := by
  intro F
  induction F with
  | zero =>
    intro v2 v3 μ
    exact g_none
  | succ F ih =>
    intro v2 v3 μ
    rw [fX5_whenceOf_L4]
    refine g_iload_n (pc := 4) 3 dX5_whenceOf_4 rfl rfl ?_
    refine g_aload_n (pc := 5) 0 dX5_whenceOf_5 rfl rfl ?_
    refine g_get (pc := 6) rfl foX5_56 (v := .int (μ.1 47 4)) rfl dX5_whenceOf_6 ?_
    refine g_icmp_ge (pc := 9) 32 dX5_whenceOf_9 rfl ?_ ?_
    · refine g_iload_n (pc := 32) 2 dX5_whenceOf_32 rfl rfl ?_
      exact g_ireturn (pc := 33) dX5_whenceOf_33 rfl
    · refine g_iload_n (pc := 12) 2 dX5_whenceOf_12 rfl rfl ?_
      refine g_aload_n (pc := 13) 0 dX5_whenceOf_13 rfl rfl ?_
      refine g_iload_n (pc := 14) 3 dX5_whenceOf_14 rfl rfl ?_
      refine g_cVI (pc := 15) (st := [.int v2]) [.int v3] rfl rfl moX5_whitherOf lnX5_169 (ctX5_whitherOf ad n v3 μ) rfl ⟨Nat.le_of_ble_eq_true rfl, Nat.le_of_ble_eq_true rfl⟩ rfl (Nat.le_of_ble_eq_true rfl) dX5_whenceOf_15 (fun r2 m1 => ?_)
      refine g_iload_n (pc := 18) 1 dX5_whenceOf_18 rfl rfl ?_
      refine g_ishr' (pc := 19) dX5_whenceOf_19 ?_
      refine g_iconst (pc := 20) 1 dX5_whenceOf_20 (by decide) ?_
      refine g_iand (pc := 21) dX5_whenceOf_21 ?_
      refine g_iload_n (pc := 22) 3 dX5_whenceOf_22 rfl rfl ?_
      refine g_ishl' (pc := 23) dX5_whenceOf_23 ?_
      refine g_ior (pc := 24) dX5_whenceOf_24 ?_
      refine g_istore_nB (pc := 25) (fun x3 => [(2, .int x3), (0, .ref (ad 47)), (1, .int v1), (3, .int v3)]) dX5_whenceOf_25 rfl (by decide) (fun _ => rfl) (fun x3 => ?_)
      refine g_iincB (pc := 26) 3 1 1 (fun x4 => [(3, .int x4), (2, .int x3), (0, .ref (ad 47)), (1, .int v1)]) dX5_whenceOf_26 rfl (by decide) (by decide) (fun _ => rfl) (fun x4 => ?_)
      refine g_goto (pc := 29) 4 dX5_whenceOf_29 rfl ?_
      exact g_sub [2, 3, 1, 0] rfl (ih x3 x4 m1)
set_option maxHeartbeats 4000000 in
set_option maxRecDepth 100000 in
theorem ctX5_whenceOf (ad : Nat → Nat) (n : Nat) (a1 : Int32) (μ : Mem) : Ct yX5_whenceOf kX5_whenceOf ad encI [.ref (ad 47), .int a1] μ (fX5_whenceOf n a1 μ) := Ct.of (by decide +kernel) rfl (Nat.le_of_ble_eq_true rfl) (by
  show G kX5_whenceOf ad encI 0 [(0, .ref (ad 47)), (1, .int a1)] [] μ (fX5_whenceOf n a1 μ)
  unfold fX5_whenceOf
  refine g_iconst (pc := 0) 0 dX5_whenceOf_0 (by decide) ?_
  refine g_istore_n (pc := 1) [(2, .int 0), (0, .ref (ad 47)), (1, .int a1)] dX5_whenceOf_1 rfl (by decide) rfl ?_
  refine g_iconst (pc := 2) 0 dX5_whenceOf_2 (by decide) ?_
  refine g_istore_n (pc := 3) [(3, .int 0), (2, .int 0), (0, .ref (ad 47)), (1, .int a1)] dX5_whenceOf_3 rfl (by decide) rfl ?_
  exact g_sub [2, 3, 1, 0] rfl (wX5_whenceOf_L4 ad n a1 n 0 0 μ))
-- StopsByLettersModel.whence(I)I
abbrev kX5_whence : Cfg := (RX5, cX5_whence, 2, (some .int), 7)
theorem dX5_whence_0 : decode cX5_whence 0 = .ok (.aload_n 0, 1) := by decide +kernel
theorem dX5_whence_1 : decode cX5_whence 1 = .ok (.iload_n 1, 1) := by decide +kernel
theorem dX5_whence_2 : decode cX5_whence 2 = .ok (.invokevirtual 100, 3) := by decide +kernel
theorem dX5_whence_5 : decode cX5_whence 5 = .ok (.ifCond .eq 11, 3) := by decide +kernel
theorem dX5_whence_8 : decode cX5_whence 8 = .ok (.aload_n 0, 1) := by decide +kernel
theorem dX5_whence_9 : decode cX5_whence 9 = .ok (.iload_n 1, 1) := by decide +kernel
theorem dX5_whence_10 : decode cX5_whence 10 = .ok (.invokevirtual 172, 3) := by decide +kernel
theorem dX5_whence_13 : decode cX5_whence 13 = .ok (.goto 8, 3) := by decide +kernel
theorem dX5_whence_16 : decode cX5_whence 16 = .ok (.aload_n 0, 1) := by decide +kernel
theorem dX5_whence_17 : decode cX5_whence 17 = .ok (.iconst (-1), 1) := by decide +kernel
theorem dX5_whence_18 : decode cX5_whence 18 = .ok (.invokevirtual 67, 3) := by decide +kernel
theorem dX5_whence_21 : decode cX5_whence 21 = .ok (.ireturn, 1) := by decide +kernel
theorem lnX5_172 : Ln RX5 172 yX5_whenceOf := Or.inl (tb_in 911 (by decide +kernel) rfl)
theorem moX5_whenceOf : Mv yX5_whenceOf kX5_whenceOf 1 := ⟨⟨tb_in 914 (by decide +kernel) rfl, tb_in 92 (by decide +kernel) rfl, ⟨by decide, by decide⟩, by decide +kernel⟩, tb_in 913 (by decide +kernel) rfl, tb_in 76 (by decide +kernel) rfl⟩
def fX5_whence (n : Nat) (a1 : Int32) (μ : Mem) : Option (Int32 × Mem) :=
  bd (fX5_isStation n a1 μ) (fun r2 m1 => if r2 = 0 then bd (fX5_no n (-1) m1) (fun r4 m3 => some (r4, m3)) else bd (fX5_whenceOf n a1 m1) (fun r6 m5 => some (r6, m5)))
set_option maxHeartbeats 4000000 in
set_option maxRecDepth 100000 in
theorem ctX5_whence (ad : Nat → Nat) (n : Nat) (a1 : Int32) (μ : Mem) : Ct yX5_whence kX5_whence ad encI [.ref (ad 47), .int a1] μ (fX5_whence n a1 μ) := Ct.of (by decide +kernel) rfl (Nat.le_of_ble_eq_true rfl) (by
  show G kX5_whence ad encI 0 [(0, .ref (ad 47)), (1, .int a1)] [] μ (fX5_whence n a1 μ)
  unfold fX5_whence
  refine g_aload_n (pc := 0) 0 dX5_whence_0 rfl rfl ?_
  refine g_iload_n (pc := 1) 1 dX5_whence_1 rfl rfl ?_
  refine g_cVI (pc := 2) (st := []) [.int a1] rfl rfl moX5_isStation lnX5_100 (ctX5_isStation ad n a1 μ) rfl ⟨Nat.le_of_ble_eq_true rfl, Nat.le_of_ble_eq_true rfl⟩ rfl (Nat.le_of_ble_eq_true rfl) dX5_whence_2 (fun r2 m1 => ?_)
  refine g_if_eq (pc := 5) 16 dX5_whence_5 rfl ?_ ?_
  · refine g_aload_n (pc := 16) 0 dX5_whence_16 rfl rfl ?_
    refine g_iconst (pc := 17) (-1) dX5_whence_17 (by decide) ?_
    refine g_cVI (pc := 18) (st := []) [.int (-1)] rfl rfl moX5_no lnX5_67 (ctX5_no ad n (-1) m1) rfl ⟨Nat.le_of_ble_eq_true rfl, Nat.le_of_ble_eq_true rfl⟩ rfl (Nat.le_of_ble_eq_true rfl) dX5_whence_18 (fun r4 m3 => ?_)
    exact g_ireturn (pc := 21) dX5_whence_21 rfl
  · refine g_aload_n (pc := 8) 0 dX5_whence_8 rfl rfl ?_
    refine g_iload_n (pc := 9) 1 dX5_whence_9 rfl rfl ?_
    refine g_cVI (pc := 10) (st := []) [.int a1] rfl rfl moX5_whenceOf lnX5_172 (ctX5_whenceOf ad n a1 m1) rfl ⟨Nat.le_of_ble_eq_true rfl, Nat.le_of_ble_eq_true rfl⟩ rfl (Nat.le_of_ble_eq_true rfl) dX5_whence_10 (fun r6 m5 => ?_)
    refine g_goto (pc := 13) 21 dX5_whence_13 rfl ?_
    exact g_ireturn (pc := 21) dX5_whence_21 rfl)
-- StopsByLettersModel.blind()I
abbrev kX5_blind : Cfg := (RX5, cX5_blind, 3, (some .int), 4)
theorem dX5_blind_0 : decode cX5_blind 0 = .ok (.iconst 0, 1) := by decide +kernel
theorem dX5_blind_1 : decode cX5_blind 1 = .ok (.istore_n 1, 1) := by decide +kernel
theorem dX5_blind_2 : decode cX5_blind 2 = .ok (.iconst 0, 1) := by decide +kernel
theorem dX5_blind_3 : decode cX5_blind 3 = .ok (.istore_n 2, 1) := by decide +kernel
theorem dX5_blind_4 : decode cX5_blind 4 = .ok (.iload_n 2, 1) := by decide +kernel
theorem dX5_blind_5 : decode cX5_blind 5 = .ok (.aload_n 0, 1) := by decide +kernel
theorem dX5_blind_6 : decode cX5_blind 6 = .ok (.getfield 56, 3) := by decide +kernel
theorem dX5_blind_9 : decode cX5_blind 9 = .ok (.if_icmp .ge 23, 3) := by decide +kernel
theorem dX5_blind_12 : decode cX5_blind 12 = .ok (.iload_n 1, 1) := by decide +kernel
theorem dX5_blind_13 : decode cX5_blind 13 = .ok (.aload_n 0, 1) := by decide +kernel
theorem dX5_blind_14 : decode cX5_blind 14 = .ok (.iload_n 2, 1) := by decide +kernel
theorem dX5_blind_15 : decode cX5_blind 15 = .ok (.invokevirtual 146, 3) := by decide +kernel
theorem dX5_blind_18 : decode cX5_blind 18 = .ok (.iconst 1, 1) := by decide +kernel
theorem dX5_blind_19 : decode cX5_blind 19 = .ok (.iload_n 2, 1) := by decide +kernel
theorem dX5_blind_20 : decode cX5_blind 20 = .ok (.ishl, 1) := by decide +kernel
theorem dX5_blind_21 : decode cX5_blind 21 = .ok (.iconst (-1), 1) := by decide +kernel
theorem dX5_blind_22 : decode cX5_blind 22 = .ok (.ixor, 1) := by decide +kernel
theorem dX5_blind_23 : decode cX5_blind 23 = .ok (.iand, 1) := by decide +kernel
theorem dX5_blind_24 : decode cX5_blind 24 = .ok (.ior, 1) := by decide +kernel
theorem dX5_blind_25 : decode cX5_blind 25 = .ok (.istore_n 1, 1) := by decide +kernel
theorem dX5_blind_26 : decode cX5_blind 26 = .ok (.iinc 2 1, 3) := by decide +kernel
theorem dX5_blind_29 : decode cX5_blind 29 = .ok (.goto (-25), 3) := by decide +kernel
theorem dX5_blind_32 : decode cX5_blind 32 = .ok (.iconst 1, 1) := by decide +kernel
theorem dX5_blind_33 : decode cX5_blind 33 = .ok (.aload_n 0, 1) := by decide +kernel
theorem dX5_blind_34 : decode cX5_blind 34 = .ok (.getfield 56, 3) := by decide +kernel
theorem dX5_blind_37 : decode cX5_blind 37 = .ok (.ishl, 1) := by decide +kernel
theorem dX5_blind_38 : decode cX5_blind 38 = .ok (.iconst 1, 1) := by decide +kernel
theorem dX5_blind_39 : decode cX5_blind 39 = .ok (.isub, 1) := by decide +kernel
theorem dX5_blind_40 : decode cX5_blind 40 = .ok (.iload_n 1, 1) := by decide +kernel
theorem dX5_blind_41 : decode cX5_blind 41 = .ok (.iconst (-1), 1) := by decide +kernel
theorem dX5_blind_42 : decode cX5_blind 42 = .ok (.ixor, 1) := by decide +kernel
theorem dX5_blind_43 : decode cX5_blind 43 = .ok (.iand, 1) := by decide +kernel
theorem dX5_blind_44 : decode cX5_blind 44 = .ok (.ireturn, 1) := by decide +kernel
def fX5_blind_L4 (n : Nat) : Nat → Int32 → Int32 → Mem → Option (Int32 × Mem)
  | 0, _, _, _ => none
  | F + 1, v1, v2, μ => if (μ.1 47 4) ≤ v2 then some ((((jshl 1 (μ.1 47 4)) - 1) &&& (v1 ^^^ (-1))), μ) else bd (fX5_ridesOf n v2 μ) (fun r2 m1 => bnd (v1 ||| (r2 &&& ((jshl 1 v2) ^^^ (-1)))) (fun x3 => bnd (v2 + 1) (fun x4 => fX5_blind_L4 n F x3 x4 m1)))
def fX5_blind (n : Nat) (μ : Mem) : Option (Int32 × Mem) :=
  fX5_blind_L4 n n 0 0 μ
set_option maxHeartbeats 4000000 in
set_option maxRecDepth 100000 in
theorem wX5_blind_L4 (ad : Nat → Nat) (n : Nat) : ∀ (F : Nat) (v1 : Int32) (v2 : Int32) (μ : Mem), G kX5_blind ad encI 4 [(0, .ref (ad 47)), (1, .int v1), (2, .int v2)] [] μ (fX5_blind_L4 n F v1 v2 μ) := by
  intro F
  induction F with
  | zero =>
    intro v1 v2 μ
    exact g_none
  | succ F ih =>
    intro v1 v2 μ
    rw [fX5_blind_L4]
    refine g_iload_n (pc := 4) 2 dX5_blind_4 rfl rfl ?_
    refine g_aload_n (pc := 5) 0 dX5_blind_5 rfl rfl ?_
    refine g_get (pc := 6) rfl foX5_56 (v := .int (μ.1 47 4)) rfl dX5_blind_6 ?_
    refine g_icmp_ge (pc := 9) 32 dX5_blind_9 rfl ?_ ?_
    · refine g_iconst (pc := 32) 1 dX5_blind_32 (by decide) ?_
      refine g_aload_n (pc := 33) 0 dX5_blind_33 rfl rfl ?_
      refine g_get (pc := 34) rfl foX5_56 (v := .int (μ.1 47 4)) rfl dX5_blind_34 ?_
      refine g_ishl' (pc := 37) dX5_blind_37 ?_
      refine g_iconst (pc := 38) 1 dX5_blind_38 (by decide) ?_
      refine g_isub (pc := 39) dX5_blind_39 ?_
      refine g_iload_n (pc := 40) 1 dX5_blind_40 rfl rfl ?_
      refine g_iconst (pc := 41) (-1) dX5_blind_41 (by decide) ?_
      refine g_ixor (pc := 42) dX5_blind_42 ?_
      refine g_iand (pc := 43) dX5_blind_43 ?_
      exact g_ireturn (pc := 44) dX5_blind_44 rfl
    · refine g_iload_n (pc := 12) 1 dX5_blind_12 rfl rfl ?_
      refine g_aload_n (pc := 13) 0 dX5_blind_13 rfl rfl ?_
      refine g_iload_n (pc := 14) 2 dX5_blind_14 rfl rfl ?_
      refine g_cVI (pc := 15) (st := [.int v1]) [.int v2] rfl rfl moX5_ridesOf lnX5_146 (ctX5_ridesOf ad n v2 μ) rfl ⟨Nat.le_of_ble_eq_true rfl, Nat.le_of_ble_eq_true rfl⟩ rfl (Nat.le_of_ble_eq_true rfl) dX5_blind_15 (fun r2 m1 => ?_)
      refine g_iconst (pc := 18) 1 dX5_blind_18 (by decide) ?_
      refine g_iload_n (pc := 19) 2 dX5_blind_19 rfl rfl ?_
      refine g_ishl' (pc := 20) dX5_blind_20 ?_
      refine g_iconst (pc := 21) (-1) dX5_blind_21 (by decide) ?_
      refine g_ixor (pc := 22) dX5_blind_22 ?_
      refine g_iand (pc := 23) dX5_blind_23 ?_
      refine g_ior (pc := 24) dX5_blind_24 ?_
      refine g_istore_nB (pc := 25) (fun x3 => [(1, .int x3), (0, .ref (ad 47)), (2, .int v2)]) dX5_blind_25 rfl (by decide) (fun _ => rfl) (fun x3 => ?_)
      refine g_iincB (pc := 26) 2 1 1 (fun x4 => [(2, .int x4), (1, .int x3), (0, .ref (ad 47))]) dX5_blind_26 rfl (by decide) (by decide) (fun _ => rfl) (fun x4 => ?_)
      refine g_goto (pc := 29) 4 dX5_blind_29 rfl ?_
      exact g_sub [2, 1, 0] rfl (ih x3 x4 m1)
set_option maxHeartbeats 4000000 in
set_option maxRecDepth 100000 in
theorem ctX5_blind (ad : Nat → Nat) (n : Nat) (μ : Mem) : Ct yX5_blind kX5_blind ad encI [.ref (ad 47)] μ (fX5_blind n μ) := Ct.of (by decide +kernel) rfl (Nat.le_of_ble_eq_true rfl) (by
  show G kX5_blind ad encI 0 [(0, .ref (ad 47))] [] μ (fX5_blind n μ)
  unfold fX5_blind
  refine g_iconst (pc := 0) 0 dX5_blind_0 (by decide) ?_
  refine g_istore_n (pc := 1) [(1, .int 0), (0, .ref (ad 47))] dX5_blind_1 rfl (by decide) rfl ?_
  refine g_iconst (pc := 2) 0 dX5_blind_2 (by decide) ?_
  refine g_istore_n (pc := 3) [(2, .int 0), (1, .int 0), (0, .ref (ad 47))] dX5_blind_3 rfl (by decide) rfl ?_
  exact g_sub [2, 1, 0] rfl (wX5_blind_L4 ad n n 0 0 μ))
-- StopsByLettersModel.dead()I
abbrev kX5_dead : Cfg := (RX5, cX5_dead, 3, (some .int), 4)
theorem dX5_dead_0 : decode cX5_dead 0 = .ok (.iconst 0, 1) := by decide +kernel
theorem dX5_dead_1 : decode cX5_dead 1 = .ok (.istore_n 1, 1) := by decide +kernel
theorem dX5_dead_2 : decode cX5_dead 2 = .ok (.iconst 0, 1) := by decide +kernel
theorem dX5_dead_3 : decode cX5_dead 3 = .ok (.istore_n 2, 1) := by decide +kernel
theorem dX5_dead_4 : decode cX5_dead 4 = .ok (.iload_n 2, 1) := by decide +kernel
theorem dX5_dead_5 : decode cX5_dead 5 = .ok (.aload_n 0, 1) := by decide +kernel
theorem dX5_dead_6 : decode cX5_dead 6 = .ok (.getfield 56, 3) := by decide +kernel
theorem dX5_dead_9 : decode cX5_dead 9 = .ok (.if_icmp .ge 33, 3) := by decide +kernel
theorem dX5_dead_12 : decode cX5_dead 12 = .ok (.iload_n 1, 1) := by decide +kernel
theorem dX5_dead_13 : decode cX5_dead 13 = .ok (.aload_n 0, 1) := by decide +kernel
theorem dX5_dead_14 : decode cX5_dead 14 = .ok (.iload_n 2, 1) := by decide +kernel
theorem dX5_dead_15 : decode cX5_dead 15 = .ok (.invokevirtual 146, 3) := by decide +kernel
theorem dX5_dead_18 : decode cX5_dead 18 = .ok (.iconst 1, 1) := by decide +kernel
theorem dX5_dead_19 : decode cX5_dead 19 = .ok (.iload_n 2, 1) := by decide +kernel
theorem dX5_dead_20 : decode cX5_dead 20 = .ok (.ishl, 1) := by decide +kernel
theorem dX5_dead_21 : decode cX5_dead 21 = .ok (.iconst (-1), 1) := by decide +kernel
theorem dX5_dead_22 : decode cX5_dead 22 = .ok (.ixor, 1) := by decide +kernel
theorem dX5_dead_23 : decode cX5_dead 23 = .ok (.iand, 1) := by decide +kernel
theorem dX5_dead_24 : decode cX5_dead 24 = .ok (.ifCond .ne 9, 3) := by decide +kernel
theorem dX5_dead_27 : decode cX5_dead 27 = .ok (.iconst 1, 1) := by decide +kernel
theorem dX5_dead_28 : decode cX5_dead 28 = .ok (.iload_n 2, 1) := by decide +kernel
theorem dX5_dead_29 : decode cX5_dead 29 = .ok (.ishl, 1) := by decide +kernel
theorem dX5_dead_30 : decode cX5_dead 30 = .ok (.goto 4, 3) := by decide +kernel
theorem dX5_dead_33 : decode cX5_dead 33 = .ok (.iconst 0, 1) := by decide +kernel
theorem dX5_dead_34 : decode cX5_dead 34 = .ok (.ior, 1) := by decide +kernel
theorem dX5_dead_35 : decode cX5_dead 35 = .ok (.istore_n 1, 1) := by decide +kernel
theorem dX5_dead_36 : decode cX5_dead 36 = .ok (.iinc 2 1, 3) := by decide +kernel
theorem dX5_dead_39 : decode cX5_dead 39 = .ok (.goto (-35), 3) := by decide +kernel
theorem dX5_dead_42 : decode cX5_dead 42 = .ok (.iload_n 1, 1) := by decide +kernel
theorem dX5_dead_43 : decode cX5_dead 43 = .ok (.ireturn, 1) := by decide +kernel
def fX5_dead_L4 (n : Nat) : Nat → Int32 → Int32 → Mem → Option (Int32 × Mem)
  | 0, _, _, _ => none
  | F + 1, v1, v2, μ => if (μ.1 47 4) ≤ v2 then some (v1, μ) else bd (fX5_ridesOf n v2 μ) (fun r2 m1 => bnd (fun (x4 : Int32) (m5 : Mem) => bnd (v1 ||| x4) (fun x6 => bnd (v2 + 1) (fun x7 => fX5_dead_L4 n F x6 x7 m5))) (fun kb3 => if (r2 &&& ((jshl 1 v2) ^^^ (-1))) = 0 then kb3 (jshl 1 v2) m1 else kb3 0 m1))
def fX5_dead (n : Nat) (μ : Mem) : Option (Int32 × Mem) :=
  fX5_dead_L4 n n 0 0 μ
set_option maxHeartbeats 4000000 in
set_option maxRecDepth 100000 in
theorem wX5_dead_L4 (ad : Nat → Nat) (n : Nat) : ∀ (F : Nat) (v1 : Int32) (v2 : Int32) (μ : Mem), G kX5_dead ad encI 4 [(0, .ref (ad 47)), (1, .int v1), (2, .int v2)] [] μ (fX5_dead_L4 n F v1 v2 μ) := by
  intro F
  induction F with
  | zero =>
    intro v1 v2 μ
    exact g_none
  | succ F ih =>
    intro v1 v2 μ
    rw [fX5_dead_L4]
    refine g_iload_n (pc := 4) 2 dX5_dead_4 rfl rfl ?_
    refine g_aload_n (pc := 5) 0 dX5_dead_5 rfl rfl ?_
    refine g_get (pc := 6) rfl foX5_56 (v := .int (μ.1 47 4)) rfl dX5_dead_6 ?_
    refine g_icmp_ge (pc := 9) 42 dX5_dead_9 rfl ?_ ?_
    · refine g_iload_n (pc := 42) 1 dX5_dead_42 rfl rfl ?_
      exact g_ireturn (pc := 43) dX5_dead_43 rfl
    · refine g_iload_n (pc := 12) 1 dX5_dead_12 rfl rfl ?_
      refine g_aload_n (pc := 13) 0 dX5_dead_13 rfl rfl ?_
      refine g_iload_n (pc := 14) 2 dX5_dead_14 rfl rfl ?_
      refine g_cVI (pc := 15) (st := [.int v1]) [.int v2] rfl rfl moX5_ridesOf lnX5_146 (ctX5_ridesOf ad n v2 μ) rfl ⟨Nat.le_of_ble_eq_true rfl, Nat.le_of_ble_eq_true rfl⟩ rfl (Nat.le_of_ble_eq_true rfl) dX5_dead_15 (fun r2 m1 => ?_)
      refine g_iconst (pc := 18) 1 dX5_dead_18 (by decide) ?_
      refine g_iload_n (pc := 19) 2 dX5_dead_19 rfl rfl ?_
      refine g_ishl' (pc := 20) dX5_dead_20 ?_
      refine g_iconst (pc := 21) (-1) dX5_dead_21 (by decide) ?_
      refine g_ixor (pc := 22) dX5_dead_22 ?_
      refine g_iand (pc := 23) dX5_dead_23 ?_
      refine g_join (fun kb => ∀ (x4 : Int32) (m5 : Mem), G kX5_dead ad encI 34 [(0, .ref (ad 47)), (2, .int v2)] [.int x4, .int v1] m5 (kb x4 m5)) (fun x4 m5 => ?_) (fun kb3 hkb3 => ?_)
      · refine g_ior (pc := 34) dX5_dead_34 ?_
        refine g_istore_nB (pc := 35) (fun x6 => [(1, .int x6), (0, .ref (ad 47)), (2, .int v2)]) dX5_dead_35 rfl (by decide) (fun _ => rfl) (fun x6 => ?_)
        refine g_iincB (pc := 36) 2 1 1 (fun x7 => [(2, .int x7), (1, .int x6), (0, .ref (ad 47))]) dX5_dead_36 rfl (by decide) (by decide) (fun _ => rfl) (fun x7 => ?_)
        refine g_goto (pc := 39) 4 dX5_dead_39 rfl ?_
        exact g_sub [2, 1, 0] rfl (ih x6 x7 m5)
      ·
        refine g_if_ne (pc := 24) 33 dX5_dead_24 rfl ?_ ?_
        · refine g_iconst (pc := 33) 0 dX5_dead_33 (by decide) ?_
          exact g_sub [0, 2] rfl (hkb3 0 m1)
        · refine g_iconst (pc := 27) 1 dX5_dead_27 (by decide) ?_
          refine g_iload_n (pc := 28) 2 dX5_dead_28 rfl rfl ?_
          refine g_ishl' (pc := 29) dX5_dead_29 ?_
          refine g_goto (pc := 30) 34 dX5_dead_30 rfl ?_
          exact g_sub [0, 2] rfl (hkb3 (jshl 1 v2) m1)
set_option maxHeartbeats 4000000 in
set_option maxRecDepth 100000 in
theorem ctX5_dead (ad : Nat → Nat) (n : Nat) (μ : Mem) : Ct yX5_dead kX5_dead ad encI [.ref (ad 47)] μ (fX5_dead n μ) := Ct.of (by decide +kernel) rfl (Nat.le_of_ble_eq_true rfl) (by
  show G kX5_dead ad encI 0 [(0, .ref (ad 47))] [] μ (fX5_dead n μ)
  unfold fX5_dead
  refine g_iconst (pc := 0) 0 dX5_dead_0 (by decide) ?_
  refine g_istore_n (pc := 1) [(1, .int 0), (0, .ref (ad 47))] dX5_dead_1 rfl (by decide) rfl ?_
  refine g_iconst (pc := 2) 0 dX5_dead_2 (by decide) ?_
  refine g_istore_n (pc := 3) [(2, .int 0), (1, .int 0), (0, .ref (ad 47))] dX5_dead_3 rfl (by decide) rfl ?_
  exact g_sub [2, 1, 0] rfl (wX5_dead_L4 ad n n 0 0 μ))
-- StopsByLettersModel.parts(I)I
abbrev kX5_parts : Cfg := (RX5, cX5_parts, 4, (some .int), 7)
theorem dX5_parts_0 : decode cX5_parts 0 = .ok (.iload_n 1, 1) := by decide +kernel
theorem dX5_parts_1 : decode cX5_parts 1 = .ok (.iconst (-1), 1) := by decide +kernel
theorem dX5_parts_2 : decode cX5_parts 2 = .ok (.if_icmp .eq 17, 3) := by decide +kernel
theorem dX5_parts_5 : decode cX5_parts 5 = .ok (.aload_n 0, 1) := by decide +kernel
theorem dX5_parts_6 : decode cX5_parts 6 = .ok (.iload_n 1, 1) := by decide +kernel
theorem dX5_parts_7 : decode cX5_parts 7 = .ok (.invokevirtual 100, 3) := by decide +kernel
theorem dX5_parts_10 : decode cX5_parts 10 = .ok (.ifCond .ne 9, 3) := by decide +kernel
theorem dX5_parts_13 : decode cX5_parts 13 = .ok (.aload_n 0, 1) := by decide +kernel
theorem dX5_parts_14 : decode cX5_parts 14 = .ok (.iconst (-1), 1) := by decide +kernel
theorem dX5_parts_15 : decode cX5_parts 15 = .ok (.invokevirtual 67, 3) := by decide +kernel
theorem dX5_parts_18 : decode cX5_parts 18 = .ok (.ireturn, 1) := by decide +kernel
theorem dX5_parts_19 : decode cX5_parts 19 = .ok (.iload_n 1, 1) := by decide +kernel
theorem dX5_parts_20 : decode cX5_parts 20 = .ok (.ifCond .lt 15, 3) := by decide +kernel
theorem dX5_parts_23 : decode cX5_parts 23 = .ok (.aload_n 0, 1) := by decide +kernel
theorem dX5_parts_24 : decode cX5_parts 24 = .ok (.iload_n 1, 1) := by decide +kernel
theorem dX5_parts_25 : decode cX5_parts 25 = .ok (.invokevirtual 169, 3) := by decide +kernel
theorem dX5_parts_28 : decode cX5_parts 28 = .ok (.aload_n 0, 1) := by decide +kernel
theorem dX5_parts_29 : decode cX5_parts 29 = .ok (.iload_n 1, 1) := by decide +kernel
theorem dX5_parts_30 : decode cX5_parts 30 = .ok (.invokevirtual 172, 3) := by decide +kernel
theorem dX5_parts_33 : decode cX5_parts 33 = .ok (.iand, 1) := by decide +kernel
theorem dX5_parts_34 : decode cX5_parts 34 = .ok (.ireturn, 1) := by decide +kernel
theorem dX5_parts_35 : decode cX5_parts 35 = .ok (.iconst 0, 1) := by decide +kernel
theorem dX5_parts_36 : decode cX5_parts 36 = .ok (.istore_n 2, 1) := by decide +kernel
theorem dX5_parts_37 : decode cX5_parts 37 = .ok (.iconst 0, 1) := by decide +kernel
theorem dX5_parts_38 : decode cX5_parts 38 = .ok (.istore_n 3, 1) := by decide +kernel
theorem dX5_parts_39 : decode cX5_parts 39 = .ok (.iload_n 3, 1) := by decide +kernel
theorem dX5_parts_40 : decode cX5_parts 40 = .ok (.aload_n 0, 1) := by decide +kernel
theorem dX5_parts_41 : decode cX5_parts 41 = .ok (.getfield 56, 3) := by decide +kernel
theorem dX5_parts_44 : decode cX5_parts 44 = .ok (.if_icmp .ge 37, 3) := by decide +kernel
theorem dX5_parts_47 : decode cX5_parts 47 = .ok (.iload_n 2, 1) := by decide +kernel
theorem dX5_parts_48 : decode cX5_parts 48 = .ok (.aload_n 0, 1) := by decide +kernel
theorem dX5_parts_49 : decode cX5_parts 49 = .ok (.iload_n 3, 1) := by decide +kernel
theorem dX5_parts_50 : decode cX5_parts 50 = .ok (.invokevirtual 169, 3) := by decide +kernel
theorem dX5_parts_53 : decode cX5_parts 53 = .ok (.aload_n 0, 1) := by decide +kernel
theorem dX5_parts_54 : decode cX5_parts 54 = .ok (.iload_n 3, 1) := by decide +kernel
theorem dX5_parts_55 : decode cX5_parts 55 = .ok (.invokevirtual 172, 3) := by decide +kernel
theorem dX5_parts_58 : decode cX5_parts 58 = .ok (.iand, 1) := by decide +kernel
theorem dX5_parts_59 : decode cX5_parts 59 = .ok (.iconst 1, 1) := by decide +kernel
theorem dX5_parts_60 : decode cX5_parts 60 = .ok (.iload_n 3, 1) := by decide +kernel
theorem dX5_parts_61 : decode cX5_parts 61 = .ok (.ishl, 1) := by decide +kernel
theorem dX5_parts_62 : decode cX5_parts 62 = .ok (.iconst 1, 1) := by decide +kernel
theorem dX5_parts_63 : decode cX5_parts 63 = .ok (.isub, 1) := by decide +kernel
theorem dX5_parts_64 : decode cX5_parts 64 = .ok (.iand, 1) := by decide +kernel
theorem dX5_parts_65 : decode cX5_parts 65 = .ok (.ifCond .ne 7, 3) := by decide +kernel
theorem dX5_parts_68 : decode cX5_parts 68 = .ok (.iconst 1, 1) := by decide +kernel
theorem dX5_parts_69 : decode cX5_parts 69 = .ok (.goto 4, 3) := by decide +kernel
theorem dX5_parts_72 : decode cX5_parts 72 = .ok (.iconst 0, 1) := by decide +kernel
theorem dX5_parts_73 : decode cX5_parts 73 = .ok (.iadd, 1) := by decide +kernel
theorem dX5_parts_74 : decode cX5_parts 74 = .ok (.istore_n 2, 1) := by decide +kernel
theorem dX5_parts_75 : decode cX5_parts 75 = .ok (.iinc 3 1, 3) := by decide +kernel
theorem dX5_parts_78 : decode cX5_parts 78 = .ok (.goto (-39), 3) := by decide +kernel
theorem dX5_parts_81 : decode cX5_parts 81 = .ok (.iload_n 2, 1) := by decide +kernel
theorem dX5_parts_82 : decode cX5_parts 82 = .ok (.ireturn, 1) := by decide +kernel
def fX5_parts_L39 (n : Nat) : Nat → Int32 → Int32 → Mem → Option (Int32 × Mem)
  | 0, _, _, _ => none
  | F + 1, v2, v3, μ => if (μ.1 47 4) ≤ v3 then some (v2, μ) else bd (fX5_whitherOf n v3 μ) (fun r4 m3 => bd (fX5_whenceOf n v3 m3) (fun r6 m5 => bnd (fun (x8 : Int32) (m9 : Mem) => bnd (v2 + x8) (fun x10 => bnd (v3 + 1) (fun x11 => fX5_parts_L39 n F x10 x11 m9))) (fun kb7 => if ((r4 &&& r6) &&& ((jshl 1 v3) - 1)) = 0 then kb7 1 m5 else kb7 0 m5)))
def fX5_parts (n : Nat) (a1 : Int32) (μ : Mem) : Option (Int32 × Mem) :=
  bnd (fun (m2 : Mem) => if a1 < 0 then fX5_parts_L39 n n 0 0 m2 else bd (fX5_whitherOf n a1 m2) (fun r13 m12 => bd (fX5_whenceOf n a1 m12) (fun r15 m14 => some ((r13 &&& r15), m14)))) (fun kb1 => if a1 = (-1) then kb1 μ else bd (fX5_isStation n a1 μ) (fun r17 m16 => if r17 = 0 then bd (fX5_no n (-1) m16) (fun r19 m18 => some (r19, m18)) else kb1 m16))
set_option maxHeartbeats 4000000 in
set_option maxRecDepth 100000 in
theorem wX5_parts_L39 (ad : Nat → Nat) (n : Nat) : ∀ (F : Nat) (v2 : Int32) (v3 : Int32) (μ : Mem), G kX5_parts ad encI 39 [(0, .ref (ad 47)), (2, .int v2), (3, .int v3)] [] μ (fX5_parts_L39 n F v2 v3 μ) := by
  intro F
  induction F with
  | zero =>
    intro v2 v3 μ
    exact g_none
  | succ F ih =>
    intro v2 v3 μ
    rw [fX5_parts_L39]
    refine g_iload_n (pc := 39) 2 dX5_parts_39 rfl rfl ?_
    refine g_aload_n (pc := 40) 0 dX5_parts_40 rfl rfl ?_
    refine g_get (pc := 41) rfl foX5_56 (v := .int (μ.1 47 4)) rfl dX5_parts_41 ?_
    refine g_icmp_ge (pc := 44) 81 dX5_parts_44 rfl ?_ ?_
    · refine g_iload_n (pc := 81) 1 dX5_parts_81 rfl rfl ?_
      exact g_ireturn (pc := 82) dX5_parts_82 rfl
    · refine g_iload_n (pc := 47) 1 dX5_parts_47 rfl rfl ?_
      refine g_aload_n (pc := 48) 0 dX5_parts_48 rfl rfl ?_
      refine g_iload_n (pc := 49) 2 dX5_parts_49 rfl rfl ?_
      refine g_cVI (pc := 50) (st := [.int v2]) [.int v3] rfl rfl moX5_whitherOf lnX5_169 (ctX5_whitherOf ad n v3 μ) rfl ⟨Nat.le_of_ble_eq_true rfl, Nat.le_of_ble_eq_true rfl⟩ rfl (Nat.le_of_ble_eq_true rfl) dX5_parts_50 (fun r4 m3 => ?_)
      refine g_aload_n (pc := 53) 0 dX5_parts_53 rfl rfl ?_
      refine g_iload_n (pc := 54) 2 dX5_parts_54 rfl rfl ?_
      refine g_cVI (pc := 55) (st := [.int r4, .int v2]) [.int v3] rfl rfl moX5_whenceOf lnX5_172 (ctX5_whenceOf ad n v3 m3) rfl ⟨Nat.le_of_ble_eq_true rfl, Nat.le_of_ble_eq_true rfl⟩ rfl (Nat.le_of_ble_eq_true rfl) dX5_parts_55 (fun r6 m5 => ?_)
      refine g_iand (pc := 58) dX5_parts_58 ?_
      refine g_iconst (pc := 59) 1 dX5_parts_59 (by decide) ?_
      refine g_iload_n (pc := 60) 2 dX5_parts_60 rfl rfl ?_
      refine g_ishl' (pc := 61) dX5_parts_61 ?_
      refine g_iconst (pc := 62) 1 dX5_parts_62 (by decide) ?_
      refine g_isub (pc := 63) dX5_parts_63 ?_
      refine g_iand (pc := 64) dX5_parts_64 ?_
      refine g_join (fun kb => ∀ (x8 : Int32) (m9 : Mem), G kX5_parts ad encI 73 [(0, .ref (ad 47)), (3, .int v3)] [.int x8, .int v2] m9 (kb x8 m9)) (fun x8 m9 => ?_) (fun kb7 hkb7 => ?_)
      · refine g_iadd (pc := 73) dX5_parts_73 ?_
        refine g_istore_nB (pc := 74) (fun x10 => [(2, .int x10), (0, .ref (ad 47)), (3, .int v3)]) dX5_parts_74 rfl (by decide) (fun _ => rfl) (fun x10 => ?_)
        refine g_iincB (pc := 75) 2 1 1 (fun x11 => [(3, .int x11), (2, .int x10), (0, .ref (ad 47))]) dX5_parts_75 rfl (by decide) (by decide) (fun _ => rfl) (fun x11 => ?_)
        refine g_goto (pc := 78) 39 dX5_parts_78 rfl ?_
        exact g_sub [2, 1, 0] rfl (ih x10 x11 m9)
      ·
        refine g_if_ne (pc := 65) 72 dX5_parts_65 rfl ?_ ?_
        · refine g_iconst (pc := 72) 0 dX5_parts_72 (by decide) ?_
          exact g_sub [0, 2] rfl (hkb7 0 m5)
        · refine g_iconst (pc := 68) 1 dX5_parts_68 (by decide) ?_
          refine g_goto (pc := 69) 73 dX5_parts_69 rfl ?_
          exact g_sub [0, 2] rfl (hkb7 1 m5)
set_option maxHeartbeats 4000000 in
set_option maxRecDepth 100000 in
theorem ctX5_parts (ad : Nat → Nat) (n : Nat) (a1 : Int32) (μ : Mem) : Ct yX5_parts kX5_parts ad encI [.ref (ad 47), .int a1] μ (fX5_parts n a1 μ) := Ct.of (by decide +kernel) rfl (Nat.le_of_ble_eq_true rfl) (by
  show G kX5_parts ad encI 0 [(0, .ref (ad 47)), (1, .int a1)] [] μ (fX5_parts n a1 μ)
  unfold fX5_parts
  refine g_iload_n (pc := 0) 1 dX5_parts_0 rfl rfl ?_
  refine g_iconst (pc := 1) (-1) dX5_parts_1 (by decide) ?_
  refine g_join (fun kb => ∀ (m2 : Mem), G kX5_parts ad encI 19 [(0, .ref (ad 47)), (1, .int a1)] [] m2 (kb m2)) (fun m2 => ?_) (fun kb1 hkb1 => ?_)
  · refine g_iload_n (pc := 19) 1 dX5_parts_19 rfl rfl ?_
    refine g_if_lt (pc := 20) 35 dX5_parts_20 rfl ?_ ?_
    · refine g_iconst (pc := 35) 0 dX5_parts_35 (by decide) ?_
      refine g_istore_n (pc := 36) [(2, .int 0), (0, .ref (ad 47)), (1, .int a1)] dX5_parts_36 rfl (by decide) rfl ?_
      refine g_iconst (pc := 37) 0 dX5_parts_37 (by decide) ?_
      refine g_istore_n (pc := 38) [(3, .int 0), (2, .int 0), (0, .ref (ad 47)), (1, .int a1)] dX5_parts_38 rfl (by decide) rfl ?_
      exact g_sub [2, 1, 0] rfl (wX5_parts_L39 ad n n 0 0 m2)
    · refine g_aload_n (pc := 23) 0 dX5_parts_23 rfl rfl ?_
      refine g_iload_n (pc := 24) 1 dX5_parts_24 rfl rfl ?_
      refine g_cVI (pc := 25) (st := []) [.int a1] rfl rfl moX5_whitherOf lnX5_169 (ctX5_whitherOf ad n a1 m2) rfl ⟨Nat.le_of_ble_eq_true rfl, Nat.le_of_ble_eq_true rfl⟩ rfl (Nat.le_of_ble_eq_true rfl) dX5_parts_25 (fun r13 m12 => ?_)
      refine g_aload_n (pc := 28) 0 dX5_parts_28 rfl rfl ?_
      refine g_iload_n (pc := 29) 1 dX5_parts_29 rfl rfl ?_
      refine g_cVI (pc := 30) (st := [.int r13]) [.int a1] rfl rfl moX5_whenceOf lnX5_172 (ctX5_whenceOf ad n a1 m12) rfl ⟨Nat.le_of_ble_eq_true rfl, Nat.le_of_ble_eq_true rfl⟩ rfl (Nat.le_of_ble_eq_true rfl) dX5_parts_30 (fun r15 m14 => ?_)
      refine g_iand (pc := 33) dX5_parts_33 ?_
      exact g_ireturn (pc := 34) dX5_parts_34 rfl
  ·
    refine g_icmp_eq (pc := 2) 19 dX5_parts_2 rfl ?_ ?_
    · exact g_sub [0, 1] rfl (hkb1 μ)
    · refine g_aload_n (pc := 5) 0 dX5_parts_5 rfl rfl ?_
      refine g_iload_n (pc := 6) 1 dX5_parts_6 rfl rfl ?_
      refine g_cVI (pc := 7) (st := []) [.int a1] rfl rfl moX5_isStation lnX5_100 (ctX5_isStation ad n a1 μ) rfl ⟨Nat.le_of_ble_eq_true rfl, Nat.le_of_ble_eq_true rfl⟩ rfl (Nat.le_of_ble_eq_true rfl) dX5_parts_7 (fun r17 m16 => ?_)
      refine g_if_ne (pc := 10) 19 dX5_parts_10 rfl ?_ ?_
      · exact g_sub [0, 1] rfl (hkb1 m16)
      · refine g_aload_n (pc := 13) 0 dX5_parts_13 rfl rfl ?_
        refine g_iconst (pc := 14) (-1) dX5_parts_14 (by decide) ?_
        refine g_cVI (pc := 15) (st := []) [.int (-1)] rfl rfl moX5_no lnX5_67 (ctX5_no ad n (-1) m16) rfl ⟨Nat.le_of_ble_eq_true rfl, Nat.le_of_ble_eq_true rfl⟩ rfl (Nat.le_of_ble_eq_true rfl) dX5_parts_15 (fun r19 m18 => ?_)
        exact g_ireturn (pc := 18) dX5_parts_18 rfl)
-- StopsByLettersModel.neverNow()I
abbrev kX5_neverNow : Cfg := (RX5, cX5_neverNow, 3, (some .int), 6)
theorem dX5_neverNow_0 : decode cX5_neverNow 0 = .ok (.iconst 0, 1) := by decide +kernel
theorem dX5_neverNow_1 : decode cX5_neverNow 1 = .ok (.istore_n 1, 1) := by decide +kernel
theorem dX5_neverNow_2 : decode cX5_neverNow 2 = .ok (.iconst 0, 1) := by decide +kernel
theorem dX5_neverNow_3 : decode cX5_neverNow 3 = .ok (.istore_n 2, 1) := by decide +kernel
theorem dX5_neverNow_4 : decode cX5_neverNow 4 = .ok (.iload_n 2, 1) := by decide +kernel
theorem dX5_neverNow_5 : decode cX5_neverNow 5 = .ok (.aload_n 0, 1) := by decide +kernel
theorem dX5_neverNow_6 : decode cX5_neverNow 6 = .ok (.getfield 56, 3) := by decide +kernel
theorem dX5_neverNow_9 : decode cX5_neverNow 9 = .ok (.if_icmp .ge 25, 3) := by decide +kernel
theorem dX5_neverNow_12 : decode cX5_neverNow 12 = .ok (.iload_n 1, 1) := by decide +kernel
theorem dX5_neverNow_13 : decode cX5_neverNow 13 = .ok (.aload_n 0, 1) := by decide +kernel
theorem dX5_neverNow_14 : decode cX5_neverNow 14 = .ok (.getfield 56, 3) := by decide +kernel
theorem dX5_neverNow_17 : decode cX5_neverNow 17 = .ok (.aload_n 0, 1) := by decide +kernel
theorem dX5_neverNow_18 : decode cX5_neverNow 18 = .ok (.iload_n 2, 1) := by decide +kernel
theorem dX5_neverNow_19 : decode cX5_neverNow 19 = .ok (.invokevirtual 169, 3) := by decide +kernel
theorem dX5_neverNow_22 : decode cX5_neverNow 22 = .ok (.invokestatic 154, 3) := by decide +kernel
theorem dX5_neverNow_25 : decode cX5_neverNow 25 = .ok (.isub, 1) := by decide +kernel
theorem dX5_neverNow_26 : decode cX5_neverNow 26 = .ok (.iadd, 1) := by decide +kernel
theorem dX5_neverNow_27 : decode cX5_neverNow 27 = .ok (.istore_n 1, 1) := by decide +kernel
theorem dX5_neverNow_28 : decode cX5_neverNow 28 = .ok (.iinc 2 1, 3) := by decide +kernel
theorem dX5_neverNow_31 : decode cX5_neverNow 31 = .ok (.goto (-27), 3) := by decide +kernel
theorem dX5_neverNow_34 : decode cX5_neverNow 34 = .ok (.iload_n 1, 1) := by decide +kernel
theorem dX5_neverNow_35 : decode cX5_neverNow 35 = .ok (.ireturn, 1) := by decide +kernel
def fX5_neverNow_L4 (n : Nat) : Nat → Int32 → Int32 → Mem → Option (Int32 × Mem)
  | 0, _, _, _ => none
  | F + 1, v1, v2, μ => if (μ.1 47 4) ≤ v2 then some (v1, μ) else bd (fX5_whitherOf n v2 μ) (fun r2 m1 => bd (fX5_bits n r2 m1) (fun r4 m3 => bnd (v1 + ((μ.1 47 4) - r4)) (fun x5 => bnd (v2 + 1) (fun x6 => fX5_neverNow_L4 n F x5 x6 m3))))
def fX5_neverNow (n : Nat) (μ : Mem) : Option (Int32 × Mem) :=
  fX5_neverNow_L4 n n 0 0 μ
set_option maxHeartbeats 4000000 in
set_option maxRecDepth 100000 in
theorem wX5_neverNow_L4 (ad : Nat → Nat) (n : Nat) : ∀ (F : Nat) (v1 : Int32) (v2 : Int32) (μ : Mem), G kX5_neverNow ad encI 4 [(0, .ref (ad 47)), (1, .int v1), (2, .int v2)] [] μ (fX5_neverNow_L4 n F v1 v2 μ) := by
  intro F
  induction F with
  | zero =>
    intro v1 v2 μ
    exact g_none
  | succ F ih =>
    intro v1 v2 μ
    rw [fX5_neverNow_L4]
    refine g_iload_n (pc := 4) 2 dX5_neverNow_4 rfl rfl ?_
    refine g_aload_n (pc := 5) 0 dX5_neverNow_5 rfl rfl ?_
    refine g_get (pc := 6) rfl foX5_56 (v := .int (μ.1 47 4)) rfl dX5_neverNow_6 ?_
    refine g_icmp_ge (pc := 9) 34 dX5_neverNow_9 rfl ?_ ?_
    · refine g_iload_n (pc := 34) 1 dX5_neverNow_34 rfl rfl ?_
      exact g_ireturn (pc := 35) dX5_neverNow_35 rfl
    · refine g_iload_n (pc := 12) 1 dX5_neverNow_12 rfl rfl ?_
      refine g_aload_n (pc := 13) 0 dX5_neverNow_13 rfl rfl ?_
      refine g_get (pc := 14) rfl foX5_56 (v := .int (μ.1 47 4)) rfl dX5_neverNow_14 ?_
      refine g_aload_n (pc := 17) 0 dX5_neverNow_17 rfl rfl ?_
      refine g_iload_n (pc := 18) 2 dX5_neverNow_18 rfl rfl ?_
      refine g_cVI (pc := 19) (st := [.int (μ.1 47 4), .int v1]) [.int v2] rfl rfl moX5_whitherOf lnX5_169 (ctX5_whitherOf ad n v2 μ) rfl ⟨Nat.le_of_ble_eq_true rfl, Nat.le_of_ble_eq_true rfl⟩ rfl (Nat.le_of_ble_eq_true rfl) dX5_neverNow_19 (fun r2 m1 => ?_)
      refine g_cSI (pc := 22) (st := [.int (μ.1 47 4), .int v1]) [.int r2] moX5_bits lnX5_154 (ctX5_bits ad n r2 m1) rfl ⟨Nat.le_of_ble_eq_true rfl, Nat.le_of_ble_eq_true rfl⟩ rfl (Nat.le_of_ble_eq_true rfl) dX5_neverNow_22 (fun r4 m3 => ?_)
      refine g_isub (pc := 25) dX5_neverNow_25 ?_
      refine g_iadd (pc := 26) dX5_neverNow_26 ?_
      refine g_istore_nB (pc := 27) (fun x5 => [(1, .int x5), (0, .ref (ad 47)), (2, .int v2)]) dX5_neverNow_27 rfl (by decide) (fun _ => rfl) (fun x5 => ?_)
      refine g_iincB (pc := 28) 2 1 1 (fun x6 => [(2, .int x6), (1, .int x5), (0, .ref (ad 47))]) dX5_neverNow_28 rfl (by decide) (by decide) (fun _ => rfl) (fun x6 => ?_)
      refine g_goto (pc := 31) 4 dX5_neverNow_31 rfl ?_
      exact g_sub [2, 1, 0] rfl (ih x5 x6 m3)
set_option maxHeartbeats 4000000 in
set_option maxRecDepth 100000 in
theorem ctX5_neverNow (ad : Nat → Nat) (n : Nat) (μ : Mem) : Ct yX5_neverNow kX5_neverNow ad encI [.ref (ad 47)] μ (fX5_neverNow n μ) := Ct.of (by decide +kernel) rfl (Nat.le_of_ble_eq_true rfl) (by
  show G kX5_neverNow ad encI 0 [(0, .ref (ad 47))] [] μ (fX5_neverNow n μ)
  unfold fX5_neverNow
  refine g_iconst (pc := 0) 0 dX5_neverNow_0 (by decide) ?_
  refine g_istore_n (pc := 1) [(1, .int 0), (0, .ref (ad 47))] dX5_neverNow_1 rfl (by decide) rfl ?_
  refine g_iconst (pc := 2) 0 dX5_neverNow_2 (by decide) ?_
  refine g_istore_n (pc := 3) [(2, .int 0), (1, .int 0), (0, .ref (ad 47))] dX5_neverNow_3 rfl (by decide) rfl ?_
  exact g_sub [2, 1, 0] rfl (wX5_neverNow_L4 ad n n 0 0 μ))
