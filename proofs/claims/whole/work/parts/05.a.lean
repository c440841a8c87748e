-- StopsByLetters$Stations.vowelsOf(I)I
abbrev kX3_vowelsOf : Cfg := (RX3, cX3_vowelsOf, 4, (some .int), 0)
theorem dX3_vowelsOf_0 : decode cX3_vowelsOf 0 = .ok (.iconst 0, 1) := by decide +kernel
theorem dX3_vowelsOf_1 : decode cX3_vowelsOf 1 = .ok (.istore_n 2, 1) := by decide +kernel
theorem dX3_vowelsOf_2 : decode cX3_vowelsOf 2 = .ok (.iconst 0, 1) := by decide +kernel
theorem dX3_vowelsOf_3 : decode cX3_vowelsOf 3 = .ok (.istore_n 3, 1) := by decide +kernel
theorem dX3_vowelsOf_4 : decode cX3_vowelsOf 4 = .ok (.iload_n 3, 1) := by decide +kernel
theorem dX3_vowelsOf_5 : decode cX3_vowelsOf 5 = .ok (.aload_n 0, 1) := by decide +kernel
theorem dX3_vowelsOf_6 : decode cX3_vowelsOf 6 = .ok (.getfield 15, 3) := by decide +kernel
theorem dX3_vowelsOf_9 : decode cX3_vowelsOf 9 = .ok (.iload_n 1, 1) := by decide +kernel
theorem dX3_vowelsOf_10 : decode cX3_vowelsOf 10 = .ok (.iaload, 1) := by decide +kernel
theorem dX3_vowelsOf_11 : decode cX3_vowelsOf 11 = .ok (.if_icmp .ge 25, 3) := by decide +kernel
theorem dX3_vowelsOf_14 : decode cX3_vowelsOf 14 = .ok (.iload_n 2, 1) := by decide +kernel
theorem dX3_vowelsOf_15 : decode cX3_vowelsOf 15 = .ok (.ldc 72, 2) := by decide +kernel
theorem dX3_vowelsOf_17 : decode cX3_vowelsOf 17 = .ok (.aload_n 0, 1) := by decide +kernel
theorem dX3_vowelsOf_18 : decode cX3_vowelsOf 18 = .ok (.getfield 20, 3) := by decide +kernel
theorem dX3_vowelsOf_21 : decode cX3_vowelsOf 21 = .ok (.iload_n 1, 1) := by decide +kernel
theorem dX3_vowelsOf_22 : decode cX3_vowelsOf 22 = .ok (.aaload, 1) := by decide +kernel
theorem dX3_vowelsOf_23 : decode cX3_vowelsOf 23 = .ok (.iload_n 3, 1) := by decide +kernel
theorem dX3_vowelsOf_24 : decode cX3_vowelsOf 24 = .ok (.iaload, 1) := by decide +kernel
theorem dX3_vowelsOf_25 : decode cX3_vowelsOf 25 = .ok (.ishr, 1) := by decide +kernel
theorem dX3_vowelsOf_26 : decode cX3_vowelsOf 26 = .ok (.iconst 1, 1) := by decide +kernel
theorem dX3_vowelsOf_27 : decode cX3_vowelsOf 27 = .ok (.iand, 1) := by decide +kernel
theorem dX3_vowelsOf_28 : decode cX3_vowelsOf 28 = .ok (.iadd, 1) := by decide +kernel
theorem dX3_vowelsOf_29 : decode cX3_vowelsOf 29 = .ok (.istore_n 2, 1) := by decide +kernel
theorem dX3_vowelsOf_30 : decode cX3_vowelsOf 30 = .ok (.iinc 3 1, 3) := by decide +kernel
theorem dX3_vowelsOf_33 : decode cX3_vowelsOf 33 = .ok (.goto (-29), 3) := by decide +kernel
theorem dX3_vowelsOf_36 : decode cX3_vowelsOf 36 = .ok (.iload_n 2, 1) := by decide +kernel
theorem dX3_vowelsOf_37 : decode cX3_vowelsOf 37 = .ok (.ireturn, 1) := by decide +kernel
theorem foX3_15 : Fo 3 RX3 TX3 5 1 RX3 15 := ⟨rfl, by decide, rfl, uwX3, rfl, Or.inl (tb_in 119 (by decide +kernel) rfl)⟩
theorem cwX3_72 : Cond.constant RX3 72 (1065233 : Int32) ∈ TB := tb_in 392 (by decide +kernel) rfl
theorem foX3_20 : Fo 3 RX3 TX3 5 2 RX3 20 := ⟨rfl, by decide, rfl, uwX3, rfl, Or.inl (tb_in 121 (by decide +kernel) rfl)⟩
def fX3_vowelsOf_L4 (n : Nat) (k0 : Nat) (v1 : Int32) : Nat → Int32 → Int32 → Mem → Option (Int32 × Mem)
  | 0, _, _, _ => none
  | F + 1, v2, v3, μ => gd (inb v1 8) (if (μ.1 (k0 + 2) (Int32.toNatClampNeg v1)) ≤ v3 then some (v2, μ) else gd (inb v1 8) (gd (inb v3 10) (bnd (v2 + ((jshr 1065233 (μ.1 ((k0 + 3) + 1 + (Int32.toNatClampNeg v1)) (Int32.toNatClampNeg v3))) &&& 1)) (fun x2 => bnd (v3 + 1) (fun x3 => fX3_vowelsOf_L4 n k0 v1 F x2 x3 μ)))))
def fX3_vowelsOf (n : Nat) (k0 : Nat) (a1 : Int32) (μ : Mem) : Option (Int32 × Mem) :=
  fX3_vowelsOf_L4 n k0 a1 n 0 0 μ
set_option maxHeartbeats 4000000 in
set_option maxRecDepth 100000 in
theorem wX3_vowelsOf_L4 (ad : Nat → Nat) (n : Nat) (k0 : Nat) (h0 : St k0) (v1 : Int32) : ∀ (F : Nat) (v2 : Int32) (v3 : Int32) (μ : Mem), G kX3_vowelsOf ad encI 4 [(0, .ref (ad k0)), (1, .int v1), (2, .int v2), (3, .int v3)] [] μ (fX3_vowelsOf_L4 n k0 v1 F v2 v3 μ) := by
  intro F
  induction F with
  | zero =>
    intro v2 v3 μ
    exact g_none
  | succ F ih =>
    intro v2 v3 μ
    rw [fX3_vowelsOf_L4]
    refine g_iload_n (pc := 4) 3 dX3_vowelsOf_4 rfl rfl ?_
    refine g_aload_n (pc := 5) 0 dX3_vowelsOf_5 rfl rfl ?_
    refine g_get (pc := 6) (st_o h0) foX3_15 (v := .ref (ad (k0 + 2))) rfl dX3_vowelsOf_6 ?_
    refine g_iload_n (pc := 9) 1 dX3_vowelsOf_9 rfl rfl ?_
    refine g_iald (pc := 10) (st_2 h0) (by decide) dX3_vowelsOf_10 ?_
    refine g_icmp_ge (pc := 11) 36 dX3_vowelsOf_11 rfl ?_ ?_
    · refine g_iload_n (pc := 36) 2 dX3_vowelsOf_36 rfl rfl ?_
      exact g_ireturn (pc := 37) dX3_vowelsOf_37 rfl
    · refine g_iload_n (pc := 14) 2 dX3_vowelsOf_14 rfl rfl ?_
      refine g_ldc (pc := 15) dX3_vowelsOf_15 cwX3_72 ?_
      refine g_aload_n (pc := 17) 0 dX3_vowelsOf_17 rfl rfl ?_
      refine g_get (pc := 18) (st_o h0) foX3_20 (v := .ref (ad (k0 + 3))) rfl dX3_vowelsOf_18 ?_
      refine g_iload_n (pc := 21) 1 dX3_vowelsOf_21 rfl rfl ?_
      refine g_aald (pc := 22) (st_3 h0) dX3_vowelsOf_22 (fun hi1 => ?_)
      refine g_iload_n (pc := 23) 3 dX3_vowelsOf_23 rfl rfl ?_
      refine g_iald (pc := 24) (st_i h0 hi1) (by decide) dX3_vowelsOf_24 ?_
      refine g_ishr' (pc := 25) dX3_vowelsOf_25 ?_
      refine g_iconst (pc := 26) 1 dX3_vowelsOf_26 (by decide) ?_
      refine g_iand (pc := 27) dX3_vowelsOf_27 ?_
      refine g_iadd (pc := 28) dX3_vowelsOf_28 ?_
      refine g_istore_nB (pc := 29) (fun x2 => [(2, .int x2), (0, .ref (ad k0)), (1, .int v1), (3, .int v3)]) dX3_vowelsOf_29 rfl (by decide) (fun _ => rfl) (fun x2 => ?_)
      refine g_iincB (pc := 30) 3 1 1 (fun x3 => [(3, .int x3), (2, .int x2), (0, .ref (ad k0)), (1, .int v1)]) dX3_vowelsOf_30 rfl (by decide) (by decide) (fun _ => rfl) (fun x3 => ?_)
      refine g_goto (pc := 33) 4 dX3_vowelsOf_33 rfl ?_
      exact g_sub [2, 3, 1, 0] rfl (ih x2 x3 μ)
set_option maxHeartbeats 4000000 in
set_option maxRecDepth 100000 in
theorem ctX3_vowelsOf (ad : Nat → Nat) (n : Nat) (k0 : Nat) (h0 : St k0) (a1 : Int32) (μ : Mem) : Ct yX3_vowelsOf kX3_vowelsOf ad encI [.ref (ad k0), .int a1] μ (fX3_vowelsOf n k0 a1 μ) := Ct.of (by decide +kernel) rfl (Nat.le_of_ble_eq_true rfl) (by
  show G kX3_vowelsOf ad encI 0 [(0, .ref (ad k0)), (1, .int a1)] [] μ (fX3_vowelsOf n k0 a1 μ)
  unfold fX3_vowelsOf
  refine g_iconst (pc := 0) 0 dX3_vowelsOf_0 (by decide) ?_
  refine g_istore_n (pc := 1) [(2, .int 0), (0, .ref (ad k0)), (1, .int a1)] dX3_vowelsOf_1 rfl (by decide) rfl ?_
  refine g_iconst (pc := 2) 0 dX3_vowelsOf_2 (by decide) ?_
  refine g_istore_n (pc := 3) [(3, .int 0), (2, .int 0), (0, .ref (ad k0)), (1, .int a1)] dX3_vowelsOf_3 rfl (by decide) rfl ?_
  exact g_sub [2, 3, 1, 0] rfl (wX3_vowelsOf_L4 ad n k0 h0 a1 n 0 0 μ))
-- StopsByLetters$Stations.lastLetterOf(I)I
abbrev kX3_lastLetterOf : Cfg := (RX3, cX3_lastLetterOf, 3, (some .int), 0)
theorem dX3_lastLetterOf_0 : decode cX3_lastLetterOf 0 = .ok (.aload_n 0, 1) := by decide +kernel
theorem dX3_lastLetterOf_1 : decode cX3_lastLetterOf 1 = .ok (.getfield 15, 3) := by decide +kernel
theorem dX3_lastLetterOf_4 : decode cX3_lastLetterOf 4 = .ok (.iload_n 1, 1) := by decide +kernel
theorem dX3_lastLetterOf_5 : decode cX3_lastLetterOf 5 = .ok (.iaload, 1) := by decide +kernel
theorem dX3_lastLetterOf_6 : decode cX3_lastLetterOf 6 = .ok (.istore_n 2, 1) := by decide +kernel
theorem dX3_lastLetterOf_7 : decode cX3_lastLetterOf 7 = .ok (.iload_n 2, 1) := by decide +kernel
theorem dX3_lastLetterOf_8 : decode cX3_lastLetterOf 8 = .ok (.ifCond .le 16, 3) := by decide +kernel
theorem dX3_lastLetterOf_11 : decode cX3_lastLetterOf 11 = .ok (.aload_n 0, 1) := by decide +kernel
theorem dX3_lastLetterOf_12 : decode cX3_lastLetterOf 12 = .ok (.getfield 20, 3) := by decide +kernel
theorem dX3_lastLetterOf_15 : decode cX3_lastLetterOf 15 = .ok (.iload_n 1, 1) := by decide +kernel
theorem dX3_lastLetterOf_16 : decode cX3_lastLetterOf 16 = .ok (.aaload, 1) := by decide +kernel
theorem dX3_lastLetterOf_17 : decode cX3_lastLetterOf 17 = .ok (.iload_n 2, 1) := by decide +kernel
theorem dX3_lastLetterOf_18 : decode cX3_lastLetterOf 18 = .ok (.iconst 1, 1) := by decide +kernel
theorem dX3_lastLetterOf_19 : decode cX3_lastLetterOf 19 = .ok (.isub, 1) := by decide +kernel
theorem dX3_lastLetterOf_20 : decode cX3_lastLetterOf 20 = .ok (.iaload, 1) := by decide +kernel
theorem dX3_lastLetterOf_21 : decode cX3_lastLetterOf 21 = .ok (.goto 4, 3) := by decide +kernel
theorem dX3_lastLetterOf_24 : decode cX3_lastLetterOf 24 = .ok (.iconst 0, 1) := by decide +kernel
theorem dX3_lastLetterOf_25 : decode cX3_lastLetterOf 25 = .ok (.ireturn, 1) := by decide +kernel
def fX3_lastLetterOf (n : Nat) (k0 : Nat) (a1 : Int32) (μ : Mem) : Option (Int32 × Mem) :=
  gd (inb a1 8) (bnd (μ.1 (k0 + 2) (Int32.toNatClampNeg a1)) (fun x1 => if x1 ≤ 0 then some (0, μ) else gd (inb a1 8) (gd (inb (x1 - 1) 10) (some ((μ.1 ((k0 + 3) + 1 + (Int32.toNatClampNeg a1)) (Int32.toNatClampNeg (x1 - 1))), μ)))))
set_option maxHeartbeats 4000000 in
set_option maxRecDepth 100000 in
theorem ctX3_lastLetterOf (ad : Nat → Nat) (n : Nat) (k0 : Nat) (h0 : St k0) (a1 : Int32) (μ : Mem) : Ct yX3_lastLetterOf kX3_lastLetterOf ad encI [.ref (ad k0), .int a1] μ (fX3_lastLetterOf n k0 a1 μ) := Ct.of (by decide +kernel) rfl (Nat.le_of_ble_eq_true rfl) (by
  show G kX3_lastLetterOf ad encI 0 [(0, .ref (ad k0)), (1, .int a1)] [] μ (fX3_lastLetterOf n k0 a1 μ)
  unfold fX3_lastLetterOf
  refine g_aload_n (pc := 0) 0 dX3_lastLetterOf_0 rfl rfl ?_
  refine g_get (pc := 1) (st_o h0) foX3_15 (v := .ref (ad (k0 + 2))) rfl dX3_lastLetterOf_1 ?_
  refine g_iload_n (pc := 4) 1 dX3_lastLetterOf_4 rfl rfl ?_
  refine g_iald (pc := 5) (st_2 h0) (by decide) dX3_lastLetterOf_5 ?_
  refine g_istore_nB (pc := 6) (fun x1 => [(2, .int x1), (0, .ref (ad k0)), (1, .int a1)]) dX3_lastLetterOf_6 rfl (by decide) (fun _ => rfl) (fun x1 => ?_)
  refine g_iload_n (pc := 7) 0 dX3_lastLetterOf_7 rfl rfl ?_
  refine g_if_le (pc := 8) 24 dX3_lastLetterOf_8 rfl ?_ ?_
  · refine g_iconst (pc := 24) 0 dX3_lastLetterOf_24 (by decide) ?_
    exact g_ireturn (pc := 25) dX3_lastLetterOf_25 rfl
  · refine g_aload_n (pc := 11) 1 dX3_lastLetterOf_11 rfl rfl ?_
    refine g_get (pc := 12) (st_o h0) foX3_20 (v := .ref (ad (k0 + 3))) rfl dX3_lastLetterOf_12 ?_
    refine g_iload_n (pc := 15) 2 dX3_lastLetterOf_15 rfl rfl ?_
    refine g_aald (pc := 16) (st_3 h0) dX3_lastLetterOf_16 (fun hi2 => ?_)
    refine g_iload_n (pc := 17) 0 dX3_lastLetterOf_17 rfl rfl ?_
    refine g_iconst (pc := 18) 1 dX3_lastLetterOf_18 (by decide) ?_
    refine g_isub (pc := 19) dX3_lastLetterOf_19 ?_
    refine g_iald (pc := 20) (st_i h0 hi2) (by decide) dX3_lastLetterOf_20 ?_
    refine g_goto (pc := 21) 25 dX3_lastLetterOf_21 rfl ?_
    exact g_ireturn (pc := 25) dX3_lastLetterOf_25 rfl)
-- StopsByLetters$Stations.stopsFrom(I)I
abbrev kX3_stopsFrom : Cfg := (RX3, cX3_stopsFrom, 2, (some .int), 1)
theorem dX3_stopsFrom_0 : decode cX3_stopsFrom 0 = .ok (.aload_n 0, 1) := by decide +kernel
theorem dX3_stopsFrom_1 : decode cX3_stopsFrom 1 = .ok (.getfield 9, 3) := by decide +kernel
theorem dX3_stopsFrom_4 : decode cX3_stopsFrom 4 = .ok (.iload_n 1, 1) := by decide +kernel
theorem dX3_stopsFrom_5 : decode cX3_stopsFrom 5 = .ok (.iaload, 1) := by decide +kernel
theorem dX3_stopsFrom_6 : decode cX3_stopsFrom 6 = .ok (.tableswitch 74 2 5 #[30, 36, 30, 66], 30) := by decide +kernel
theorem dX3_stopsFrom_36 : decode cX3_stopsFrom 36 = .ok (.aload_n 0, 1) := by decide +kernel
theorem dX3_stopsFrom_37 : decode cX3_stopsFrom 37 = .ok (.iload_n 1, 1) := by decide +kernel
theorem dX3_stopsFrom_38 : decode cX3_stopsFrom 38 = .ok (.invokevirtual 66, 3) := by decide +kernel
theorem dX3_stopsFrom_41 : decode cX3_stopsFrom 41 = .ok (.ireturn, 1) := by decide +kernel
theorem dX3_stopsFrom_42 : decode cX3_stopsFrom 42 = .ok (.aload_n 0, 1) := by decide +kernel
theorem dX3_stopsFrom_43 : decode cX3_stopsFrom 43 = .ok (.getfield 15, 3) := by decide +kernel
theorem dX3_stopsFrom_46 : decode cX3_stopsFrom 46 = .ok (.iload_n 1, 1) := by decide +kernel
theorem dX3_stopsFrom_47 : decode cX3_stopsFrom 47 = .ok (.iaload, 1) := by decide +kernel
theorem dX3_stopsFrom_48 : decode cX3_stopsFrom 48 = .ok (.aload_n 0, 1) := by decide +kernel
theorem dX3_stopsFrom_49 : decode cX3_stopsFrom 49 = .ok (.getfield 15, 3) := by decide +kernel
theorem dX3_stopsFrom_52 : decode cX3_stopsFrom 52 = .ok (.iload_n 1, 1) := by decide +kernel
theorem dX3_stopsFrom_53 : decode cX3_stopsFrom 53 = .ok (.iconst 1, 1) := by decide +kernel
theorem dX3_stopsFrom_54 : decode cX3_stopsFrom 54 = .ok (.iadd, 1) := by decide +kernel
theorem dX3_stopsFrom_55 : decode cX3_stopsFrom 55 = .ok (.aload_n 0, 1) := by decide +kernel
theorem dX3_stopsFrom_56 : decode cX3_stopsFrom 56 = .ok (.getfield 23, 3) := by decide +kernel
theorem dX3_stopsFrom_59 : decode cX3_stopsFrom 59 = .ok (.if_icmp .ge 9, 3) := by decide +kernel
theorem dX3_stopsFrom_62 : decode cX3_stopsFrom 62 = .ok (.iload_n 1, 1) := by decide +kernel
theorem dX3_stopsFrom_63 : decode cX3_stopsFrom 63 = .ok (.iconst 1, 1) := by decide +kernel
theorem dX3_stopsFrom_64 : decode cX3_stopsFrom 64 = .ok (.iadd, 1) := by decide +kernel
theorem dX3_stopsFrom_65 : decode cX3_stopsFrom 65 = .ok (.goto 4, 3) := by decide +kernel
theorem dX3_stopsFrom_68 : decode cX3_stopsFrom 68 = .ok (.iconst 0, 1) := by decide +kernel
theorem dX3_stopsFrom_69 : decode cX3_stopsFrom 69 = .ok (.iaload, 1) := by decide +kernel
theorem dX3_stopsFrom_70 : decode cX3_stopsFrom 70 = .ok (.iadd, 1) := by decide +kernel
theorem dX3_stopsFrom_71 : decode cX3_stopsFrom 71 = .ok (.ireturn, 1) := by decide +kernel
theorem dX3_stopsFrom_72 : decode cX3_stopsFrom 72 = .ok (.aload_n 0, 1) := by decide +kernel
theorem dX3_stopsFrom_73 : decode cX3_stopsFrom 73 = .ok (.iload_n 1, 1) := by decide +kernel
theorem dX3_stopsFrom_74 : decode cX3_stopsFrom 74 = .ok (.invokevirtual 69, 3) := by decide +kernel
theorem dX3_stopsFrom_77 : decode cX3_stopsFrom 77 = .ok (.iconst 1, 1) := by decide +kernel
theorem dX3_stopsFrom_78 : decode cX3_stopsFrom 78 = .ok (.iadd, 1) := by decide +kernel
theorem dX3_stopsFrom_79 : decode cX3_stopsFrom 79 = .ok (.ireturn, 1) := by decide +kernel
theorem dX3_stopsFrom_80 : decode cX3_stopsFrom 80 = .ok (.aload_n 0, 1) := by decide +kernel
theorem dX3_stopsFrom_81 : decode cX3_stopsFrom 81 = .ok (.getfield 15, 3) := by decide +kernel
theorem dX3_stopsFrom_84 : decode cX3_stopsFrom 84 = .ok (.iload_n 1, 1) := by decide +kernel
theorem dX3_stopsFrom_85 : decode cX3_stopsFrom 85 = .ok (.iaload, 1) := by decide +kernel
theorem dX3_stopsFrom_86 : decode cX3_stopsFrom 86 = .ok (.ireturn, 1) := by decide +kernel
theorem foX3_9 : Fo 3 RX3 TX3 5 0 RX3 9 := ⟨rfl, by decide, rfl, uwX3, rfl, Or.inl (tb_in 117 (by decide +kernel) rfl)⟩
theorem lnX3_66 : Ln RX3 66 yX3_vowelsOf := Or.inl (tb_in 388 (by decide +kernel) rfl)
theorem moX3_vowelsOf : Mv yX3_vowelsOf kX3_vowelsOf 1 := ⟨⟨tb_in 391 (by decide +kernel) rfl, tb_in 88 (by decide +kernel) rfl, ⟨by decide, by decide⟩, by decide +kernel⟩, tb_in 390 (by decide +kernel) rfl, tb_in 13 (by decide +kernel) rfl⟩
theorem foX3_23 : Fo 3 RX3 TX3 5 3 RX3 23 := ⟨rfl, by decide, rfl, uwX3, rfl, Or.inl (tb_in 124 (by decide +kernel) rfl)⟩
theorem lnX3_69 : Ln RX3 69 yX3_lastLetterOf := Or.inl (tb_in 393 (by decide +kernel) rfl)
theorem moX3_lastLetterOf : Mv yX3_lastLetterOf kX3_lastLetterOf 1 := ⟨⟨tb_in 396 (by decide +kernel) rfl, tb_in 88 (by decide +kernel) rfl, ⟨by decide, by decide⟩, by decide +kernel⟩, tb_in 395 (by decide +kernel) rfl, tb_in 14 (by decide +kernel) rfl⟩
def fX3_stopsFrom (n : Nat) (k0 : Nat) (a1 : Int32) (μ : Mem) : Option (Int32 × Mem) :=
  gd (inb a1 8) (bnd (μ.1 (k0 + 1) (Int32.toNatClampNeg a1)) (fun sx1 => if sx1 = 2 then bd (fX3_vowelsOf n k0 a1 μ) (fun r3 m2 => some (r3, m2)) else if sx1 = 3 then gd (inb a1 8) (if (μ.1 k0 3) ≤ (a1 + 1) then gd (inb 0 8) (some (((μ.1 (k0 + 2) (Int32.toNatClampNeg a1)) + (μ.1 (k0 + 2) (Int32.toNatClampNeg 0))), μ)) else gd (inb (a1 + 1) 8) (some (((μ.1 (k0 + 2) (Int32.toNatClampNeg a1)) + (μ.1 (k0 + 2) (Int32.toNatClampNeg (a1 + 1)))), μ))) else if sx1 = 4 then bd (fX3_vowelsOf n k0 a1 μ) (fun r7 m6 => some (r7, m6)) else if sx1 = 5 then bd (fX3_lastLetterOf n k0 a1 μ) (fun r10 m9 => some ((r10 + 1), m9)) else gd (inb a1 8) (some ((μ.1 (k0 + 2) (Int32.toNatClampNeg a1)), μ))))
set_option maxHeartbeats 4000000 in
set_option maxRecDepth 100000 in
theorem ctX3_stopsFrom (ad : Nat → Nat) (n : Nat) (k0 : Nat) (h0 : St k0) (a1 : Int32) (μ : Mem) : Ct yX3_stopsFrom kX3_stopsFrom ad encI [.ref (ad k0), .int a1] μ (fX3_stopsFrom n k0 a1 μ) := Ct.of (by decide +kernel) rfl (Nat.le_of_ble_eq_true rfl) (by
  show G kX3_stopsFrom ad encI 0 [(0, .ref (ad k0)), (1, .int a1)] [] μ (fX3_stopsFrom n k0 a1 μ)
  unfold fX3_stopsFrom
  refine g_aload_n (pc := 0) 0 dX3_stopsFrom_0 rfl rfl ?_
  refine g_get (pc := 1) (st_o h0) foX3_9 (v := .ref (ad (k0 + 1))) rfl dX3_stopsFrom_1 ?_
  refine g_iload_n (pc := 4) 1 dX3_stopsFrom_4 rfl rfl ?_
  refine g_iald (pc := 5) (st_1 h0) (by decide) dX3_stopsFrom_5 ?_
  refine g_swx (fun sx1 => ?_)
  refine g_ite (fun hq => ?_) (fun hs4 => ?_)
  · subst hq
    refine g_tabIn (pc := 6) 36 30 dX3_stopsFrom_6 (by decide) ?_
    refine g_aload_n (pc := 36) 0 dX3_stopsFrom_36 rfl rfl ?_
    refine g_iload_n (pc := 37) 1 dX3_stopsFrom_37 rfl rfl ?_
    refine g_cVI (pc := 38) (st := []) [.int a1] (st_o h0) rfl moX3_vowelsOf lnX3_66 (ctX3_vowelsOf ad n k0 h0 a1 μ) rfl ⟨Nat.le_of_ble_eq_true rfl, Nat.le_of_ble_eq_true rfl⟩ rfl (Nat.le_of_ble_eq_true rfl) dX3_stopsFrom_38 (fun r3 m2 => ?_)
    exact g_ireturn (pc := 41) dX3_stopsFrom_41 rfl
  ·
    refine g_ite (fun hq => ?_) (fun hs5 => ?_)
    · subst hq
      refine g_tabIn (pc := 6) 42 36 dX3_stopsFrom_6 (by decide) ?_
      refine g_aload_n (pc := 42) 0 dX3_stopsFrom_42 rfl rfl ?_
      refine g_get (pc := 43) (st_o h0) foX3_15 (v := .ref (ad (k0 + 2))) rfl dX3_stopsFrom_43 ?_
      refine g_iload_n (pc := 46) 1 dX3_stopsFrom_46 rfl rfl ?_
      refine g_iald (pc := 47) (st_2 h0) (by decide) dX3_stopsFrom_47 ?_
      refine g_aload_n (pc := 48) 0 dX3_stopsFrom_48 rfl rfl ?_
      refine g_get (pc := 49) (st_o h0) foX3_15 (v := .ref (ad (k0 + 2))) rfl dX3_stopsFrom_49 ?_
      refine g_iload_n (pc := 52) 1 dX3_stopsFrom_52 rfl rfl ?_
      refine g_iconst (pc := 53) 1 dX3_stopsFrom_53 (by decide) ?_
      refine g_iadd (pc := 54) dX3_stopsFrom_54 ?_
      refine g_aload_n (pc := 55) 0 dX3_stopsFrom_55 rfl rfl ?_
      refine g_get (pc := 56) (st_o h0) foX3_23 (v := .int (μ.1 k0 3)) rfl dX3_stopsFrom_56 ?_
      refine g_icmp_ge (pc := 59) 68 dX3_stopsFrom_59 rfl ?_ ?_
      · refine g_iconst (pc := 68) 0 dX3_stopsFrom_68 (by decide) ?_
        refine g_iald (pc := 69) (st_2 h0) (by decide) dX3_stopsFrom_69 ?_
        refine g_iadd (pc := 70) dX3_stopsFrom_70 ?_
        exact g_ireturn (pc := 71) dX3_stopsFrom_71 rfl
      · refine g_iload_n (pc := 62) 1 dX3_stopsFrom_62 rfl rfl ?_
        refine g_iconst (pc := 63) 1 dX3_stopsFrom_63 (by decide) ?_
        refine g_iadd (pc := 64) dX3_stopsFrom_64 ?_
        refine g_goto (pc := 65) 69 dX3_stopsFrom_65 rfl ?_
        refine g_iald (pc := 69) (st_2 h0) (by decide) dX3_stopsFrom_69 ?_
        refine g_iadd (pc := 70) dX3_stopsFrom_70 ?_
        exact g_ireturn (pc := 71) dX3_stopsFrom_71 rfl
    ·
      refine g_ite (fun hq => ?_) (fun hs8 => ?_)
      · subst hq
        refine g_tabIn (pc := 6) 36 30 dX3_stopsFrom_6 (by decide) ?_
        refine g_aload_n (pc := 36) 0 dX3_stopsFrom_36 rfl rfl ?_
        refine g_iload_n (pc := 37) 1 dX3_stopsFrom_37 rfl rfl ?_
        refine g_cVI (pc := 38) (st := []) [.int a1] (st_o h0) rfl moX3_vowelsOf lnX3_66 (ctX3_vowelsOf ad n k0 h0 a1 μ) rfl ⟨Nat.le_of_ble_eq_true rfl, Nat.le_of_ble_eq_true rfl⟩ rfl (Nat.le_of_ble_eq_true rfl) dX3_stopsFrom_38 (fun r7 m6 => ?_)
        exact g_ireturn (pc := 41) dX3_stopsFrom_41 rfl
      ·
        refine g_ite (fun hq => ?_) (fun hs11 => ?_)
        · subst hq
          refine g_tabIn (pc := 6) 72 66 dX3_stopsFrom_6 (by decide) ?_
          refine g_aload_n (pc := 72) 0 dX3_stopsFrom_72 rfl rfl ?_
          refine g_iload_n (pc := 73) 1 dX3_stopsFrom_73 rfl rfl ?_
          refine g_cVI (pc := 74) (st := []) [.int a1] (st_o h0) rfl moX3_lastLetterOf lnX3_69 (ctX3_lastLetterOf ad n k0 h0 a1 μ) rfl ⟨Nat.le_of_ble_eq_true rfl, Nat.le_of_ble_eq_true rfl⟩ rfl (Nat.le_of_ble_eq_true rfl) dX3_stopsFrom_74 (fun r10 m9 => ?_)
          refine g_iconst (pc := 77) 1 dX3_stopsFrom_77 (by decide) ?_
          refine g_iadd (pc := 78) dX3_stopsFrom_78 ?_
          exact g_ireturn (pc := 79) dX3_stopsFrom_79 rfl
        ·
          refine g_tabD (pc := 6) 80 dX3_stopsFrom_6 [2, 3, 4, 5] (by decide) ⟨hs4, hs5, hs8, hs11, trivial⟩ rfl ?_
          refine g_aload_n (pc := 80) 0 dX3_stopsFrom_80 rfl rfl ?_
          refine g_get (pc := 81) (st_o h0) foX3_15 (v := .ref (ad (k0 + 2))) rfl dX3_stopsFrom_81 ?_
          refine g_iload_n (pc := 84) 1 dX3_stopsFrom_84 rfl rfl ?_
          refine g_iald (pc := 85) (st_2 h0) (by decide) dX3_stopsFrom_85 ?_
          exact g_ireturn (pc := 86) dX3_stopsFrom_86 rfl)
-- java/lang/Math.floorMod(II)I
abbrev kJ9_floorMod_7cf53 : Cfg := (RJ9, cJ9_floorMod_7cf53, 3, (some .int), 0)
theorem dJ9_floorMod_7cf53_0 : decode cJ9_floorMod_7cf53 0 = .ok (.iload_n 0, 1) := by decide +kernel
theorem dJ9_floorMod_7cf53_1 : decode cJ9_floorMod_7cf53 1 = .ok (.iload_n 1, 1) := by decide +kernel
theorem dJ9_floorMod_7cf53_2 : decode cJ9_floorMod_7cf53 2 = .ok (.irem, 1) := by decide +kernel
theorem dJ9_floorMod_7cf53_3 : decode cJ9_floorMod_7cf53 3 = .ok (.istore_n 2, 1) := by decide +kernel
theorem dJ9_floorMod_7cf53_4 : decode cJ9_floorMod_7cf53 4 = .ok (.iload_n 0, 1) := by decide +kernel
theorem dJ9_floorMod_7cf53_5 : decode cJ9_floorMod_7cf53 5 = .ok (.iload_n 1, 1) := by decide +kernel
theorem dJ9_floorMod_7cf53_6 : decode cJ9_floorMod_7cf53 6 = .ok (.ixor, 1) := by decide +kernel
theorem dJ9_floorMod_7cf53_7 : decode cJ9_floorMod_7cf53 7 = .ok (.ifCond .ge 11, 3) := by decide +kernel
theorem dJ9_floorMod_7cf53_10 : decode cJ9_floorMod_7cf53 10 = .ok (.iload_n 2, 1) := by decide +kernel
theorem dJ9_floorMod_7cf53_11 : decode cJ9_floorMod_7cf53 11 = .ok (.ifCond .eq 7, 3) := by decide +kernel
theorem dJ9_floorMod_7cf53_14 : decode cJ9_floorMod_7cf53 14 = .ok (.iload_n 2, 1) := by decide +kernel
theorem dJ9_floorMod_7cf53_15 : decode cJ9_floorMod_7cf53 15 = .ok (.iload_n 1, 1) := by decide +kernel
theorem dJ9_floorMod_7cf53_16 : decode cJ9_floorMod_7cf53 16 = .ok (.iadd, 1) := by decide +kernel
theorem dJ9_floorMod_7cf53_17 : decode cJ9_floorMod_7cf53 17 = .ok (.ireturn, 1) := by decide +kernel
theorem dJ9_floorMod_7cf53_18 : decode cJ9_floorMod_7cf53 18 = .ok (.iload_n 2, 1) := by decide +kernel
theorem dJ9_floorMod_7cf53_19 : decode cJ9_floorMod_7cf53 19 = .ok (.ireturn, 1) := by decide +kernel
def fJ9_floorMod_7cf53 (n : Nat) (a0 : Int32) (a1 : Int32) (μ : Mem) : Option (Int32 × Mem) :=
  gd (nz a1) (bnd (jrem a0 a1) (fun x1 => if 0 ≤ (a0 ^^^ a1) then some (x1, μ) else if x1 = 0 then some (x1, μ) else some ((x1 + a1), μ)))
set_option maxHeartbeats 4000000 in
set_option maxRecDepth 100000 in
theorem ctJ9_floorMod_7cf53 (ad : Nat → Nat) (n : Nat) (a0 : Int32) (a1 : Int32) (μ : Mem) : Ct yJ9_floorMod_7cf53 kJ9_floorMod_7cf53 ad encI [.int a0, .int a1] μ (fJ9_floorMod_7cf53 n a0 a1 μ) := Ct.of (by decide +kernel) rfl (Nat.le_of_ble_eq_true rfl) (by
  show G kJ9_floorMod_7cf53 ad encI 0 [(0, .int a0), (1, .int a1)] [] μ (fJ9_floorMod_7cf53 n a0 a1 μ)
  unfold fJ9_floorMod_7cf53
  refine g_iload_n (pc := 0) 0 dJ9_floorMod_7cf53_0 rfl rfl ?_
  refine g_iload_n (pc := 1) 1 dJ9_floorMod_7cf53_1 rfl rfl ?_
  refine g_iremG (pc := 2) dJ9_floorMod_7cf53_2 ?_
  refine g_istore_nB (pc := 3) (fun x1 => [(2, .int x1), (0, .int a0), (1, .int a1)]) dJ9_floorMod_7cf53_3 rfl (by decide) (fun _ => rfl) (fun x1 => ?_)
  refine g_iload_n (pc := 4) 1 dJ9_floorMod_7cf53_4 rfl rfl ?_
  refine g_iload_n (pc := 5) 2 dJ9_floorMod_7cf53_5 rfl rfl ?_
  refine g_ixor (pc := 6) dJ9_floorMod_7cf53_6 ?_
  refine g_if_ge (pc := 7) 18 dJ9_floorMod_7cf53_7 rfl ?_ ?_
  · refine g_iload_n (pc := 18) 0 dJ9_floorMod_7cf53_18 rfl rfl ?_
    exact g_ireturn (pc := 19) dJ9_floorMod_7cf53_19 rfl
  · refine g_iload_n (pc := 10) 0 dJ9_floorMod_7cf53_10 rfl rfl ?_
    refine g_if_eq (pc := 11) 18 dJ9_floorMod_7cf53_11 rfl ?_ ?_
    · refine g_iload_n (pc := 18) 0 dJ9_floorMod_7cf53_18 rfl rfl ?_
      exact g_ireturn (pc := 19) dJ9_floorMod_7cf53_19 rfl
    · refine g_iload_n (pc := 14) 0 dJ9_floorMod_7cf53_14 rfl rfl ?_
      refine g_iload_n (pc := 15) 2 dJ9_floorMod_7cf53_15 rfl rfl ?_
      refine g_iadd (pc := 16) dJ9_floorMod_7cf53_16 ?_
      exact g_ireturn (pc := 17) dJ9_floorMod_7cf53_17 rfl)
-- StopsByLetters$Stations.has(I)Z
abbrev kX3_has : Cfg := (RX3, cX3_has, 2, (some .boolean), 0)
theorem dX3_has_0 : decode cX3_has 0 = .ok (.iload_n 1, 1) := by decide +kernel
theorem dX3_has_1 : decode cX3_has 1 = .ok (.ifCond .lt 15, 3) := by decide +kernel
theorem dX3_has_4 : decode cX3_has 4 = .ok (.iload_n 1, 1) := by decide +kernel
theorem dX3_has_5 : decode cX3_has 5 = .ok (.aload_n 0, 1) := by decide +kernel
theorem dX3_has_6 : decode cX3_has 6 = .ok (.getfield 23, 3) := by decide +kernel
theorem dX3_has_9 : decode cX3_has 9 = .ok (.if_icmp .ge 7, 3) := by decide +kernel
theorem dX3_has_12 : decode cX3_has 12 = .ok (.iconst 1, 1) := by decide +kernel
theorem dX3_has_13 : decode cX3_has 13 = .ok (.goto 4, 3) := by decide +kernel
theorem dX3_has_16 : decode cX3_has 16 = .ok (.iconst 0, 1) := by decide +kernel
theorem dX3_has_17 : decode cX3_has 17 = .ok (.ireturn, 1) := by decide +kernel
def fX3_has (n : Nat) (k0 : Nat) (a1 : Int32) (μ : Mem) : Option (Int32 × Mem) :=
  if a1 < 0 then some (0, μ) else if (μ.1 k0 3) ≤ a1 then some (0, μ) else some (1, μ)
set_option maxHeartbeats 4000000 in
set_option maxRecDepth 100000 in
theorem ctX3_has (ad : Nat → Nat) (n : Nat) (k0 : Nat) (h0 : St k0) (a1 : Int32) (μ : Mem) : Ct yX3_has kX3_has ad encI [.ref (ad k0), .int a1] μ (fX3_has n k0 a1 μ) := Ct.of (by decide +kernel) rfl (Nat.le_of_ble_eq_true rfl) (by
  show G kX3_has ad encI 0 [(0, .ref (ad k0)), (1, .int a1)] [] μ (fX3_has n k0 a1 μ)
  unfold fX3_has
  refine g_iload_n (pc := 0) 1 dX3_has_0 rfl rfl ?_
  refine g_if_lt (pc := 1) 16 dX3_has_1 rfl ?_ ?_
  · refine g_iconst (pc := 16) 0 dX3_has_16 (by decide) ?_
    exact g_zreturn (pc := 17) (by decide) dX3_has_17 rfl
  · refine g_iload_n (pc := 4) 1 dX3_has_4 rfl rfl ?_
    refine g_aload_n (pc := 5) 0 dX3_has_5 rfl rfl ?_
    refine g_get (pc := 6) (st_o h0) foX3_23 (v := .int (μ.1 k0 3)) rfl dX3_has_6 ?_
    refine g_icmp_ge (pc := 9) 16 dX3_has_9 rfl ?_ ?_
    · refine g_iconst (pc := 16) 0 dX3_has_16 (by decide) ?_
      exact g_zreturn (pc := 17) (by decide) dX3_has_17 rfl
    · refine g_iconst (pc := 12) 1 dX3_has_12 (by decide) ?_
      refine g_goto (pc := 13) 17 dX3_has_13 rfl ?_
      exact g_zreturn (pc := 17) (by decide) dX3_has_17 rfl)
-- StopsByLetters$Stations.bitOf(I)I
abbrev kX3_bitOf : Cfg := (RX3, cX3_bitOf, 2, (some .int), 1)
theorem dX3_bitOf_0 : decode cX3_bitOf 0 = .ok (.aload_n 0, 1) := by decide +kernel
theorem dX3_bitOf_1 : decode cX3_bitOf 1 = .ok (.getfield 23, 3) := by decide +kernel
theorem dX3_bitOf_4 : decode cX3_bitOf 4 = .ok (.iconst 1, 1) := by decide +kernel
theorem dX3_bitOf_5 : decode cX3_bitOf 5 = .ok (.if_icmp .ge 5, 3) := by decide +kernel
theorem dX3_bitOf_8 : decode cX3_bitOf 8 = .ok (.iconst 0, 1) := by decide +kernel
theorem dX3_bitOf_9 : decode cX3_bitOf 9 = .ok (.ireturn, 1) := by decide +kernel
theorem dX3_bitOf_10 : decode cX3_bitOf 10 = .ok (.aload_n 0, 1) := by decide +kernel
theorem dX3_bitOf_11 : decode cX3_bitOf 11 = .ok (.getfield 27, 3) := by decide +kernel
theorem dX3_bitOf_14 : decode cX3_bitOf 14 = .ok (.ifCond .eq 14, 3) := by decide +kernel
theorem dX3_bitOf_17 : decode cX3_bitOf 17 = .ok (.iconst 1, 1) := by decide +kernel
theorem dX3_bitOf_18 : decode cX3_bitOf 18 = .ok (.iload_n 1, 1) := by decide +kernel
theorem dX3_bitOf_19 : decode cX3_bitOf 19 = .ok (.aload_n 0, 1) := by decide +kernel
theorem dX3_bitOf_20 : decode cX3_bitOf 20 = .ok (.getfield 23, 3) := by decide +kernel
theorem dX3_bitOf_23 : decode cX3_bitOf 23 = .ok (.invokestatic 79, 3) := by decide +kernel
theorem dX3_bitOf_26 : decode cX3_bitOf 26 = .ok (.ishl, 1) := by decide +kernel
theorem dX3_bitOf_27 : decode cX3_bitOf 27 = .ok (.ireturn, 1) := by decide +kernel
theorem dX3_bitOf_28 : decode cX3_bitOf 28 = .ok (.aload_n 0, 1) := by decide +kernel
theorem dX3_bitOf_29 : decode cX3_bitOf 29 = .ok (.iload_n 1, 1) := by decide +kernel
theorem dX3_bitOf_30 : decode cX3_bitOf 30 = .ok (.invokevirtual 58, 3) := by decide +kernel
theorem dX3_bitOf_33 : decode cX3_bitOf 33 = .ok (.ifCond .eq 9, 3) := by decide +kernel
theorem dX3_bitOf_36 : decode cX3_bitOf 36 = .ok (.iconst 1, 1) := by decide +kernel
theorem dX3_bitOf_37 : decode cX3_bitOf 37 = .ok (.iload_n 1, 1) := by decide +kernel
theorem dX3_bitOf_38 : decode cX3_bitOf 38 = .ok (.ishl, 1) := by decide +kernel
theorem dX3_bitOf_39 : decode cX3_bitOf 39 = .ok (.goto 4, 3) := by decide +kernel
theorem dX3_bitOf_42 : decode cX3_bitOf 42 = .ok (.iconst 0, 1) := by decide +kernel
theorem dX3_bitOf_43 : decode cX3_bitOf 43 = .ok (.ireturn, 1) := by decide +kernel
theorem foX3_27 : Fo 3 RX3 TX3 5 4 RX3 27 := ⟨rfl, by decide, rfl, uwX3, rfl, Or.inl (tb_in 126 (by decide +kernel) rfl)⟩
theorem lnX3_58 : Ln RX3 58 yX3_has := Or.inl (tb_in 370 (by decide +kernel) rfl)
theorem moX3_has : Mv yX3_has kX3_has 1 := ⟨⟨tb_in 373 (by decide +kernel) rfl, tb_in 88 (by decide +kernel) rfl, ⟨by decide, by decide⟩, by decide +kernel⟩, tb_in 372 (by decide +kernel) rfl, tb_in 10 (by decide +kernel) rfl⟩
theorem lnX3_79 : Ln RX3 79 yJ9_floorMod_7cf53 := Or.inl (tb_in 401 (by decide +kernel) rfl)
theorem moJ9_floorMod_7cf53 : Ms yJ9_floorMod_7cf53 kJ9_floorMod_7cf53 2 := ⟨⟨tb_in 403 (by decide +kernel) rfl, tb_in 95 (by decide +kernel) rfl, ⟨by decide, by decide⟩, by decide +kernel⟩, tb_in 402 (by decide +kernel) rfl⟩
def fX3_bitOf (n : Nat) (k0 : Nat) (a1 : Int32) (μ : Mem) : Option (Int32 × Mem) :=
  if 1 ≤ (μ.1 k0 3) then if (μ.1 k0 4) = 0 then bd (fX3_has n k0 a1 μ) (fun r2 m1 => if r2 = 0 then some (0, m1) else some ((jshl 1 a1), m1)) else bd (fJ9_floorMod_7cf53 n a1 (μ.1 k0 3) μ) (fun r4 m3 => some ((jshl 1 r4), m3)) else some (0, μ)
set_option maxHeartbeats 4000000 in
set_option maxRecDepth 100000 in
theorem ctX3_bitOf (ad : Nat → Nat) (n : Nat) (k0 : Nat) (h0 : St k0) (a1 : Int32) (μ : Mem) : Ct yX3_bitOf kX3_bitOf ad encI [.ref (ad k0), .int a1] μ (fX3_bitOf n k0 a1 μ) := Ct.of (by decide +kernel) rfl (Nat.le_of_ble_eq_true rfl) (by
  show G kX3_bitOf ad encI 0 [(0, .ref (ad k0)), (1, .int a1)] [] μ (fX3_bitOf n k0 a1 μ)
  unfold fX3_bitOf
  refine g_aload_n (pc := 0) 0 dX3_bitOf_0 rfl rfl ?_
  refine g_get (pc := 1) (st_o h0) foX3_23 (v := .int (μ.1 k0 3)) rfl dX3_bitOf_1 ?_
  refine g_iconst (pc := 4) 1 dX3_bitOf_4 (by decide) ?_
  refine g_icmp_ge (pc := 5) 10 dX3_bitOf_5 rfl ?_ ?_
  · refine g_aload_n (pc := 10) 0 dX3_bitOf_10 rfl rfl ?_
    refine g_get (pc := 11) (st_o h0) foX3_27 (v := .int (μ.1 k0 4)) rfl dX3_bitOf_11 ?_
    refine g_if_eq (pc := 14) 28 dX3_bitOf_14 rfl ?_ ?_
    · refine g_aload_n (pc := 28) 0 dX3_bitOf_28 rfl rfl ?_
      refine g_iload_n (pc := 29) 1 dX3_bitOf_29 rfl rfl ?_
      refine g_cVI (pc := 30) (st := []) [.int a1] (st_o h0) rfl moX3_has lnX3_58 (ctX3_has ad n k0 h0 a1 μ) rfl ⟨Nat.le_of_ble_eq_true rfl, Nat.le_of_ble_eq_true rfl⟩ rfl (Nat.le_of_ble_eq_true rfl) dX3_bitOf_30 (fun r2 m1 => ?_)
      refine g_if_eq (pc := 33) 42 dX3_bitOf_33 rfl ?_ ?_
      · refine g_iconst (pc := 42) 0 dX3_bitOf_42 (by decide) ?_
        exact g_ireturn (pc := 43) dX3_bitOf_43 rfl
      · refine g_iconst (pc := 36) 1 dX3_bitOf_36 (by decide) ?_
        refine g_iload_n (pc := 37) 1 dX3_bitOf_37 rfl rfl ?_
        refine g_ishl' (pc := 38) dX3_bitOf_38 ?_
        refine g_goto (pc := 39) 43 dX3_bitOf_39 rfl ?_
        exact g_ireturn (pc := 43) dX3_bitOf_43 rfl
    · refine g_iconst (pc := 17) 1 dX3_bitOf_17 (by decide) ?_
      refine g_iload_n (pc := 18) 1 dX3_bitOf_18 rfl rfl ?_
      refine g_aload_n (pc := 19) 0 dX3_bitOf_19 rfl rfl ?_
      refine g_get (pc := 20) (st_o h0) foX3_23 (v := .int (μ.1 k0 3)) rfl dX3_bitOf_20 ?_
      refine g_cSI (pc := 23) (st := [.int 1]) [.int a1, .int (μ.1 k0 3)] moJ9_floorMod_7cf53 lnX3_79 (ctJ9_floorMod_7cf53 ad n a1 (μ.1 k0 3) μ) rfl ⟨Nat.le_of_ble_eq_true rfl, Nat.le_of_ble_eq_true rfl⟩ rfl (Nat.le_of_ble_eq_true rfl) dX3_bitOf_23 (fun r4 m3 => ?_)
      refine g_ishl' (pc := 26) dX3_bitOf_26 ?_
      exact g_ireturn (pc := 27) dX3_bitOf_27 rfl
  · refine g_iconst (pc := 8) 0 dX3_bitOf_8 (by decide) ?_
    exact g_ireturn (pc := 9) dX3_bitOf_9 rfl)
-- StopsByLetters$Stations.ridesFrom(I)I
abbrev kX3_ridesFrom : Cfg := (RX3, cX3_ridesFrom, 5, (some .int), 2)
theorem dX3_ridesFrom_0 : decode cX3_ridesFrom 0 = .ok (.aload_n 0, 1) := by decide +kernel
theorem dX3_ridesFrom_1 : decode cX3_ridesFrom 1 = .ok (.getfield 9, 3) := by decide +kernel
theorem dX3_ridesFrom_4 : decode cX3_ridesFrom 4 = .ok (.iload_n 1, 1) := by decide +kernel
theorem dX3_ridesFrom_5 : decode cX3_ridesFrom 5 = .ok (.iaload, 1) := by decide +kernel
theorem dX3_ridesFrom_6 : decode cX3_ridesFrom 6 = .ok (.istore_n 2, 1) := by decide +kernel
theorem dX3_ridesFrom_7 : decode cX3_ridesFrom 7 = .ok (.aload_n 0, 1) := by decide +kernel
theorem dX3_ridesFrom_8 : decode cX3_ridesFrom 8 = .ok (.iload_n 1, 1) := by decide +kernel
theorem dX3_ridesFrom_9 : decode cX3_ridesFrom 9 = .ok (.invokevirtual 73, 3) := by decide +kernel
theorem dX3_ridesFrom_12 : decode cX3_ridesFrom 12 = .ok (.istore_n 3, 1) := by decide +kernel
theorem dX3_ridesFrom_13 : decode cX3_ridesFrom 13 = .ok (.iload_n 2, 1) := by decide +kernel
theorem dX3_ridesFrom_14 : decode cX3_ridesFrom 14 = .ok (.iconst 4, 1) := by decide +kernel
theorem dX3_ridesFrom_15 : decode cX3_ridesFrom 15 = .ok (.if_icmp .ne 11, 3) := by decide +kernel
theorem dX3_ridesFrom_18 : decode cX3_ridesFrom 18 = .ok (.iload_n 3, 1) := by decide +kernel
theorem dX3_ridesFrom_19 : decode cX3_ridesFrom 19 = .ok (.iconst 2, 1) := by decide +kernel
theorem dX3_ridesFrom_20 : decode cX3_ridesFrom 20 = .ok (.irem, 1) := by decide +kernel
theorem dX3_ridesFrom_21 : decode cX3_ridesFrom 21 = .ok (.ifCond .eq 5, 3) := by decide +kernel
theorem dX3_ridesFrom_24 : decode cX3_ridesFrom 24 = .ok (.iconst 0, 1) := by decide +kernel
theorem dX3_ridesFrom_25 : decode cX3_ridesFrom 25 = .ok (.ireturn, 1) := by decide +kernel
theorem dX3_ridesFrom_26 : decode cX3_ridesFrom 26 = .ok (.aload_n 0, 1) := by decide +kernel
theorem dX3_ridesFrom_27 : decode cX3_ridesFrom 27 = .ok (.iload_n 1, 1) := by decide +kernel
theorem dX3_ridesFrom_28 : decode cX3_ridesFrom 28 = .ok (.iload_n 3, 1) := by decide +kernel
theorem dX3_ridesFrom_29 : decode cX3_ridesFrom 29 = .ok (.iadd, 1) := by decide +kernel
theorem dX3_ridesFrom_30 : decode cX3_ridesFrom 30 = .ok (.invokevirtual 76, 3) := by decide +kernel
theorem dX3_ridesFrom_33 : decode cX3_ridesFrom 33 = .ok (.istore 4, 2) := by decide +kernel
theorem dX3_ridesFrom_35 : decode cX3_ridesFrom 35 = .ok (.iload_n 2, 1) := by decide +kernel
theorem dX3_ridesFrom_36 : decode cX3_ridesFrom 36 = .ok (.iconst 1, 1) := by decide +kernel
theorem dX3_ridesFrom_37 : decode cX3_ridesFrom 37 = .ok (.if_icmp .eq 20, 3) := by decide +kernel
theorem dX3_ridesFrom_40 : decode cX3_ridesFrom 40 = .ok (.iload_n 2, 1) := by decide +kernel
theorem dX3_ridesFrom_41 : decode cX3_ridesFrom 41 = .ok (.iconst 5, 1) := by decide +kernel
theorem dX3_ridesFrom_42 : decode cX3_ridesFrom 42 = .ok (.if_icmp .eq 15, 3) := by decide +kernel
theorem dX3_ridesFrom_45 : decode cX3_ridesFrom 45 = .ok (.iload 4, 2) := by decide +kernel
theorem dX3_ridesFrom_47 : decode cX3_ridesFrom 47 = .ok (.aload_n 0, 1) := by decide +kernel
theorem dX3_ridesFrom_48 : decode cX3_ridesFrom 48 = .ok (.iload_n 1, 1) := by decide +kernel
theorem dX3_ridesFrom_49 : decode cX3_ridesFrom 49 = .ok (.iload_n 3, 1) := by decide +kernel
theorem dX3_ridesFrom_50 : decode cX3_ridesFrom 50 = .ok (.isub, 1) := by decide +kernel
theorem dX3_ridesFrom_51 : decode cX3_ridesFrom 51 = .ok (.invokevirtual 76, 3) := by decide +kernel
theorem dX3_ridesFrom_54 : decode cX3_ridesFrom 54 = .ok (.ior, 1) := by decide +kernel
theorem dX3_ridesFrom_55 : decode cX3_ridesFrom 55 = .ok (.istore 4, 2) := by decide +kernel
theorem dX3_ridesFrom_57 : decode cX3_ridesFrom 57 = .ok (.iload 4, 2) := by decide +kernel
theorem dX3_ridesFrom_59 : decode cX3_ridesFrom 59 = .ok (.ireturn, 1) := by decide +kernel
theorem lnX3_76 : Ln RX3 76 yX3_bitOf := Or.inl (tb_in 397 (by decide +kernel) rfl)
theorem moX3_bitOf : Mv yX3_bitOf kX3_bitOf 1 := ⟨⟨tb_in 400 (by decide +kernel) rfl, tb_in 88 (by decide +kernel) rfl, ⟨by decide, by decide⟩, by decide +kernel⟩, tb_in 399 (by decide +kernel) rfl, tb_in 15 (by decide +kernel) rfl⟩
theorem lnX3_73 : Ln RX3 73 yX3_stopsFrom := Or.inl (tb_in 384 (by decide +kernel) rfl)
theorem moX3_stopsFrom : Mv yX3_stopsFrom kX3_stopsFrom 1 := ⟨⟨tb_in 387 (by decide +kernel) rfl, tb_in 88 (by decide +kernel) rfl, ⟨by decide, by decide⟩, by decide +kernel⟩, tb_in 386 (by decide +kernel) rfl, tb_in 12 (by decide +kernel) rfl⟩
def fX3_ridesFrom (n : Nat) (k0 : Nat) (a1 : Int32) (μ : Mem) : Option (Int32 × Mem) :=
  gd (inb a1 8) (bnd (μ.1 (k0 + 1) (Int32.toNatClampNeg a1)) (fun x1 => bd (fX3_stopsFrom n k0 a1 μ) (fun r3 m2 => bnd (fun (m5 : Mem) => bd (fX3_bitOf n k0 (a1 + r3) m5) (fun r7 m6 => if x1 = 1 then some (r7, m6) else if x1 = 5 then some (r7, m6) else bd (fX3_bitOf n k0 (a1 - r3) m6) (fun r9 m8 => bnd (r7 ||| r9) (fun x10 => some (x10, m8))))) (fun kb4 => if x1 = 4 then if (jrem r3 2) = 0 then kb4 m2 else some (0, m2) else kb4 m2))))
set_option maxHeartbeats 4000000 in
set_option maxRecDepth 100000 in
theorem ctX3_ridesFrom (ad : Nat → Nat) (n : Nat) (k0 : Nat) (h0 : St k0) (a1 : Int32) (μ : Mem) : Ct yX3_ridesFrom kX3_ridesFrom ad encI [.ref (ad k0), .int a1] μ (fX3_ridesFrom n k0 a1 μ) := Ct.of (by decide +kernel) rfl (Nat.le_of_ble_eq_true rfl) (by
  show G kX3_ridesFrom ad encI 0 [(0, .ref (ad k0)), (1, .int a1)] [] μ (fX3_ridesFrom n k0 a1 μ)
  unfold fX3_ridesFrom
  refine g_aload_n (pc := 0) 0 dX3_ridesFrom_0 rfl rfl ?_
  refine g_get (pc := 1) (st_o h0) foX3_9 (v := .ref (ad (k0 + 1))) rfl dX3_ridesFrom_1 ?_
  refine g_iload_n (pc := 4) 1 dX3_ridesFrom_4 rfl rfl ?_
  refine g_iald (pc := 5) (st_1 h0) (by decide) dX3_ridesFrom_5 ?_
  refine g_istore_nB (pc := 6) (fun x1 => [(2, .int x1), (0, .ref (ad k0)), (1, .int a1)]) dX3_ridesFrom_6 rfl (by decide) (fun _ => rfl) (fun x1 => ?_)
  refine g_aload_n (pc := 7) 1 dX3_ridesFrom_7 rfl rfl ?_
  refine g_iload_n (pc := 8) 2 dX3_ridesFrom_8 rfl rfl ?_
  refine g_cVI (pc := 9) (st := []) [.int a1] (st_o h0) rfl moX3_stopsFrom lnX3_73 (ctX3_stopsFrom ad n k0 h0 a1 μ) rfl ⟨Nat.le_of_ble_eq_true rfl, Nat.le_of_ble_eq_true rfl⟩ rfl (Nat.le_of_ble_eq_true rfl) dX3_ridesFrom_9 (fun r3 m2 => ?_)
  refine g_istore_n (pc := 12) [(3, .int r3), (2, .int x1), (0, .ref (ad k0)), (1, .int a1)] dX3_ridesFrom_12 rfl (by decide) rfl ?_
  refine g_iload_n (pc := 13) 1 dX3_ridesFrom_13 rfl rfl ?_
  refine g_iconst (pc := 14) 4 dX3_ridesFrom_14 (by decide) ?_
  refine g_join (fun kb => ∀ (m5 : Mem), G kX3_ridesFrom ad encI 26 [(0, .ref (ad k0)), (1, .int a1), (2, .int x1), (3, .int r3)] [] m5 (kb m5)) (fun m5 => ?_) (fun kb4 hkb4 => ?_)
  · refine g_aload_n (pc := 26) 0 dX3_ridesFrom_26 rfl rfl ?_
    refine g_iload_n (pc := 27) 1 dX3_ridesFrom_27 rfl rfl ?_
    refine g_iload_n (pc := 28) 3 dX3_ridesFrom_28 rfl rfl ?_
    refine g_iadd (pc := 29) dX3_ridesFrom_29 ?_
    refine g_cVI (pc := 30) (st := []) [.int (a1 + r3)] (st_o h0) rfl moX3_bitOf lnX3_76 (ctX3_bitOf ad n k0 h0 (a1 + r3) m5) rfl ⟨Nat.le_of_ble_eq_true rfl, Nat.le_of_ble_eq_true rfl⟩ rfl (Nat.le_of_ble_eq_true rfl) dX3_ridesFrom_30 (fun r7 m6 => ?_)
    refine g_istore (pc := 33) [(4, .int r7), (0, .ref (ad k0)), (1, .int a1), (2, .int x1), (3, .int r3)] dX3_ridesFrom_33 (by decide) rfl ?_
    refine g_iload_n (pc := 35) 3 dX3_ridesFrom_35 rfl rfl ?_
    refine g_iconst (pc := 36) 1 dX3_ridesFrom_36 (by decide) ?_
    refine g_icmp_eq (pc := 37) 57 dX3_ridesFrom_37 rfl ?_ ?_
    · refine g_iload (pc := 57) 0 dX3_ridesFrom_57 rfl ?_
      exact g_ireturn (pc := 59) dX3_ridesFrom_59 rfl
    · refine g_iload_n (pc := 40) 3 dX3_ridesFrom_40 rfl rfl ?_
      refine g_iconst (pc := 41) 5 dX3_ridesFrom_41 (by decide) ?_
      refine g_icmp_eq (pc := 42) 57 dX3_ridesFrom_42 rfl ?_ ?_
      · refine g_iload (pc := 57) 0 dX3_ridesFrom_57 rfl ?_
        exact g_ireturn (pc := 59) dX3_ridesFrom_59 rfl
      · refine g_iload (pc := 45) 0 dX3_ridesFrom_45 rfl ?_
        refine g_aload_n (pc := 47) 1 dX3_ridesFrom_47 rfl rfl ?_
        refine g_iload_n (pc := 48) 2 dX3_ridesFrom_48 rfl rfl ?_
        refine g_iload_n (pc := 49) 4 dX3_ridesFrom_49 rfl rfl ?_
        refine g_isub (pc := 50) dX3_ridesFrom_50 ?_
        refine g_cVI (pc := 51) (st := [.int r7]) [.int (a1 - r3)] (st_o h0) rfl moX3_bitOf lnX3_76 (ctX3_bitOf ad n k0 h0 (a1 - r3) m6) rfl ⟨Nat.le_of_ble_eq_true rfl, Nat.le_of_ble_eq_true rfl⟩ rfl (Nat.le_of_ble_eq_true rfl) dX3_ridesFrom_51 (fun r9 m8 => ?_)
        refine g_ior (pc := 54) dX3_ridesFrom_54 ?_
        refine g_istoreB (pc := 55) (fun x10 => [(4, .int x10), (0, .ref (ad k0)), (1, .int a1), (2, .int x1), (3, .int r3)]) dX3_ridesFrom_55 (by decide) (fun _ => rfl) (fun x10 => ?_)
        refine g_iload (pc := 57) 0 dX3_ridesFrom_57 rfl ?_
        exact g_ireturn (pc := 59) dX3_ridesFrom_59 rfl
  ·
    refine g_icmp_ne (pc := 15) 26 dX3_ridesFrom_15 rfl ?_ ?_
    · exact g_sub [2, 3, 1, 0] rfl (hkb4 m2)
    · refine g_iload_n (pc := 18) 0 dX3_ridesFrom_18 rfl rfl ?_
      refine g_iconst (pc := 19) 2 dX3_ridesFrom_19 (by decide) ?_
      refine g_irem' (pc := 20) dX3_ridesFrom_20 (by decide) ?_
      refine g_if_eq (pc := 21) 26 dX3_ridesFrom_21 rfl ?_ ?_
      · exact g_sub [2, 3, 1, 0] rfl (hkb4 m2)
      · refine g_iconst (pc := 24) 0 dX3_ridesFrom_24 (by decide) ?_
        exact g_ireturn (pc := 25) dX3_ridesFrom_25 rfl)
