-- StopsByLetters$Net.comes(II)Z
abbrev kX0_comes : Cfg := (RX0, cX0_comes, 3, (some .boolean), 0)
theorem dX0_comes_0 : decode cX0_comes 0 = .ok (.iload_n 1, 1) := by decide +kernel
theorem dX0_comes_1 : decode cX0_comes 1 = .ok (.ifCond .lt 28, 3) := by decide +kernel
theorem dX0_comes_4 : decode cX0_comes 4 = .ok (.iload_n 1, 1) := by decide +kernel
theorem dX0_comes_5 : decode cX0_comes 5 = .ok (.aload_n 0, 1) := by decide +kernel
theorem dX0_comes_6 : decode cX0_comes 6 = .ok (.getfield 31, 3) := by decide +kernel
theorem dX0_comes_9 : decode cX0_comes 9 = .ok (.if_icmp .ge 20, 3) := by decide +kernel
theorem dX0_comes_12 : decode cX0_comes 12 = .ok (.aload_n 0, 1) := by decide +kernel
theorem dX0_comes_13 : decode cX0_comes 13 = .ok (.getfield 15, 3) := by decide +kernel
theorem dX0_comes_16 : decode cX0_comes 16 = .ok (.iload_n 1, 1) := by decide +kernel
theorem dX0_comes_17 : decode cX0_comes 17 = .ok (.iaload, 1) := by decide +kernel
theorem dX0_comes_18 : decode cX0_comes 18 = .ok (.iload_n 2, 1) := by decide +kernel
theorem dX0_comes_19 : decode cX0_comes 19 = .ok (.ishr, 1) := by decide +kernel
theorem dX0_comes_20 : decode cX0_comes 20 = .ok (.iconst 1, 1) := by decide +kernel
theorem dX0_comes_21 : decode cX0_comes 21 = .ok (.iand, 1) := by decide +kernel
theorem dX0_comes_22 : decode cX0_comes 22 = .ok (.ifCond .eq 7, 3) := by decide +kernel
theorem dX0_comes_25 : decode cX0_comes 25 = .ok (.iconst 1, 1) := by decide +kernel
theorem dX0_comes_26 : decode cX0_comes 26 = .ok (.goto 4, 3) := by decide +kernel
theorem dX0_comes_29 : decode cX0_comes 29 = .ok (.iconst 0, 1) := by decide +kernel
theorem dX0_comes_30 : decode cX0_comes 30 = .ok (.ireturn, 1) := by decide +kernel
theorem foX0_31 : Fo 0 RX0 TX0 5 4 RX0 31 := ⟨rfl, by decide, rfl, uwX0, rfl, Or.inl (tb_in 180 (by decide +kernel) rfl)⟩
theorem foX0_15 : Fo 0 RX0 TX0 5 1 RX0 15 := ⟨rfl, by decide, rfl, uwX0, rfl, Or.inl (tb_in 176 (by decide +kernel) rfl)⟩
def fX0_comes (n : Nat) (a1 : Int32) (a2 : Int32) (μ : Mem) : Option (Int32 × Mem) :=
  if a1 < 0 then some (0, μ) else if (μ.1 42 4) ≤ a1 then some (0, μ) else gd (inb a1 8) (if ((jshr (μ.1 44 (Int32.toNatClampNeg a1)) a2) &&& 1) = 0 then some (0, μ) else some (1, μ))
set_option maxHeartbeats 4000000 in
set_option maxRecDepth 100000 in
theorem ctX0_comes (ad : Nat → Nat) (n : Nat) (a1 : Int32) (a2 : Int32) (μ : Mem) : Ct yX0_comes kX0_comes ad encI [.ref (ad 42), .int a1, .int a2] μ (fX0_comes n a1 a2 μ) := Ct.of (by decide +kernel) rfl (Nat.le_of_ble_eq_true rfl) (by
  show G kX0_comes ad encI 0 [(0, .ref (ad 42)), (1, .int a1), (2, .int a2)] [] μ (fX0_comes n a1 a2 μ)
  unfold fX0_comes
  refine g_iload_n (pc := 0) 1 dX0_comes_0 rfl rfl ?_
  refine g_if_lt (pc := 1) 29 dX0_comes_1 rfl ?_ ?_
  · refine g_iconst (pc := 29) 0 dX0_comes_29 (by decide) ?_
    exact g_zreturn (pc := 30) (by decide) dX0_comes_30 rfl
  · refine g_iload_n (pc := 4) 1 dX0_comes_4 rfl rfl ?_
    refine g_aload_n (pc := 5) 0 dX0_comes_5 rfl rfl ?_
    refine g_get (pc := 6) rfl foX0_31 (v := .int (μ.1 42 4)) rfl dX0_comes_6 ?_
    refine g_icmp_ge (pc := 9) 29 dX0_comes_9 rfl ?_ ?_
    · refine g_iconst (pc := 29) 0 dX0_comes_29 (by decide) ?_
      exact g_zreturn (pc := 30) (by decide) dX0_comes_30 rfl
    · refine g_aload_n (pc := 12) 0 dX0_comes_12 rfl rfl ?_
      refine g_get (pc := 13) rfl foX0_15 (v := .ref (ad 44)) rfl dX0_comes_13 ?_
      refine g_iload_n (pc := 16) 1 dX0_comes_16 rfl rfl ?_
      refine g_iald (pc := 17) rfl (by decide) dX0_comes_17 ?_
      refine g_iload_n (pc := 18) 2 dX0_comes_18 rfl rfl ?_
      refine g_ishr' (pc := 19) dX0_comes_19 ?_
      refine g_iconst (pc := 20) 1 dX0_comes_20 (by decide) ?_
      refine g_iand (pc := 21) dX0_comes_21 ?_
      refine g_if_eq (pc := 22) 29 dX0_comes_22 rfl ?_ ?_
      · refine g_iconst (pc := 29) 0 dX0_comes_29 (by decide) ?_
        exact g_zreturn (pc := 30) (by decide) dX0_comes_30 rfl
      · refine g_iconst (pc := 25) 1 dX0_comes_25 (by decide) ?_
        refine g_goto (pc := 26) 30 dX0_comes_26 rfl ?_
        exact g_zreturn (pc := 30) (by decide) dX0_comes_30 rfl)
-- StopsByLetters$Net.lay(LStopsByLetters$Stations;)V
abbrev kX0_lay : Cfg := (RX0, cX0_lay, 4, none, 3)
theorem dX0_lay_0 : decode cX0_lay 0 = .ok (.aload_n 0, 1) := by decide +kernel
theorem dX0_lay_1 : decode cX0_lay 1 = .ok (.aload_n 1, 1) := by decide +kernel
theorem dX0_lay_2 : decode cX0_lay 2 = .ok (.getfield 25, 3) := by decide +kernel
theorem dX0_lay_5 : decode cX0_lay 5 = .ok (.putfield 31, 3) := by decide +kernel
theorem dX0_lay_8 : decode cX0_lay 8 = .ok (.iconst 0, 1) := by decide +kernel
theorem dX0_lay_9 : decode cX0_lay 9 = .ok (.istore_n 2, 1) := by decide +kernel
theorem dX0_lay_10 : decode cX0_lay 10 = .ok (.iload_n 2, 1) := by decide +kernel
theorem dX0_lay_11 : decode cX0_lay 11 = .ok (.aload_n 0, 1) := by decide +kernel
theorem dX0_lay_12 : decode cX0_lay 12 = .ok (.getfield 31, 3) := by decide +kernel
theorem dX0_lay_15 : decode cX0_lay 15 = .ok (.if_icmp .ge 36, 3) := by decide +kernel
theorem dX0_lay_18 : decode cX0_lay 18 = .ok (.aload_n 0, 1) := by decide +kernel
theorem dX0_lay_19 : decode cX0_lay 19 = .ok (.getfield 9, 3) := by decide +kernel
theorem dX0_lay_22 : decode cX0_lay 22 = .ok (.iload_n 2, 1) := by decide +kernel
theorem dX0_lay_23 : decode cX0_lay 23 = .ok (.aload_n 1, 1) := by decide +kernel
theorem dX0_lay_24 : decode cX0_lay 24 = .ok (.iload_n 2, 1) := by decide +kernel
theorem dX0_lay_25 : decode cX0_lay 25 = .ok (.invokevirtual 34, 3) := by decide +kernel
theorem dX0_lay_28 : decode cX0_lay 28 = .ok (.iastore, 1) := by decide +kernel
theorem dX0_lay_29 : decode cX0_lay 29 = .ok (.aload_n 0, 1) := by decide +kernel
theorem dX0_lay_30 : decode cX0_lay 30 = .ok (.getfield 15, 3) := by decide +kernel
theorem dX0_lay_33 : decode cX0_lay 33 = .ok (.iload_n 2, 1) := by decide +kernel
theorem dX0_lay_34 : decode cX0_lay 34 = .ok (.aload_n 0, 1) := by decide +kernel
theorem dX0_lay_35 : decode cX0_lay 35 = .ok (.getfield 9, 3) := by decide +kernel
theorem dX0_lay_38 : decode cX0_lay 38 = .ok (.iload_n 2, 1) := by decide +kernel
theorem dX0_lay_39 : decode cX0_lay 39 = .ok (.iaload, 1) := by decide +kernel
theorem dX0_lay_40 : decode cX0_lay 40 = .ok (.iconst 1, 1) := by decide +kernel
theorem dX0_lay_41 : decode cX0_lay 41 = .ok (.iload_n 2, 1) := by decide +kernel
theorem dX0_lay_42 : decode cX0_lay 42 = .ok (.ishl, 1) := by decide +kernel
theorem dX0_lay_43 : decode cX0_lay 43 = .ok (.ior, 1) := by decide +kernel
theorem dX0_lay_44 : decode cX0_lay 44 = .ok (.iastore, 1) := by decide +kernel
theorem dX0_lay_45 : decode cX0_lay 45 = .ok (.iinc 2 1, 3) := by decide +kernel
theorem dX0_lay_48 : decode cX0_lay 48 = .ok (.goto (-38), 3) := by decide +kernel
theorem dX0_lay_51 : decode cX0_lay 51 = .ok (.iconst 0, 1) := by decide +kernel
theorem dX0_lay_52 : decode cX0_lay 52 = .ok (.istore_n 2, 1) := by decide +kernel
theorem dX0_lay_53 : decode cX0_lay 53 = .ok (.iload_n 2, 1) := by decide +kernel
theorem dX0_lay_54 : decode cX0_lay 54 = .ok (.aload_n 0, 1) := by decide +kernel
theorem dX0_lay_55 : decode cX0_lay 55 = .ok (.getfield 31, 3) := by decide +kernel
theorem dX0_lay_58 : decode cX0_lay 58 = .ok (.if_icmp .ge 49, 3) := by decide +kernel
theorem dX0_lay_61 : decode cX0_lay 61 = .ok (.iconst 0, 1) := by decide +kernel
theorem dX0_lay_62 : decode cX0_lay 62 = .ok (.istore_n 3, 1) := by decide +kernel
theorem dX0_lay_63 : decode cX0_lay 63 = .ok (.iload_n 3, 1) := by decide +kernel
theorem dX0_lay_64 : decode cX0_lay 64 = .ok (.aload_n 0, 1) := by decide +kernel
theorem dX0_lay_65 : decode cX0_lay 65 = .ok (.getfield 31, 3) := by decide +kernel
theorem dX0_lay_68 : decode cX0_lay 68 = .ok (.if_icmp .ge 33, 3) := by decide +kernel
theorem dX0_lay_71 : decode cX0_lay 71 = .ok (.aload_n 0, 1) := by decide +kernel
theorem dX0_lay_72 : decode cX0_lay 72 = .ok (.iload_n 3, 1) := by decide +kernel
theorem dX0_lay_73 : decode cX0_lay 73 = .ok (.iload_n 2, 1) := by decide +kernel
theorem dX0_lay_74 : decode cX0_lay 74 = .ok (.invokevirtual 38, 3) := by decide +kernel
theorem dX0_lay_77 : decode cX0_lay 77 = .ok (.ifCond .eq 18, 3) := by decide +kernel
theorem dX0_lay_80 : decode cX0_lay 80 = .ok (.aload_n 0, 1) := by decide +kernel
theorem dX0_lay_81 : decode cX0_lay 81 = .ok (.getfield 15, 3) := by decide +kernel
theorem dX0_lay_84 : decode cX0_lay 84 = .ok (.iload_n 3, 1) := by decide +kernel
theorem dX0_lay_85 : decode cX0_lay 85 = .ok (.dup2, 1) := by decide +kernel
theorem dX0_lay_86 : decode cX0_lay 86 = .ok (.iaload, 1) := by decide +kernel
theorem dX0_lay_87 : decode cX0_lay 87 = .ok (.aload_n 0, 1) := by decide +kernel
theorem dX0_lay_88 : decode cX0_lay 88 = .ok (.getfield 15, 3) := by decide +kernel
theorem dX0_lay_91 : decode cX0_lay 91 = .ok (.iload_n 2, 1) := by decide +kernel
theorem dX0_lay_92 : decode cX0_lay 92 = .ok (.iaload, 1) := by decide +kernel
theorem dX0_lay_93 : decode cX0_lay 93 = .ok (.ior, 1) := by decide +kernel
theorem dX0_lay_94 : decode cX0_lay 94 = .ok (.iastore, 1) := by decide +kernel
theorem dX0_lay_95 : decode cX0_lay 95 = .ok (.iinc 3 1, 3) := by decide +kernel
theorem dX0_lay_98 : decode cX0_lay 98 = .ok (.goto (-35), 3) := by decide +kernel
theorem dX0_lay_101 : decode cX0_lay 101 = .ok (.iinc 2 1, 3) := by decide +kernel
theorem dX0_lay_104 : decode cX0_lay 104 = .ok (.goto (-51), 3) := by decide +kernel
theorem dX0_lay_107 : decode cX0_lay 107 = .ok (.return_, 1) := by decide +kernel
theorem foX0_25 : Fo 3 RX3 TX3 5 3 RX0 25 := ⟨rfl, by decide, rfl, uwX3, rfl, Or.inr ⟨RX4, nt_in 123 (by decide +kernel) rfl⟩⟩
theorem fpX0_4 : Fp TX0 5 tyX0 4 := ⟨tyX0_ok, nmX0, rfl⟩
theorem foX0_9 : Fo 0 RX0 TX0 5 0 RX0 9 := ⟨rfl, by decide, rfl, uwX0, rfl, Or.inl (tb_in 175 (by decide +kernel) rfl)⟩
theorem lnX0_34 : Ln RX0 34 yX3_ridesFrom := Or.inr ⟨RX4, nt_in 428 (by decide +kernel) rfl⟩
theorem moX3_ridesFrom : Mv yX3_ridesFrom kX3_ridesFrom 1 := ⟨⟨tb_in 383 (by decide +kernel) rfl, tb_in 88 (by decide +kernel) rfl, ⟨by decide, by decide⟩, by decide +kernel⟩, tb_in 382 (by decide +kernel) rfl, tb_in 11 (by decide +kernel) rfl⟩
def fX0_lay_L10 (n : Nat) (k1 : Nat) (K1 : Mem → Option (Unit × Mem)) : Nat → Int32 → Mem → Option (Unit × Mem)
  | 0, _, _ => none
  | F + 1, v2, μ => if (μ.1 42 4) ≤ v2 then K1 μ else bd (fX3_ridesFrom n k1 v2 μ) (fun r3 m2 => gd (inb v2 8) (bnd (setI m2 43 (Int32.toNatClampNeg v2) r3) (fun m4 => gd (inb v2 8) (gd (inb v2 8) (bnd (setI m4 44 (Int32.toNatClampNeg v2) ((m4.1 43 (Int32.toNatClampNeg v2)) ||| (jshl 1 v2))) (fun m5 => bnd (v2 + 1) (fun x6 => fX0_lay_L10 n k1 K1 F x6 m5)))))))
theorem lnX0_38 : Ln RX0 38 yX0_comes := Or.inl (tb_in 429 (by decide +kernel) rfl)
theorem moX0_comes : Mv yX0_comes kX0_comes 2 := ⟨⟨tb_in 432 (by decide +kernel) rfl, tb_in 91 (by decide +kernel) rfl, ⟨by decide, by decide⟩, by decide +kernel⟩, tb_in 431 (by decide +kernel) rfl, tb_in 17 (by decide +kernel) rfl⟩
def fX0_lay_L63 (n : Nat) (k1 : Nat) (v2 : Int32) (K1 : Mem → Option (Unit × Mem)) : Nat → Int32 → Mem → Option (Unit × Mem)
  | 0, _, _ => none
  | F + 1, v3, μ => if (μ.1 42 4) ≤ v3 then K1 μ else bd (fX0_comes n v3 v2 μ) (fun r9 m8 => if r9 = 0 then bnd (v3 + 1) (fun x10 => fX0_lay_L63 n k1 v2 K1 F x10 m8) else gd (inb v3 8) (gd (inb v2 8) (gd (inb v3 8) (bnd (setI m8 44 (Int32.toNatClampNeg v3) ((m8.1 44 (Int32.toNatClampNeg v3)) ||| (m8.1 44 (Int32.toNatClampNeg v2)))) (fun m11 => bnd (v3 + 1) (fun x12 => fX0_lay_L63 n k1 v2 K1 F x12 m11))))))
def fX0_lay_L53 (n : Nat) (k1 : Nat) : Nat → Int32 → Mem → Option (Unit × Mem)
  | 0, _, _ => none
  | F + 1, v2, μ => if (μ.1 42 4) ≤ v2 then some ((), μ) else fX0_lay_L63 n k1 v2 (fun (m13 : Mem) => bnd (v2 + 1) (fun x14 => fX0_lay_L53 n k1 F x14 m13)) n 0 μ
def fX0_lay (n : Nat) (k1 : Nat) (μ : Mem) : Option (Unit × Mem) :=
  bnd (setI μ 42 4 (μ.1 k1 3)) (fun m1 => fX0_lay_L10 n k1 (fun (m7 : Mem) => fX0_lay_L53 n k1 n 0 m7) n 0 m1)
set_option maxHeartbeats 4000000 in
set_option maxRecDepth 100000 in
theorem wX0_lay_L10 (ad : Nat → Nat) (n : Nat) (k1 : Nat) (h1 : St k1) (K1 : Mem → Option (Unit × Mem)) (hK1 : ∀ (μ : Mem), G kX0_lay ad encV 51 [(0, .ref (ad 42))] [] μ (K1 μ)) : ∀ (F : Nat) (v2 : Int32) (μ : Mem), G kX0_lay ad encV 10 [(0, .ref (ad 42)), (1, .ref (ad k1)), (2, .int v2)] [] μ (fX0_lay_L10 n k1 K1 F v2 μ) := by
  intro F
  induction F with
  | zero =>
    intro v2 μ
    exact g_none
  | succ F ih =>
    intro v2 μ
    rw [fX0_lay_L10]
    refine g_iload_n (pc := 10) 2 dX0_lay_10 rfl rfl ?_
    refine g_aload_n (pc := 11) 0 dX0_lay_11 rfl rfl ?_
    refine g_get (pc := 12) rfl foX0_31 (v := .int (μ.1 42 4)) rfl dX0_lay_12 ?_
    refine g_icmp_ge (pc := 15) 51 dX0_lay_15 rfl ?_ ?_
    · exact g_sub [0] rfl (hK1 μ)
    · refine g_aload_n (pc := 18) 0 dX0_lay_18 rfl rfl ?_
      refine g_get (pc := 19) rfl foX0_9 (v := .ref (ad 43)) rfl dX0_lay_19 ?_
      refine g_iload_n (pc := 22) 2 dX0_lay_22 rfl rfl ?_
      refine g_aload_n (pc := 23) 1 dX0_lay_23 rfl rfl ?_
      refine g_iload_n (pc := 24) 2 dX0_lay_24 rfl rfl ?_
      refine g_cVI (pc := 25) (st := [.int v2, .ref (ad 43)]) [.int v2] (st_o h1) rfl moX3_ridesFrom lnX0_34 (ctX3_ridesFrom ad n k1 h1 v2 μ) rfl ⟨Nat.le_of_ble_eq_true rfl, Nat.le_of_ble_eq_true rfl⟩ rfl (Nat.le_of_ble_eq_true rfl) dX0_lay_25 (fun r3 m2 => ?_)
      refine g_iast (pc := 28) rfl (by decide) dX0_lay_28 (fun m4 => ?_)
      refine g_aload_n (pc := 29) 0 dX0_lay_29 rfl rfl ?_
      refine g_get (pc := 30) rfl foX0_15 (v := .ref (ad 44)) rfl dX0_lay_30 ?_
      refine g_iload_n (pc := 33) 2 dX0_lay_33 rfl rfl ?_
      refine g_aload_n (pc := 34) 0 dX0_lay_34 rfl rfl ?_
      refine g_get (pc := 35) rfl foX0_9 (v := .ref (ad 43)) rfl dX0_lay_35 ?_
      refine g_iload_n (pc := 38) 2 dX0_lay_38 rfl rfl ?_
      refine g_iald (pc := 39) rfl (by decide) dX0_lay_39 ?_
      refine g_iconst (pc := 40) 1 dX0_lay_40 (by decide) ?_
      refine g_iload_n (pc := 41) 2 dX0_lay_41 rfl rfl ?_
      refine g_ishl' (pc := 42) dX0_lay_42 ?_
      refine g_ior (pc := 43) dX0_lay_43 ?_
      refine g_iast (pc := 44) rfl (by decide) dX0_lay_44 (fun m5 => ?_)
      refine g_iincB (pc := 45) 2 1 1 (fun x6 => [(2, .int x6), (0, .ref (ad 42)), (1, .ref (ad k1))]) dX0_lay_45 rfl (by decide) (by decide) (fun _ => rfl) (fun x6 => ?_)
      refine g_goto (pc := 48) 10 dX0_lay_48 rfl ?_
      exact g_sub [1, 2, 0] rfl (ih x6 m5)
set_option maxHeartbeats 4000000 in
set_option maxRecDepth 100000 in
theorem wX0_lay_L63 (ad : Nat → Nat) (n : Nat) (k1 : Nat) (h1 : St k1) (v2 : Int32) (K1 : Mem → Option (Unit × Mem)) (hK1 : ∀ (μ : Mem), G kX0_lay ad encV 101 [(0, .ref (ad 42)), (2, .int v2)] [] μ (K1 μ)) : ∀ (F : Nat) (v3 : Int32) (μ : Mem), G kX0_lay ad encV 63 [(0, .ref (ad 42)), (2, .int v2), (3, .int v3)] [] μ (fX0_lay_L63 n k1 v2 K1 F v3 μ) := by
  intro F
  induction F with
  | zero =>
    intro v3 μ
    exact g_none
  | succ F ih =>
    intro v3 μ
    rw [fX0_lay_L63]
    refine g_iload_n (pc := 63) 2 dX0_lay_63 rfl rfl ?_
    refine g_aload_n (pc := 64) 0 dX0_lay_64 rfl rfl ?_
    refine g_get (pc := 65) rfl foX0_31 (v := .int (μ.1 42 4)) rfl dX0_lay_65 ?_
    refine g_icmp_ge (pc := 68) 101 dX0_lay_68 rfl ?_ ?_
    · exact g_sub [0, 1] rfl (hK1 μ)
    · refine g_aload_n (pc := 71) 0 dX0_lay_71 rfl rfl ?_
      refine g_iload_n (pc := 72) 2 dX0_lay_72 rfl rfl ?_
      refine g_iload_n (pc := 73) 1 dX0_lay_73 rfl rfl ?_
      refine g_cVI (pc := 74) (st := []) [.int v3, .int v2] rfl rfl moX0_comes lnX0_38 (ctX0_comes ad n v3 v2 μ) rfl ⟨Nat.le_of_ble_eq_true rfl, Nat.le_of_ble_eq_true rfl⟩ rfl (Nat.le_of_ble_eq_true rfl) dX0_lay_74 (fun r9 m8 => ?_)
      refine g_if_eq (pc := 77) 95 dX0_lay_77 rfl ?_ ?_
      · refine g_iincB (pc := 95) 2 1 1 (fun x10 => [(3, .int x10), (0, .ref (ad 42)), (2, .int v2)]) dX0_lay_95 rfl (by decide) (by decide) (fun _ => rfl) (fun x10 => ?_)
        refine g_goto (pc := 98) 63 dX0_lay_98 rfl ?_
        exact g_sub [1, 2, 0] rfl (ih x10 m8)
      · refine g_aload_n (pc := 80) 0 dX0_lay_80 rfl rfl ?_
        refine g_get (pc := 81) rfl foX0_15 (v := .ref (ad 44)) rfl dX0_lay_81 ?_
        refine g_iload_n (pc := 84) 2 dX0_lay_84 rfl rfl ?_
        refine g_dup2 (pc := 85) dX0_lay_85 rfl rfl ?_
        refine g_iald (pc := 86) rfl (by decide) dX0_lay_86 ?_
        refine g_aload_n (pc := 87) 0 dX0_lay_87 rfl rfl ?_
        refine g_get (pc := 88) rfl foX0_15 (v := .ref (ad 44)) rfl dX0_lay_88 ?_
        refine g_iload_n (pc := 91) 1 dX0_lay_91 rfl rfl ?_
        refine g_iald (pc := 92) rfl (by decide) dX0_lay_92 ?_
        refine g_ior (pc := 93) dX0_lay_93 ?_
        refine g_iast (pc := 94) rfl (by decide) dX0_lay_94 (fun m11 => ?_)
        refine g_iincB (pc := 95) 2 1 1 (fun x12 => [(3, .int x12), (0, .ref (ad 42)), (2, .int v2)]) dX0_lay_95 rfl (by decide) (by decide) (fun _ => rfl) (fun x12 => ?_)
        refine g_goto (pc := 98) 63 dX0_lay_98 rfl ?_
        exact g_sub [1, 2, 0] rfl (ih x12 m11)
set_option maxHeartbeats 4000000 in
set_option maxRecDepth 100000 in
theorem wX0_lay_L53 (ad : Nat → Nat) (n : Nat) (k1 : Nat) (h1 : St k1) : ∀ (F : Nat) (v2 : Int32) (μ : Mem), G kX0_lay ad encV 53 [(0, .ref (ad 42)), (2, .int v2)] [] μ (fX0_lay_L53 n k1 F v2 μ) := by
  intro F
  induction F with
  | zero =>
    intro v2 μ
    exact g_none
  | succ F ih =>
    intro v2 μ
    rw [fX0_lay_L53]
    refine g_iload_n (pc := 53) 1 dX0_lay_53 rfl rfl ?_
    refine g_aload_n (pc := 54) 0 dX0_lay_54 rfl rfl ?_
    refine g_get (pc := 55) rfl foX0_31 (v := .int (μ.1 42 4)) rfl dX0_lay_55 ?_
    refine g_icmp_ge (pc := 58) 107 dX0_lay_58 rfl ?_ ?_
    · exact g_return (pc := 107) dX0_lay_107 rfl
    · refine g_iconst (pc := 61) 0 dX0_lay_61 (by decide) ?_
      refine g_istore_n (pc := 62) [(3, .int 0), (0, .ref (ad 42)), (2, .int v2)] dX0_lay_62 rfl (by decide) rfl ?_
      refine g_sub [1, 2, 0] rfl (wX0_lay_L63 ad n k1 h1 v2 _ (fun m13 => ?_) n 0 μ)
      refine g_iincB (pc := 101) 1 1 1 (fun x14 => [(2, .int x14), (0, .ref (ad 42))]) dX0_lay_101 rfl (by decide) (by decide) (fun _ => rfl) (fun x14 => ?_)
      refine g_goto (pc := 104) 53 dX0_lay_104 rfl ?_
      exact g_sub [1, 0] rfl (ih x14 m13)
set_option maxHeartbeats 4000000 in
set_option maxRecDepth 100000 in
theorem ctX0_lay (ad : Nat → Nat) (n : Nat) (k1 : Nat) (h1 : St k1) (μ : Mem) : Ct yX0_lay kX0_lay ad encV [.ref (ad 42), .ref (ad k1)] μ (fX0_lay n k1 μ) := Ct.of (by decide +kernel) rfl (Nat.le_of_ble_eq_true rfl) (by
  show G kX0_lay ad encV 0 [(0, .ref (ad 42)), (1, .ref (ad k1))] [] μ (fX0_lay n k1 μ)
  unfold fX0_lay
  refine g_aload_n (pc := 0) 0 dX0_lay_0 rfl rfl ?_
  refine g_aload_n (pc := 1) 1 dX0_lay_1 rfl rfl ?_
  refine g_get (pc := 2) (st_o h1) foX0_25 (v := .int (μ.1 k1 3)) rfl dX0_lay_2 ?_
  refine g_put (pc := 5) rfl foX0_31 fpX0_4 rfl rfl dX0_lay_5 (fun m1 => ?_)
  refine g_iconst (pc := 8) 0 dX0_lay_8 (by decide) ?_
  refine g_istore_n (pc := 9) [(2, .int 0), (0, .ref (ad 42)), (1, .ref (ad k1))] dX0_lay_9 rfl (by decide) rfl ?_
  refine g_sub [1, 2, 0] rfl (wX0_lay_L10 ad n k1 h1 _ (fun m7 => ?_) n 0 m1)
  refine g_iconst (pc := 51) 0 dX0_lay_51 (by decide) ?_
  refine g_istore_n (pc := 52) [(2, .int 0), (0, .ref (ad 42))] dX0_lay_52 rfl (by decide) rfl ?_
  exact g_sub [1, 0] rfl (wX0_lay_L53 ad n k1 h1 n 0 m7))
-- StopsByLetters$Net.leads(II)Z
abbrev kX0_leads : Cfg := (RX0, cX0_leads, 3, (some .boolean), 0)
theorem dX0_leads_0 : decode cX0_leads 0 = .ok (.iload_n 1, 1) := by decide +kernel
theorem dX0_leads_1 : decode cX0_leads 1 = .ok (.ifCond .lt 28, 3) := by decide +kernel
theorem dX0_leads_4 : decode cX0_leads 4 = .ok (.iload_n 1, 1) := by decide +kernel
theorem dX0_leads_5 : decode cX0_leads 5 = .ok (.aload_n 0, 1) := by decide +kernel
theorem dX0_leads_6 : decode cX0_leads 6 = .ok (.getfield 31, 3) := by decide +kernel
theorem dX0_leads_9 : decode cX0_leads 9 = .ok (.if_icmp .ge 20, 3) := by decide +kernel
theorem dX0_leads_12 : decode cX0_leads 12 = .ok (.aload_n 0, 1) := by decide +kernel
theorem dX0_leads_13 : decode cX0_leads 13 = .ok (.getfield 9, 3) := by decide +kernel
theorem dX0_leads_16 : decode cX0_leads 16 = .ok (.iload_n 1, 1) := by decide +kernel
theorem dX0_leads_17 : decode cX0_leads 17 = .ok (.iaload, 1) := by decide +kernel
theorem dX0_leads_18 : decode cX0_leads 18 = .ok (.iload_n 2, 1) := by decide +kernel
theorem dX0_leads_19 : decode cX0_leads 19 = .ok (.ishr, 1) := by decide +kernel
theorem dX0_leads_20 : decode cX0_leads 20 = .ok (.iconst 1, 1) := by decide +kernel
theorem dX0_leads_21 : decode cX0_leads 21 = .ok (.iand, 1) := by decide +kernel
theorem dX0_leads_22 : decode cX0_leads 22 = .ok (.ifCond .eq 7, 3) := by decide +kernel
theorem dX0_leads_25 : decode cX0_leads 25 = .ok (.iconst 1, 1) := by decide +kernel
theorem dX0_leads_26 : decode cX0_leads 26 = .ok (.goto 4, 3) := by decide +kernel
theorem dX0_leads_29 : decode cX0_leads 29 = .ok (.iconst 0, 1) := by decide +kernel
theorem dX0_leads_30 : decode cX0_leads 30 = .ok (.ireturn, 1) := by decide +kernel
def fX0_leads (n : Nat) (a1 : Int32) (a2 : Int32) (μ : Mem) : Option (Int32 × Mem) :=
  if a1 < 0 then some (0, μ) else if (μ.1 42 4) ≤ a1 then some (0, μ) else gd (inb a1 8) (if ((jshr (μ.1 43 (Int32.toNatClampNeg a1)) a2) &&& 1) = 0 then some (0, μ) else some (1, μ))
set_option maxHeartbeats 4000000 in
set_option maxRecDepth 100000 in
theorem ctX0_leads (ad : Nat → Nat) (n : Nat) (a1 : Int32) (a2 : Int32) (μ : Mem) : Ct yX0_leads kX0_leads ad encI [.ref (ad 42), .int a1, .int a2] μ (fX0_leads n a1 a2 μ) := Ct.of (by decide +kernel) rfl (Nat.le_of_ble_eq_true rfl) (by
  show G kX0_leads ad encI 0 [(0, .ref (ad 42)), (1, .int a1), (2, .int a2)] [] μ (fX0_leads n a1 a2 μ)
  unfold fX0_leads
  refine g_iload_n (pc := 0) 1 dX0_leads_0 rfl rfl ?_
  refine g_if_lt (pc := 1) 29 dX0_leads_1 rfl ?_ ?_
  · refine g_iconst (pc := 29) 0 dX0_leads_29 (by decide) ?_
    exact g_zreturn (pc := 30) (by decide) dX0_leads_30 rfl
  · refine g_iload_n (pc := 4) 1 dX0_leads_4 rfl rfl ?_
    refine g_aload_n (pc := 5) 0 dX0_leads_5 rfl rfl ?_
    refine g_get (pc := 6) rfl foX0_31 (v := .int (μ.1 42 4)) rfl dX0_leads_6 ?_
    refine g_icmp_ge (pc := 9) 29 dX0_leads_9 rfl ?_ ?_
    · refine g_iconst (pc := 29) 0 dX0_leads_29 (by decide) ?_
      exact g_zreturn (pc := 30) (by decide) dX0_leads_30 rfl
    · refine g_aload_n (pc := 12) 0 dX0_leads_12 rfl rfl ?_
      refine g_get (pc := 13) rfl foX0_9 (v := .ref (ad 43)) rfl dX0_leads_13 ?_
      refine g_iload_n (pc := 16) 1 dX0_leads_16 rfl rfl ?_
      refine g_iald (pc := 17) rfl (by decide) dX0_leads_17 ?_
      refine g_iload_n (pc := 18) 2 dX0_leads_18 rfl rfl ?_
      refine g_ishr' (pc := 19) dX0_leads_19 ?_
      refine g_iconst (pc := 20) 1 dX0_leads_20 (by decide) ?_
      refine g_iand (pc := 21) dX0_leads_21 ?_
      refine g_if_eq (pc := 22) 29 dX0_leads_22 rfl ?_ ?_
      · refine g_iconst (pc := 29) 0 dX0_leads_29 (by decide) ?_
        exact g_zreturn (pc := 30) (by decide) dX0_leads_30 rfl
      · refine g_iconst (pc := 25) 1 dX0_leads_25 (by decide) ?_
        refine g_goto (pc := 26) 30 dX0_leads_26 rfl ?_
        exact g_zreturn (pc := 30) (by decide) dX0_leads_30 rfl)
-- StopsByLetters$Net.comers(I)I
abbrev kX0_comers : Cfg := (RX0, cX0_comers, 4, (some .int), 1)
theorem dX0_comers_0 : decode cX0_comers 0 = .ok (.iconst 0, 1) := by decide +kernel
theorem dX0_comers_1 : decode cX0_comers 1 = .ok (.istore_n 2, 1) := by decide +kernel
theorem dX0_comers_2 : decode cX0_comers 2 = .ok (.iconst 0, 1) := by decide +kernel
theorem dX0_comers_3 : decode cX0_comers 3 = .ok (.istore_n 3, 1) := by decide +kernel
theorem dX0_comers_4 : decode cX0_comers 4 = .ok (.iload_n 3, 1) := by decide +kernel
theorem dX0_comers_5 : decode cX0_comers 5 = .ok (.aload_n 0, 1) := by decide +kernel
theorem dX0_comers_6 : decode cX0_comers 6 = .ok (.getfield 31, 3) := by decide +kernel
theorem dX0_comers_9 : decode cX0_comers 9 = .ok (.if_icmp .ge 24, 3) := by decide +kernel
theorem dX0_comers_12 : decode cX0_comers 12 = .ok (.aload_n 0, 1) := by decide +kernel
theorem dX0_comers_13 : decode cX0_comers 13 = .ok (.iload_n 3, 1) := by decide +kernel
theorem dX0_comers_14 : decode cX0_comers 14 = .ok (.iload_n 1, 1) := by decide +kernel
theorem dX0_comers_15 : decode cX0_comers 15 = .ok (.invokevirtual 38, 3) := by decide +kernel
theorem dX0_comers_18 : decode cX0_comers 18 = .ok (.ifCond .eq 9, 3) := by decide +kernel
theorem dX0_comers_21 : decode cX0_comers 21 = .ok (.iload_n 2, 1) := by decide +kernel
theorem dX0_comers_22 : decode cX0_comers 22 = .ok (.iconst 1, 1) := by decide +kernel
theorem dX0_comers_23 : decode cX0_comers 23 = .ok (.iload_n 3, 1) := by decide +kernel
theorem dX0_comers_24 : decode cX0_comers 24 = .ok (.ishl, 1) := by decide +kernel
theorem dX0_comers_25 : decode cX0_comers 25 = .ok (.ior, 1) := by decide +kernel
theorem dX0_comers_26 : decode cX0_comers 26 = .ok (.istore_n 2, 1) := by decide +kernel
theorem dX0_comers_27 : decode cX0_comers 27 = .ok (.iinc 3 1, 3) := by decide +kernel
theorem dX0_comers_30 : decode cX0_comers 30 = .ok (.goto (-26), 3) := by decide +kernel
theorem dX0_comers_33 : decode cX0_comers 33 = .ok (.iload_n 2, 1) := by decide +kernel
theorem dX0_comers_34 : decode cX0_comers 34 = .ok (.ireturn, 1) := by decide +kernel
def fX0_comers_L4 (n : Nat) (v1 : Int32) : Nat → Int32 → Int32 → Mem → Option (Int32 × Mem)
  | 0, _, _, _ => none
  | F + 1, v2, v3, μ => if (μ.1 42 4) ≤ v3 then some (v2, μ) else bd (fX0_comes n v3 v1 μ) (fun r2 m1 => if r2 = 0 then bnd (v3 + 1) (fun x3 => fX0_comers_L4 n v1 F v2 x3 m1) else bnd (v2 ||| (jshl 1 v3)) (fun x4 => bnd (v3 + 1) (fun x5 => fX0_comers_L4 n v1 F x4 x5 m1)))
def fX0_comers (n : Nat) (a1 : Int32) (μ : Mem) : Option (Int32 × Mem) :=
  fX0_comers_L4 n a1 n 0 0 μ
set_option maxHeartbeats 4000000 in
set_option maxRecDepth 100000 in
theorem wX0_comers_L4 (ad : Nat → Nat) (n : Nat) (v1 : Int32) : ∀ (F : Nat) (v2 : Int32) (v3 : Int32) (μ : Mem), G kX0_comers ad encI 4 [(0, .ref (ad 42)), (1, .int v1), (2, .int v2), (3, .int v3)] [] μ (fX0_comers_L4 n v1 F v2 v3 μ) := by
  intro F
  induction F with
  | zero =>
    intro v2 v3 μ
    exact g_none
  | succ F ih =>
    intro v2 v3 μ
    rw [fX0_comers_L4]
    refine g_iload_n (pc := 4) 3 dX0_comers_4 rfl rfl ?_
    refine g_aload_n (pc := 5) 0 dX0_comers_5 rfl rfl ?_
    refine g_get (pc := 6) rfl foX0_31 (v := .int (μ.1 42 4)) rfl dX0_comers_6 ?_
    refine g_icmp_ge (pc := 9) 33 dX0_comers_9 rfl ?_ ?_
    · refine g_iload_n (pc := 33) 2 dX0_comers_33 rfl rfl ?_
      exact g_ireturn (pc := 34) dX0_comers_34 rfl
    · refine g_aload_n (pc := 12) 0 dX0_comers_12 rfl rfl ?_
      refine g_iload_n (pc := 13) 3 dX0_comers_13 rfl rfl ?_
      refine g_iload_n (pc := 14) 1 dX0_comers_14 rfl rfl ?_
      refine g_cVI (pc := 15) (st := []) [.int v3, .int v1] rfl rfl moX0_comes lnX0_38 (ctX0_comes ad n v3 v1 μ) rfl ⟨Nat.le_of_ble_eq_true rfl, Nat.le_of_ble_eq_true rfl⟩ rfl (Nat.le_of_ble_eq_true rfl) dX0_comers_15 (fun r2 m1 => ?_)
      refine g_if_eq (pc := 18) 27 dX0_comers_18 rfl ?_ ?_
      · refine g_iincB (pc := 27) 3 1 1 (fun x3 => [(3, .int x3), (0, .ref (ad 42)), (1, .int v1), (2, .int v2)]) dX0_comers_27 rfl (by decide) (by decide) (fun _ => rfl) (fun x3 => ?_)
        refine g_goto (pc := 30) 4 dX0_comers_30 rfl ?_
        exact g_sub [1, 2, 3, 0] rfl (ih v2 x3 m1)
      · refine g_iload_n (pc := 21) 2 dX0_comers_21 rfl rfl ?_
        refine g_iconst (pc := 22) 1 dX0_comers_22 (by decide) ?_
        refine g_iload_n (pc := 23) 3 dX0_comers_23 rfl rfl ?_
        refine g_ishl' (pc := 24) dX0_comers_24 ?_
        refine g_ior (pc := 25) dX0_comers_25 ?_
        refine g_istore_nB (pc := 26) (fun x4 => [(2, .int x4), (0, .ref (ad 42)), (1, .int v1), (3, .int v3)]) dX0_comers_26 rfl (by decide) (fun _ => rfl) (fun x4 => ?_)
        refine g_iincB (pc := 27) 3 1 1 (fun x5 => [(3, .int x5), (2, .int x4), (0, .ref (ad 42)), (1, .int v1)]) dX0_comers_27 rfl (by decide) (by decide) (fun _ => rfl) (fun x5 => ?_)
        refine g_goto (pc := 30) 4 dX0_comers_30 rfl ?_
        exact g_sub [2, 3, 1, 0] rfl (ih x4 x5 m1)
set_option maxHeartbeats 4000000 in
set_option maxRecDepth 100000 in
theorem ctX0_comers (ad : Nat → Nat) (n : Nat) (a1 : Int32) (μ : Mem) : Ct yX0_comers kX0_comers ad encI [.ref (ad 42), .int a1] μ (fX0_comers n a1 μ) := Ct.of (by decide +kernel) rfl (Nat.le_of_ble_eq_true rfl) (by
  show G kX0_comers ad encI 0 [(0, .ref (ad 42)), (1, .int a1)] [] μ (fX0_comers n a1 μ)
  unfold fX0_comers
  refine g_iconst (pc := 0) 0 dX0_comers_0 (by decide) ?_
  refine g_istore_n (pc := 1) [(2, .int 0), (0, .ref (ad 42)), (1, .int a1)] dX0_comers_1 rfl (by decide) rfl ?_
  refine g_iconst (pc := 2) 0 dX0_comers_2 (by decide) ?_
  refine g_istore_n (pc := 3) [(3, .int 0), (2, .int 0), (0, .ref (ad 42)), (1, .int a1)] dX0_comers_3 rfl (by decide) rfl ?_
  exact g_sub [2, 3, 1, 0] rfl (wX0_comers_L4 ad n a1 n 0 0 μ))
-- StopsByLetters$Net.oneRideFrom(I)I
abbrev kX0_oneRideFrom : Cfg := (RX0, cX0_oneRideFrom, 4, (some .int), 0)
theorem dX0_oneRideFrom_0 : decode cX0_oneRideFrom 0 = .ok (.iconst 0, 1) := by decide +kernel
theorem dX0_oneRideFrom_1 : decode cX0_oneRideFrom 1 = .ok (.istore_n 2, 1) := by decide +kernel
theorem dX0_oneRideFrom_2 : decode cX0_oneRideFrom 2 = .ok (.iconst 0, 1) := by decide +kernel
theorem dX0_oneRideFrom_3 : decode cX0_oneRideFrom 3 = .ok (.istore_n 3, 1) := by decide +kernel
theorem dX0_oneRideFrom_4 : decode cX0_oneRideFrom 4 = .ok (.iload_n 3, 1) := by decide +kernel
theorem dX0_oneRideFrom_5 : decode cX0_oneRideFrom 5 = .ok (.aload_n 0, 1) := by decide +kernel
theorem dX0_oneRideFrom_6 : decode cX0_oneRideFrom 6 = .ok (.getfield 31, 3) := by decide +kernel
theorem dX0_oneRideFrom_9 : decode cX0_oneRideFrom 9 = .ok (.if_icmp .ge 26, 3) := by decide +kernel
theorem dX0_oneRideFrom_12 : decode cX0_oneRideFrom 12 = .ok (.iload_n 1, 1) := by decide +kernel
theorem dX0_oneRideFrom_13 : decode cX0_oneRideFrom 13 = .ok (.iload_n 3, 1) := by decide +kernel
theorem dX0_oneRideFrom_14 : decode cX0_oneRideFrom 14 = .ok (.ishr, 1) := by decide +kernel
theorem dX0_oneRideFrom_15 : decode cX0_oneRideFrom 15 = .ok (.iconst 1, 1) := by decide +kernel
theorem dX0_oneRideFrom_16 : decode cX0_oneRideFrom 16 = .ok (.iand, 1) := by decide +kernel
theorem dX0_oneRideFrom_17 : decode cX0_oneRideFrom 17 = .ok (.ifCond .eq 12, 3) := by decide +kernel
theorem dX0_oneRideFrom_20 : decode cX0_oneRideFrom 20 = .ok (.iload_n 2, 1) := by decide +kernel
theorem dX0_oneRideFrom_21 : decode cX0_oneRideFrom 21 = .ok (.aload_n 0, 1) := by decide +kernel
theorem dX0_oneRideFrom_22 : decode cX0_oneRideFrom 22 = .ok (.getfield 9, 3) := by decide +kernel
theorem dX0_oneRideFrom_25 : decode cX0_oneRideFrom 25 = .ok (.iload_n 3, 1) := by decide +kernel
theorem dX0_oneRideFrom_26 : decode cX0_oneRideFrom 26 = .ok (.iaload, 1) := by decide +kernel
theorem dX0_oneRideFrom_27 : decode cX0_oneRideFrom 27 = .ok (.ior, 1) := by decide +kernel
theorem dX0_oneRideFrom_28 : decode cX0_oneRideFrom 28 = .ok (.istore_n 2, 1) := by decide +kernel
theorem dX0_oneRideFrom_29 : decode cX0_oneRideFrom 29 = .ok (.iinc 3 1, 3) := by decide +kernel
theorem dX0_oneRideFrom_32 : decode cX0_oneRideFrom 32 = .ok (.goto (-28), 3) := by decide +kernel
theorem dX0_oneRideFrom_35 : decode cX0_oneRideFrom 35 = .ok (.iload_n 2, 1) := by decide +kernel
theorem dX0_oneRideFrom_36 : decode cX0_oneRideFrom 36 = .ok (.ireturn, 1) := by decide +kernel
def fX0_oneRideFrom_L4 (n : Nat) (v1 : Int32) : Nat → Int32 → Int32 → Mem → Option (Int32 × Mem)
  | 0, _, _, _ => none
  | F + 1, v2, v3, μ => if (μ.1 42 4) ≤ v3 then some (v2, μ) else if ((jshr v1 v3) &&& 1) = 0 then bnd (v3 + 1) (fun x1 => fX0_oneRideFrom_L4 n v1 F v2 x1 μ) else gd (inb v3 8) (bnd (v2 ||| (μ.1 43 (Int32.toNatClampNeg v3))) (fun x2 => bnd (v3 + 1) (fun x3 => fX0_oneRideFrom_L4 n v1 F x2 x3 μ)))
def fX0_oneRideFrom (n : Nat) (a1 : Int32) (μ : Mem) : Option (Int32 × Mem) :=
  fX0_oneRideFrom_L4 n a1 n 0 0 μ
set_option maxHeartbeats 4000000 in
set_option maxRecDepth 100000 in
theorem wX0_oneRideFrom_L4 (ad : Nat → Nat) (n : Nat) (v1 : Int32) : ∀ (F : Nat) (v2 : Int32) (v3 : Int32) (μ : Mem), G kX0_oneRideFrom ad encI 4 [(0, .ref (ad 42)), (1, .int v1), (2, .int v2), (3, .int v3)] [] μ (fX0_oneRideFrom_L4 n v1 F v2 v3 μ) := by
  intro F
  induction F with
  | zero =>
    intro v2 v3 μ
    exact g_none
  | succ F ih =>
    intro v2 v3 μ
    rw [fX0_oneRideFrom_L4]
    refine g_iload_n (pc := 4) 3 dX0_oneRideFrom_4 rfl rfl ?_
    refine g_aload_n (pc := 5) 0 dX0_oneRideFrom_5 rfl rfl ?_
    refine g_get (pc := 6) rfl foX0_31 (v := .int (μ.1 42 4)) rfl dX0_oneRideFrom_6 ?_
    refine g_icmp_ge (pc := 9) 35 dX0_oneRideFrom_9 rfl ?_ ?_
    · refine g_iload_n (pc := 35) 2 dX0_oneRideFrom_35 rfl rfl ?_
      exact g_ireturn (pc := 36) dX0_oneRideFrom_36 rfl
    · refine g_iload_n (pc := 12) 1 dX0_oneRideFrom_12 rfl rfl ?_
      refine g_iload_n (pc := 13) 3 dX0_oneRideFrom_13 rfl rfl ?_
      refine g_ishr' (pc := 14) dX0_oneRideFrom_14 ?_
      refine g_iconst (pc := 15) 1 dX0_oneRideFrom_15 (by decide) ?_
      refine g_iand (pc := 16) dX0_oneRideFrom_16 ?_
      refine g_if_eq (pc := 17) 29 dX0_oneRideFrom_17 rfl ?_ ?_
      · refine g_iincB (pc := 29) 3 1 1 (fun x1 => [(3, .int x1), (0, .ref (ad 42)), (1, .int v1), (2, .int v2)]) dX0_oneRideFrom_29 rfl (by decide) (by decide) (fun _ => rfl) (fun x1 => ?_)
        refine g_goto (pc := 32) 4 dX0_oneRideFrom_32 rfl ?_
        exact g_sub [1, 2, 3, 0] rfl (ih v2 x1 μ)
      · refine g_iload_n (pc := 20) 2 dX0_oneRideFrom_20 rfl rfl ?_
        refine g_aload_n (pc := 21) 0 dX0_oneRideFrom_21 rfl rfl ?_
        refine g_get (pc := 22) rfl foX0_9 (v := .ref (ad 43)) rfl dX0_oneRideFrom_22 ?_
        refine g_iload_n (pc := 25) 3 dX0_oneRideFrom_25 rfl rfl ?_
        refine g_iald (pc := 26) rfl (by decide) dX0_oneRideFrom_26 ?_
        refine g_ior (pc := 27) dX0_oneRideFrom_27 ?_
        refine g_istore_nB (pc := 28) (fun x2 => [(2, .int x2), (0, .ref (ad 42)), (1, .int v1), (3, .int v3)]) dX0_oneRideFrom_28 rfl (by decide) (fun _ => rfl) (fun x2 => ?_)
        refine g_iincB (pc := 29) 3 1 1 (fun x3 => [(3, .int x3), (2, .int x2), (0, .ref (ad 42)), (1, .int v1)]) dX0_oneRideFrom_29 rfl (by decide) (by decide) (fun _ => rfl) (fun x3 => ?_)
        refine g_goto (pc := 32) 4 dX0_oneRideFrom_32 rfl ?_
        exact g_sub [2, 3, 1, 0] rfl (ih x2 x3 μ)
set_option maxHeartbeats 4000000 in
set_option maxRecDepth 100000 in
theorem ctX0_oneRideFrom (ad : Nat → Nat) (n : Nat) (a1 : Int32) (μ : Mem) : Ct yX0_oneRideFrom kX0_oneRideFrom ad encI [.ref (ad 42), .int a1] μ (fX0_oneRideFrom n a1 μ) := Ct.of (by decide +kernel) rfl (Nat.le_of_ble_eq_true rfl) (by
  show G kX0_oneRideFrom ad encI 0 [(0, .ref (ad 42)), (1, .int a1)] [] μ (fX0_oneRideFrom n a1 μ)
  unfold fX0_oneRideFrom
  refine g_iconst (pc := 0) 0 dX0_oneRideFrom_0 (by decide) ?_
  refine g_istore_n (pc := 1) [(2, .int 0), (0, .ref (ad 42)), (1, .int a1)] dX0_oneRideFrom_1 rfl (by decide) rfl ?_
  refine g_iconst (pc := 2) 0 dX0_oneRideFrom_2 (by decide) ?_
  refine g_istore_n (pc := 3) [(3, .int 0), (2, .int 0), (0, .ref (ad 42)), (1, .int a1)] dX0_oneRideFrom_3 rfl (by decide) rfl ?_
  exact g_sub [2, 3, 1, 0] rfl (wX0_oneRideFrom_L4 ad n a1 n 0 0 μ))
-- StopsByLetters$Net.fewest(II)I
abbrev kX0_fewest : Cfg := (RX0, cX0_fewest, 5, (some .int), 1)
theorem dX0_fewest_0 : decode cX0_fewest 0 = .ok (.iconst 1, 1) := by decide +kernel
theorem dX0_fewest_1 : decode cX0_fewest 1 = .ok (.iload_n 1, 1) := by decide +kernel
theorem dX0_fewest_2 : decode cX0_fewest 2 = .ok (.ishl, 1) := by decide +kernel
theorem dX0_fewest_3 : decode cX0_fewest 3 = .ok (.istore_n 3, 1) := by decide +kernel
theorem dX0_fewest_4 : decode cX0_fewest 4 = .ok (.iconst 0, 1) := by decide +kernel
theorem dX0_fewest_5 : decode cX0_fewest 5 = .ok (.istore 4, 2) := by decide +kernel
theorem dX0_fewest_7 : decode cX0_fewest 7 = .ok (.iload 4, 2) := by decide +kernel
theorem dX0_fewest_9 : decode cX0_fewest 9 = .ok (.bipush 8, 2) := by decide +kernel
theorem dX0_fewest_11 : decode cX0_fewest 11 = .ok (.if_icmp .ge 28, 3) := by decide +kernel
theorem dX0_fewest_14 : decode cX0_fewest 14 = .ok (.iload_n 3, 1) := by decide +kernel
theorem dX0_fewest_15 : decode cX0_fewest 15 = .ok (.iload_n 2, 1) := by decide +kernel
theorem dX0_fewest_16 : decode cX0_fewest 16 = .ok (.ishr, 1) := by decide +kernel
theorem dX0_fewest_17 : decode cX0_fewest 17 = .ok (.iconst 1, 1) := by decide +kernel
theorem dX0_fewest_18 : decode cX0_fewest 18 = .ok (.iand, 1) := by decide +kernel
theorem dX0_fewest_19 : decode cX0_fewest 19 = .ok (.ifCond .eq 6, 3) := by decide +kernel
theorem dX0_fewest_22 : decode cX0_fewest 22 = .ok (.iload 4, 2) := by decide +kernel
theorem dX0_fewest_24 : decode cX0_fewest 24 = .ok (.ireturn, 1) := by decide +kernel
theorem dX0_fewest_25 : decode cX0_fewest 25 = .ok (.iload_n 3, 1) := by decide +kernel
theorem dX0_fewest_26 : decode cX0_fewest 26 = .ok (.aload_n 0, 1) := by decide +kernel
theorem dX0_fewest_27 : decode cX0_fewest 27 = .ok (.iload_n 3, 1) := by decide +kernel
theorem dX0_fewest_28 : decode cX0_fewest 28 = .ok (.invokevirtual 42, 3) := by decide +kernel
theorem dX0_fewest_31 : decode cX0_fewest 31 = .ok (.ior, 1) := by decide +kernel
theorem dX0_fewest_32 : decode cX0_fewest 32 = .ok (.istore_n 3, 1) := by decide +kernel
theorem dX0_fewest_33 : decode cX0_fewest 33 = .ok (.iinc 4 1, 3) := by decide +kernel
theorem dX0_fewest_36 : decode cX0_fewest 36 = .ok (.goto (-29), 3) := by decide +kernel
theorem dX0_fewest_39 : decode cX0_fewest 39 = .ok (.bipush (-9), 2) := by decide +kernel
theorem dX0_fewest_41 : decode cX0_fewest 41 = .ok (.ireturn, 1) := by decide +kernel
theorem lnX0_42 : Ln RX0 42 yX0_oneRideFrom := Or.inl (tb_in 437 (by decide +kernel) rfl)
theorem moX0_oneRideFrom : Mv yX0_oneRideFrom kX0_oneRideFrom 1 := ⟨⟨tb_in 440 (by decide +kernel) rfl, tb_in 91 (by decide +kernel) rfl, ⟨by decide, by decide⟩, by decide +kernel⟩, tb_in 439 (by decide +kernel) rfl, tb_in 19 (by decide +kernel) rfl⟩
def fX0_fewest_L7 (n : Nat) (v2 : Int32) : Nat → Int32 → Int32 → Mem → Option (Int32 × Mem)
  | 0, _, _, _ => none
  | F + 1, v3, v4, μ => if 8 ≤ v4 then some ((-9), μ) else if ((jshr v3 v2) &&& 1) = 0 then bd (fX0_oneRideFrom n v3 μ) (fun r3 m2 => bnd (v3 ||| r3) (fun x4 => bnd (v4 + 1) (fun x5 => fX0_fewest_L7 n v2 F x4 x5 m2))) else some (v4, μ)
def fX0_fewest (n : Nat) (a1 : Int32) (a2 : Int32) (μ : Mem) : Option (Int32 × Mem) :=
  bnd (jshl 1 a1) (fun x1 => fX0_fewest_L7 n a2 n x1 0 μ)
set_option maxHeartbeats 4000000 in
set_option maxRecDepth 100000 in
theorem wX0_fewest_L7 (ad : Nat → Nat) (n : Nat) (v2 : Int32) : ∀ (F : Nat) (v3 : Int32) (v4 : Int32) (μ : Mem), G kX0_fewest ad encI 7 [(0, .ref (ad 42)), (2, .int v2), (3, .int v3), (4, .int v4)] [] μ (fX0_fewest_L7 n v2 F v3 v4 μ) := by
  intro F
  induction F with
  | zero =>
    intro v3 v4 μ
    exact g_none
  | succ F ih =>
    intro v3 v4 μ
    rw [fX0_fewest_L7]
    refine g_iload (pc := 7) 3 dX0_fewest_7 rfl ?_
    refine g_bipush (pc := 9) 8 dX0_fewest_9 (by decide) ?_
    refine g_icmp_ge (pc := 11) 39 dX0_fewest_11 rfl ?_ ?_
    · refine g_bipush (pc := 39) (-9) dX0_fewest_39 (by decide) ?_
      exact g_ireturn (pc := 41) dX0_fewest_41 rfl
    · refine g_iload_n (pc := 14) 2 dX0_fewest_14 rfl rfl ?_
      refine g_iload_n (pc := 15) 1 dX0_fewest_15 rfl rfl ?_
      refine g_ishr' (pc := 16) dX0_fewest_16 ?_
      refine g_iconst (pc := 17) 1 dX0_fewest_17 (by decide) ?_
      refine g_iand (pc := 18) dX0_fewest_18 ?_
      refine g_if_eq (pc := 19) 25 dX0_fewest_19 rfl ?_ ?_
      · refine g_iload_n (pc := 25) 2 dX0_fewest_25 rfl rfl ?_
        refine g_aload_n (pc := 26) 0 dX0_fewest_26 rfl rfl ?_
        refine g_iload_n (pc := 27) 2 dX0_fewest_27 rfl rfl ?_
        refine g_cVI (pc := 28) (st := [.int v3]) [.int v3] rfl rfl moX0_oneRideFrom lnX0_42 (ctX0_oneRideFrom ad n v3 μ) rfl ⟨Nat.le_of_ble_eq_true rfl, Nat.le_of_ble_eq_true rfl⟩ rfl (Nat.le_of_ble_eq_true rfl) dX0_fewest_28 (fun r3 m2 => ?_)
        refine g_ior (pc := 31) dX0_fewest_31 ?_
        refine g_istore_nB (pc := 32) (fun x4 => [(3, .int x4), (0, .ref (ad 42)), (2, .int v2), (4, .int v4)]) dX0_fewest_32 rfl (by decide) (fun _ => rfl) (fun x4 => ?_)
        refine g_iincB (pc := 33) 3 1 1 (fun x5 => [(4, .int x5), (3, .int x4), (0, .ref (ad 42)), (2, .int v2)]) dX0_fewest_33 rfl (by decide) (by decide) (fun _ => rfl) (fun x5 => ?_)
        refine g_goto (pc := 36) 7 dX0_fewest_36 rfl ?_
        exact g_sub [2, 3, 1, 0] rfl (ih x4 x5 m2)
      · refine g_iload (pc := 22) 3 dX0_fewest_22 rfl ?_
        exact g_ireturn (pc := 24) dX0_fewest_24 rfl
set_option maxHeartbeats 4000000 in
set_option maxRecDepth 100000 in
theorem ctX0_fewest (ad : Nat → Nat) (n : Nat) (a1 : Int32) (a2 : Int32) (μ : Mem) : Ct yX0_fewest kX0_fewest ad encI [.ref (ad 42), .int a1, .int a2] μ (fX0_fewest n a1 a2 μ) := Ct.of (by decide +kernel) rfl (Nat.le_of_ble_eq_true rfl) (by
  show G kX0_fewest ad encI 0 [(0, .ref (ad 42)), (1, .int a1), (2, .int a2)] [] μ (fX0_fewest n a1 a2 μ)
  unfold fX0_fewest
  refine g_iconst (pc := 0) 1 dX0_fewest_0 (by decide) ?_
  refine g_iload_n (pc := 1) 1 dX0_fewest_1 rfl rfl ?_
  refine g_ishl' (pc := 2) dX0_fewest_2 ?_
  refine g_istore_nB (pc := 3) (fun x1 => [(3, .int x1), (0, .ref (ad 42)), (1, .int a1), (2, .int a2)]) dX0_fewest_3 rfl (by decide) (fun _ => rfl) (fun x1 => ?_)
  refine g_iconst (pc := 4) 0 dX0_fewest_4 (by decide) ?_
  refine g_istore (pc := 5) [(4, .int 0), (3, .int x1), (0, .ref (ad 42)), (1, .int a1), (2, .int a2)] dX0_fewest_5 (by decide) rfl ?_
  exact g_sub [2, 4, 1, 0] rfl (wX0_fewest_L7 ad n a2 n x1 0 μ))
-- StopsByLetters$Net.unvisited()I
abbrev kX0_unvisited : Cfg := (RX0, cX0_unvisited, 3, (some .int), 0)
theorem dX0_unvisited_0 : decode cX0_unvisited 0 = .ok (.iconst 0, 1) := by decide +kernel
theorem dX0_unvisited_1 : decode cX0_unvisited 1 = .ok (.istore_n 1, 1) := by decide +kernel
theorem dX0_unvisited_2 : decode cX0_unvisited 2 = .ok (.iconst 0, 1) := by decide +kernel
theorem dX0_unvisited_3 : decode cX0_unvisited 3 = .ok (.istore_n 2, 1) := by decide +kernel
theorem dX0_unvisited_4 : decode cX0_unvisited 4 = .ok (.iload_n 2, 1) := by decide +kernel
theorem dX0_unvisited_5 : decode cX0_unvisited 5 = .ok (.aload_n 0, 1) := by decide +kernel
theorem dX0_unvisited_6 : decode cX0_unvisited 6 = .ok (.getfield 31, 3) := by decide +kernel
theorem dX0_unvisited_9 : decode cX0_unvisited 9 = .ok (.if_icmp .ge 24, 3) := by decide +kernel
theorem dX0_unvisited_12 : decode cX0_unvisited 12 = .ok (.iload_n 1, 1) := by decide +kernel
theorem dX0_unvisited_13 : decode cX0_unvisited 13 = .ok (.aload_n 0, 1) := by decide +kernel
theorem dX0_unvisited_14 : decode cX0_unvisited 14 = .ok (.getfield 9, 3) := by decide +kernel
theorem dX0_unvisited_17 : decode cX0_unvisited 17 = .ok (.iload_n 2, 1) := by decide +kernel
theorem dX0_unvisited_18 : decode cX0_unvisited 18 = .ok (.iaload, 1) := by decide +kernel
theorem dX0_unvisited_19 : decode cX0_unvisited 19 = .ok (.iconst 1, 1) := by decide +kernel
theorem dX0_unvisited_20 : decode cX0_unvisited 20 = .ok (.iload_n 2, 1) := by decide +kernel
theorem dX0_unvisited_21 : decode cX0_unvisited 21 = .ok (.ishl, 1) := by decide +kernel
theorem dX0_unvisited_22 : decode cX0_unvisited 22 = .ok (.iconst (-1), 1) := by decide +kernel
theorem dX0_unvisited_23 : decode cX0_unvisited 23 = .ok (.ixor, 1) := by decide +kernel
theorem dX0_unvisited_24 : decode cX0_unvisited 24 = .ok (.iand, 1) := by decide +kernel
theorem dX0_unvisited_25 : decode cX0_unvisited 25 = .ok (.ior, 1) := by decide +kernel
theorem dX0_unvisited_26 : decode cX0_unvisited 26 = .ok (.istore_n 1, 1) := by decide +kernel
theorem dX0_unvisited_27 : decode cX0_unvisited 27 = .ok (.iinc 2 1, 3) := by decide +kernel
theorem dX0_unvisited_30 : decode cX0_unvisited 30 = .ok (.goto (-26), 3) := by decide +kernel
theorem dX0_unvisited_33 : decode cX0_unvisited 33 = .ok (.iconst 1, 1) := by decide +kernel
theorem dX0_unvisited_34 : decode cX0_unvisited 34 = .ok (.aload_n 0, 1) := by decide +kernel
theorem dX0_unvisited_35 : decode cX0_unvisited 35 = .ok (.getfield 31, 3) := by decide +kernel
theorem dX0_unvisited_38 : decode cX0_unvisited 38 = .ok (.ishl, 1) := by decide +kernel
theorem dX0_unvisited_39 : decode cX0_unvisited 39 = .ok (.iconst 1, 1) := by decide +kernel
theorem dX0_unvisited_40 : decode cX0_unvisited 40 = .ok (.isub, 1) := by decide +kernel
theorem dX0_unvisited_41 : decode cX0_unvisited 41 = .ok (.iload_n 1, 1) := by decide +kernel
theorem dX0_unvisited_42 : decode cX0_unvisited 42 = .ok (.iconst (-1), 1) := by decide +kernel
theorem dX0_unvisited_43 : decode cX0_unvisited 43 = .ok (.ixor, 1) := by decide +kernel
theorem dX0_unvisited_44 : decode cX0_unvisited 44 = .ok (.iand, 1) := by decide +kernel
theorem dX0_unvisited_45 : decode cX0_unvisited 45 = .ok (.ireturn, 1) := by decide +kernel
def fX0_unvisited_L4 (n : Nat) : Nat → Int32 → Int32 → Mem → Option (Int32 × Mem)
  | 0, _, _, _ => none
  | F + 1, v1, v2, μ => if (μ.1 42 4) ≤ v2 then some ((((jshl 1 (μ.1 42 4)) - 1) &&& (v1 ^^^ (-1))), μ) else gd (inb v2 8) (bnd (v1 ||| ((μ.1 43 (Int32.toNatClampNeg v2)) &&& ((jshl 1 v2) ^^^ (-1)))) (fun x1 => bnd (v2 + 1) (fun x2 => fX0_unvisited_L4 n F x1 x2 μ)))
def fX0_unvisited (n : Nat) (μ : Mem) : Option (Int32 × Mem) :=
  fX0_unvisited_L4 n n 0 0 μ
set_option maxHeartbeats 4000000 in
set_option maxRecDepth 100000 in
theorem wX0_unvisited_L4 (ad : Nat → Nat) (n : Nat) : ∀ (F : Nat) (v1 : Int32) (v2 : Int32) (μ : Mem), G kX0_unvisited ad encI 4 [(0, .ref (ad 42)), (1, .int v1), (2, .int v2)] [] μ (fX0_unvisited_L4 n F v1 v2 μ) := by
  intro F
  induction F with
  | zero =>
    intro v1 v2 μ
    exact g_none
  | succ F ih =>
    intro v1 v2 μ
    rw [fX0_unvisited_L4]
    refine g_iload_n (pc := 4) 2 dX0_unvisited_4 rfl rfl ?_
    refine g_aload_n (pc := 5) 0 dX0_unvisited_5 rfl rfl ?_
    refine g_get (pc := 6) rfl foX0_31 (v := .int (μ.1 42 4)) rfl dX0_unvisited_6 ?_
    refine g_icmp_ge (pc := 9) 33 dX0_unvisited_9 rfl ?_ ?_
    · refine g_iconst (pc := 33) 1 dX0_unvisited_33 (by decide) ?_
      refine g_aload_n (pc := 34) 0 dX0_unvisited_34 rfl rfl ?_
      refine g_get (pc := 35) rfl foX0_31 (v := .int (μ.1 42 4)) rfl dX0_unvisited_35 ?_
      refine g_ishl' (pc := 38) dX0_unvisited_38 ?_
      refine g_iconst (pc := 39) 1 dX0_unvisited_39 (by decide) ?_
      refine g_isub (pc := 40) dX0_unvisited_40 ?_
      refine g_iload_n (pc := 41) 1 dX0_unvisited_41 rfl rfl ?_
      refine g_iconst (pc := 42) (-1) dX0_unvisited_42 (by decide) ?_
      refine g_ixor (pc := 43) dX0_unvisited_43 ?_
      refine g_iand (pc := 44) dX0_unvisited_44 ?_
      exact g_ireturn (pc := 45) dX0_unvisited_45 rfl
    · refine g_iload_n (pc := 12) 1 dX0_unvisited_12 rfl rfl ?_
      refine g_aload_n (pc := 13) 0 dX0_unvisited_13 rfl rfl ?_
      refine g_get (pc := 14) rfl foX0_9 (v := .ref (ad 43)) rfl dX0_unvisited_14 ?_
      refine g_iload_n (pc := 17) 2 dX0_unvisited_17 rfl rfl ?_
      refine g_iald (pc := 18) rfl (by decide) dX0_unvisited_18 ?_
      refine g_iconst (pc := 19) 1 dX0_unvisited_19 (by decide) ?_
      refine g_iload_n (pc := 20) 2 dX0_unvisited_20 rfl rfl ?_
      refine g_ishl' (pc := 21) dX0_unvisited_21 ?_
      refine g_iconst (pc := 22) (-1) dX0_unvisited_22 (by decide) ?_
      refine g_ixor (pc := 23) dX0_unvisited_23 ?_
      refine g_iand (pc := 24) dX0_unvisited_24 ?_
      refine g_ior (pc := 25) dX0_unvisited_25 ?_
      refine g_istore_nB (pc := 26) (fun x1 => [(1, .int x1), (0, .ref (ad 42)), (2, .int v2)]) dX0_unvisited_26 rfl (by decide) (fun _ => rfl) (fun x1 => ?_)
      refine g_iincB (pc := 27) 2 1 1 (fun x2 => [(2, .int x2), (1, .int x1), (0, .ref (ad 42))]) dX0_unvisited_27 rfl (by decide) (by decide) (fun _ => rfl) (fun x2 => ?_)
      refine g_goto (pc := 30) 4 dX0_unvisited_30 rfl ?_
      exact g_sub [2, 1, 0] rfl (ih x1 x2 μ)
set_option maxHeartbeats 4000000 in
set_option maxRecDepth 100000 in
theorem ctX0_unvisited (ad : Nat → Nat) (n : Nat) (μ : Mem) : Ct yX0_unvisited kX0_unvisited ad encI [.ref (ad 42)] μ (fX0_unvisited n μ) := Ct.of (by decide +kernel) rfl (Nat.le_of_ble_eq_true rfl) (by
  show G kX0_unvisited ad encI 0 [(0, .ref (ad 42))] [] μ (fX0_unvisited n μ)
  unfold fX0_unvisited
  refine g_iconst (pc := 0) 0 dX0_unvisited_0 (by decide) ?_
  refine g_istore_n (pc := 1) [(1, .int 0), (0, .ref (ad 42))] dX0_unvisited_1 rfl (by decide) rfl ?_
  refine g_iconst (pc := 2) 0 dX0_unvisited_2 (by decide) ?_
  refine g_istore_n (pc := 3) [(2, .int 0), (1, .int 0), (0, .ref (ad 42))] dX0_unvisited_3 rfl (by decide) rfl ?_
  exact g_sub [2, 1, 0] rfl (wX0_unvisited_L4 ad n n 0 0 μ))
-- StopsByLetters$Net.unleft()I
abbrev kX0_unleft : Cfg := (RX0, cX0_unleft, 3, (some .int), 0)
theorem dX0_unleft_0 : decode cX0_unleft 0 = .ok (.iconst 0, 1) := by decide +kernel
theorem dX0_unleft_1 : decode cX0_unleft 1 = .ok (.istore_n 1, 1) := by decide +kernel
theorem dX0_unleft_2 : decode cX0_unleft 2 = .ok (.iconst 0, 1) := by decide +kernel
theorem dX0_unleft_3 : decode cX0_unleft 3 = .ok (.istore_n 2, 1) := by decide +kernel
theorem dX0_unleft_4 : decode cX0_unleft 4 = .ok (.iload_n 2, 1) := by decide +kernel
theorem dX0_unleft_5 : decode cX0_unleft 5 = .ok (.aload_n 0, 1) := by decide +kernel
theorem dX0_unleft_6 : decode cX0_unleft 6 = .ok (.getfield 31, 3) := by decide +kernel
theorem dX0_unleft_9 : decode cX0_unleft 9 = .ok (.if_icmp .ge 30, 3) := by decide +kernel
theorem dX0_unleft_12 : decode cX0_unleft 12 = .ok (.aload_n 0, 1) := by decide +kernel
theorem dX0_unleft_13 : decode cX0_unleft 13 = .ok (.getfield 9, 3) := by decide +kernel
theorem dX0_unleft_16 : decode cX0_unleft 16 = .ok (.iload_n 2, 1) := by decide +kernel
theorem dX0_unleft_17 : decode cX0_unleft 17 = .ok (.iaload, 1) := by decide +kernel
theorem dX0_unleft_18 : decode cX0_unleft 18 = .ok (.iconst 1, 1) := by decide +kernel
theorem dX0_unleft_19 : decode cX0_unleft 19 = .ok (.iload_n 2, 1) := by decide +kernel
theorem dX0_unleft_20 : decode cX0_unleft 20 = .ok (.ishl, 1) := by decide +kernel
theorem dX0_unleft_21 : decode cX0_unleft 21 = .ok (.iconst (-1), 1) := by decide +kernel
theorem dX0_unleft_22 : decode cX0_unleft 22 = .ok (.ixor, 1) := by decide +kernel
theorem dX0_unleft_23 : decode cX0_unleft 23 = .ok (.iand, 1) := by decide +kernel
theorem dX0_unleft_24 : decode cX0_unleft 24 = .ok (.ifCond .ne 9, 3) := by decide +kernel
theorem dX0_unleft_27 : decode cX0_unleft 27 = .ok (.iload_n 1, 1) := by decide +kernel
theorem dX0_unleft_28 : decode cX0_unleft 28 = .ok (.iconst 1, 1) := by decide +kernel
theorem dX0_unleft_29 : decode cX0_unleft 29 = .ok (.iload_n 2, 1) := by decide +kernel
theorem dX0_unleft_30 : decode cX0_unleft 30 = .ok (.ishl, 1) := by decide +kernel
theorem dX0_unleft_31 : decode cX0_unleft 31 = .ok (.ior, 1) := by decide +kernel
theorem dX0_unleft_32 : decode cX0_unleft 32 = .ok (.istore_n 1, 1) := by decide +kernel
theorem dX0_unleft_33 : decode cX0_unleft 33 = .ok (.iinc 2 1, 3) := by decide +kernel
theorem dX0_unleft_36 : decode cX0_unleft 36 = .ok (.goto (-32), 3) := by decide +kernel
theorem dX0_unleft_39 : decode cX0_unleft 39 = .ok (.iload_n 1, 1) := by decide +kernel
theorem dX0_unleft_40 : decode cX0_unleft 40 = .ok (.ireturn, 1) := by decide +kernel
def fX0_unleft_L4 (n : Nat) : Nat → Int32 → Int32 → Mem → Option (Int32 × Mem)
  | 0, _, _, _ => none
  | F + 1, v1, v2, μ => if (μ.1 42 4) ≤ v2 then some (v1, μ) else gd (inb v2 8) (if ((μ.1 43 (Int32.toNatClampNeg v2)) &&& ((jshl 1 v2) ^^^ (-1))) = 0 then bnd (v1 ||| (jshl 1 v2)) (fun x2 => bnd (v2 + 1) (fun x3 => fX0_unleft_L4 n F x2 x3 μ)) else bnd (v2 + 1) (fun x1 => fX0_unleft_L4 n F v1 x1 μ))
def fX0_unleft (n : Nat) (μ : Mem) : Option (Int32 × Mem) :=
  fX0_unleft_L4 n n 0 0 μ
set_option maxHeartbeats 4000000 in
set_option maxRecDepth 100000 in
theorem wX0_unleft_L4 (ad : Nat → Nat) (n : Nat) : ∀ (F : Nat) (v1 : Int32) (v2 : Int32) (μ : Mem), G kX0_unleft ad encI 4 [(0, .ref (ad 42)), (1, .int v1), (2, .int v2)] [] μ (fX0_unleft_L4 n F v1 v2 μ) := by
  intro F
  induction F with
  | zero =>
    intro v1 v2 μ
    exact g_none
  | succ F ih =>
    intro v1 v2 μ
    rw [fX0_unleft_L4]
    refine g_iload_n (pc := 4) 2 dX0_unleft_4 rfl rfl ?_
    refine g_aload_n (pc := 5) 0 dX0_unleft_5 rfl rfl ?_
    refine g_get (pc := 6) rfl foX0_31 (v := .int (μ.1 42 4)) rfl dX0_unleft_6 ?_
    refine g_icmp_ge (pc := 9) 39 dX0_unleft_9 rfl ?_ ?_
    · refine g_iload_n (pc := 39) 1 dX0_unleft_39 rfl rfl ?_
      exact g_ireturn (pc := 40) dX0_unleft_40 rfl
    · refine g_aload_n (pc := 12) 0 dX0_unleft_12 rfl rfl ?_
      refine g_get (pc := 13) rfl foX0_9 (v := .ref (ad 43)) rfl dX0_unleft_13 ?_
      refine g_iload_n (pc := 16) 2 dX0_unleft_16 rfl rfl ?_
      refine g_iald (pc := 17) rfl (by decide) dX0_unleft_17 ?_
      refine g_iconst (pc := 18) 1 dX0_unleft_18 (by decide) ?_
      refine g_iload_n (pc := 19) 2 dX0_unleft_19 rfl rfl ?_
      refine g_ishl' (pc := 20) dX0_unleft_20 ?_
      refine g_iconst (pc := 21) (-1) dX0_unleft_21 (by decide) ?_
      refine g_ixor (pc := 22) dX0_unleft_22 ?_
      refine g_iand (pc := 23) dX0_unleft_23 ?_
      refine g_if_ne (pc := 24) 33 dX0_unleft_24 rfl ?_ ?_
      · refine g_iincB (pc := 33) 2 1 1 (fun x1 => [(2, .int x1), (0, .ref (ad 42)), (1, .int v1)]) dX0_unleft_33 rfl (by decide) (by decide) (fun _ => rfl) (fun x1 => ?_)
        refine g_goto (pc := 36) 4 dX0_unleft_36 rfl ?_
        exact g_sub [1, 2, 0] rfl (ih v1 x1 μ)
      · refine g_iload_n (pc := 27) 1 dX0_unleft_27 rfl rfl ?_
        refine g_iconst (pc := 28) 1 dX0_unleft_28 (by decide) ?_
        refine g_iload_n (pc := 29) 2 dX0_unleft_29 rfl rfl ?_
        refine g_ishl' (pc := 30) dX0_unleft_30 ?_
        refine g_ior (pc := 31) dX0_unleft_31 ?_
        refine g_istore_nB (pc := 32) (fun x2 => [(1, .int x2), (0, .ref (ad 42)), (2, .int v2)]) dX0_unleft_32 rfl (by decide) (fun _ => rfl) (fun x2 => ?_)
        refine g_iincB (pc := 33) 2 1 1 (fun x3 => [(2, .int x3), (1, .int x2), (0, .ref (ad 42))]) dX0_unleft_33 rfl (by decide) (by decide) (fun _ => rfl) (fun x3 => ?_)
        refine g_goto (pc := 36) 4 dX0_unleft_36 rfl ?_
        exact g_sub [2, 1, 0] rfl (ih x2 x3 μ)
set_option maxHeartbeats 4000000 in
set_option maxRecDepth 100000 in
theorem ctX0_unleft (ad : Nat → Nat) (n : Nat) (μ : Mem) : Ct yX0_unleft kX0_unleft ad encI [.ref (ad 42)] μ (fX0_unleft n μ) := Ct.of (by decide +kernel) rfl (Nat.le_of_ble_eq_true rfl) (by
  show G kX0_unleft ad encI 0 [(0, .ref (ad 42))] [] μ (fX0_unleft n μ)
  unfold fX0_unleft
  refine g_iconst (pc := 0) 0 dX0_unleft_0 (by decide) ?_
  refine g_istore_n (pc := 1) [(1, .int 0), (0, .ref (ad 42))] dX0_unleft_1 rfl (by decide) rfl ?_
  refine g_iconst (pc := 2) 0 dX0_unleft_2 (by decide) ?_
  refine g_istore_n (pc := 3) [(2, .int 0), (1, .int 0), (0, .ref (ad 42))] dX0_unleft_3 rfl (by decide) rfl ?_
  exact g_sub [2, 1, 0] rfl (wX0_unleft_L4 ad n n 0 0 μ))
-- StopsByLetters$Net.partOf(I)I
abbrev kX0_partOf : Cfg := (RX0, cX0_partOf, 2, (some .int), 2)
theorem dX0_partOf_0 : decode cX0_partOf 0 = .ok (.aload_n 0, 1) := by decide +kernel
theorem dX0_partOf_1 : decode cX0_partOf 1 = .ok (.getfield 15, 3) := by decide +kernel
theorem dX0_partOf_4 : decode cX0_partOf 4 = .ok (.iload_n 1, 1) := by decide +kernel
theorem dX0_partOf_5 : decode cX0_partOf 5 = .ok (.iaload, 1) := by decide +kernel
theorem dX0_partOf_6 : decode cX0_partOf 6 = .ok (.aload_n 0, 1) := by decide +kernel
theorem dX0_partOf_7 : decode cX0_partOf 7 = .ok (.iload_n 1, 1) := by decide +kernel
theorem dX0_partOf_8 : decode cX0_partOf 8 = .ok (.invokevirtual 45, 3) := by decide +kernel
theorem dX0_partOf_11 : decode cX0_partOf 11 = .ok (.iand, 1) := by decide +kernel
theorem dX0_partOf_12 : decode cX0_partOf 12 = .ok (.ireturn, 1) := by decide +kernel
theorem lnX0_45 : Ln RX0 45 yX0_comers := Or.inl (tb_in 510 (by decide +kernel) rfl)
theorem moX0_comers : Mv yX0_comers kX0_comers 1 := ⟨⟨tb_in 481 (by decide +kernel) rfl, tb_in 91 (by decide +kernel) rfl, ⟨by decide, by decide⟩, by decide +kernel⟩, tb_in 480 (by decide +kernel) rfl, tb_in 26 (by decide +kernel) rfl⟩
def fX0_partOf (n : Nat) (a1 : Int32) (μ : Mem) : Option (Int32 × Mem) :=
  gd (inb a1 8) (bd (fX0_comers n a1 μ) (fun r2 m1 => some (((μ.1 44 (Int32.toNatClampNeg a1)) &&& r2), m1)))
set_option maxHeartbeats 4000000 in
set_option maxRecDepth 100000 in
theorem ctX0_partOf (ad : Nat → Nat) (n : Nat) (a1 : Int32) (μ : Mem) : Ct yX0_partOf kX0_partOf ad encI [.ref (ad 42), .int a1] μ (fX0_partOf n a1 μ) := Ct.of (by decide +kernel) rfl (Nat.le_of_ble_eq_true rfl) (by
  show G kX0_partOf ad encI 0 [(0, .ref (ad 42)), (1, .int a1)] [] μ (fX0_partOf n a1 μ)
  unfold fX0_partOf
  refine g_aload_n (pc := 0) 0 dX0_partOf_0 rfl rfl ?_
  refine g_get (pc := 1) rfl foX0_15 (v := .ref (ad 44)) rfl dX0_partOf_1 ?_
  refine g_iload_n (pc := 4) 1 dX0_partOf_4 rfl rfl ?_
  refine g_iald (pc := 5) rfl (by decide) dX0_partOf_5 ?_
  refine g_aload_n (pc := 6) 0 dX0_partOf_6 rfl rfl ?_
  refine g_iload_n (pc := 7) 1 dX0_partOf_7 rfl rfl ?_
  refine g_cVI (pc := 8) (st := [.int (μ.1 44 (Int32.toNatClampNeg a1))]) [.int a1] rfl rfl moX0_comers lnX0_45 (ctX0_comers ad n a1 μ) rfl ⟨Nat.le_of_ble_eq_true rfl, Nat.le_of_ble_eq_true rfl⟩ rfl (Nat.le_of_ble_eq_true rfl) dX0_partOf_8 (fun r2 m1 => ?_)
  refine g_iand (pc := 11) dX0_partOf_11 ?_
  exact g_ireturn (pc := 12) dX0_partOf_12 rfl)
-- StopsByLetters$Net.partsInAll()I
abbrev kX0_partsInAll : Cfg := (RX0, cX0_partsInAll, 3, (some .int), 3)
theorem dX0_partsInAll_0 : decode cX0_partsInAll 0 = .ok (.iconst 0, 1) := by decide +kernel
theorem dX0_partsInAll_1 : decode cX0_partsInAll 1 = .ok (.istore_n 1, 1) := by decide +kernel
theorem dX0_partsInAll_2 : decode cX0_partsInAll 2 = .ok (.iconst 0, 1) := by decide +kernel
theorem dX0_partsInAll_3 : decode cX0_partsInAll 3 = .ok (.istore_n 2, 1) := by decide +kernel
theorem dX0_partsInAll_4 : decode cX0_partsInAll 4 = .ok (.iload_n 2, 1) := by decide +kernel
theorem dX0_partsInAll_5 : decode cX0_partsInAll 5 = .ok (.aload_n 0, 1) := by decide +kernel
theorem dX0_partsInAll_6 : decode cX0_partsInAll 6 = .ok (.getfield 31, 3) := by decide +kernel
theorem dX0_partsInAll_9 : decode cX0_partsInAll 9 = .ok (.if_icmp .ge 26, 3) := by decide +kernel
theorem dX0_partsInAll_12 : decode cX0_partsInAll 12 = .ok (.aload_n 0, 1) := by decide +kernel
theorem dX0_partsInAll_13 : decode cX0_partsInAll 13 = .ok (.iload_n 2, 1) := by decide +kernel
theorem dX0_partsInAll_14 : decode cX0_partsInAll 14 = .ok (.invokevirtual 48, 3) := by decide +kernel
theorem dX0_partsInAll_17 : decode cX0_partsInAll 17 = .ok (.iconst 1, 1) := by decide +kernel
theorem dX0_partsInAll_18 : decode cX0_partsInAll 18 = .ok (.iload_n 2, 1) := by decide +kernel
theorem dX0_partsInAll_19 : decode cX0_partsInAll 19 = .ok (.ishl, 1) := by decide +kernel
theorem dX0_partsInAll_20 : decode cX0_partsInAll 20 = .ok (.iconst 1, 1) := by decide +kernel
theorem dX0_partsInAll_21 : decode cX0_partsInAll 21 = .ok (.isub, 1) := by decide +kernel
theorem dX0_partsInAll_22 : decode cX0_partsInAll 22 = .ok (.iand, 1) := by decide +kernel
theorem dX0_partsInAll_23 : decode cX0_partsInAll 23 = .ok (.ifCond .ne 6, 3) := by decide +kernel
theorem dX0_partsInAll_26 : decode cX0_partsInAll 26 = .ok (.iinc 1 1, 3) := by decide +kernel
theorem dX0_partsInAll_29 : decode cX0_partsInAll 29 = .ok (.iinc 2 1, 3) := by decide +kernel
theorem dX0_partsInAll_32 : decode cX0_partsInAll 32 = .ok (.goto (-28), 3) := by decide +kernel
theorem dX0_partsInAll_35 : decode cX0_partsInAll 35 = .ok (.iload_n 1, 1) := by decide +kernel
theorem dX0_partsInAll_36 : decode cX0_partsInAll 36 = .ok (.ireturn, 1) := by decide +kernel
theorem lnX0_48 : Ln RX0 48 yX0_partOf := Or.inl (tb_in 506 (by decide +kernel) rfl)
theorem moX0_partOf : Mv yX0_partOf kX0_partOf 1 := ⟨⟨tb_in 509 (by decide +kernel) rfl, tb_in 91 (by decide +kernel) rfl, ⟨by decide, by decide⟩, by decide +kernel⟩, tb_in 508 (by decide +kernel) rfl, tb_in 30 (by decide +kernel) rfl⟩
def fX0_partsInAll_L4 (n : Nat) : Nat → Int32 → Int32 → Mem → Option (Int32 × Mem)
  | 0, _, _, _ => none
  | F + 1, v1, v2, μ => if (μ.1 42 4) ≤ v2 then some (v1, μ) else bd (fX0_partOf n v2 μ) (fun r2 m1 => if (r2 &&& ((jshl 1 v2) - 1)) = 0 then bnd (v1 + 1) (fun x4 => bnd (v2 + 1) (fun x5 => fX0_partsInAll_L4 n F x4 x5 m1)) else bnd (v2 + 1) (fun x3 => fX0_partsInAll_L4 n F v1 x3 m1))
def fX0_partsInAll (n : Nat) (μ : Mem) : Option (Int32 × Mem) :=
  fX0_partsInAll_L4 n n 0 0 μ
set_option maxHeartbeats 4000000 in
set_option maxRecDepth 100000 in
theorem wX0_partsInAll_L4 (ad : Nat → Nat) (n : Nat) : ∀ (F : Nat) (v1 : Int32) (v2 : Int32) (μ : Mem), G kX0_partsInAll ad encI 4 [(0, .ref (ad 42)), (1, .int v1), (2, .int v2)] [] μ (fX0_partsInAll_L4 n F v1 v2 μ) := by
  intro F
  induction F with
  | zero =>
    intro v1 v2 μ
    exact g_none
  | succ F ih =>
    intro v1 v2 μ
    rw [fX0_partsInAll_L4]
    refine g_iload_n (pc := 4) 2 dX0_partsInAll_4 rfl rfl ?_
    refine g_aload_n (pc := 5) 0 dX0_partsInAll_5 rfl rfl ?_
    refine g_get (pc := 6) rfl foX0_31 (v := .int (μ.1 42 4)) rfl dX0_partsInAll_6 ?_
    refine g_icmp_ge (pc := 9) 35 dX0_partsInAll_9 rfl ?_ ?_
    · refine g_iload_n (pc := 35) 1 dX0_partsInAll_35 rfl rfl ?_
      exact g_ireturn (pc := 36) dX0_partsInAll_36 rfl
    · refine g_aload_n (pc := 12) 0 dX0_partsInAll_12 rfl rfl ?_
      refine g_iload_n (pc := 13) 2 dX0_partsInAll_13 rfl rfl ?_
      refine g_cVI (pc := 14) (st := []) [.int v2] rfl rfl moX0_partOf lnX0_48 (ctX0_partOf ad n v2 μ) rfl ⟨Nat.le_of_ble_eq_true rfl, Nat.le_of_ble_eq_true rfl⟩ rfl (Nat.le_of_ble_eq_true rfl) dX0_partsInAll_14 (fun r2 m1 => ?_)
      refine g_iconst (pc := 17) 1 dX0_partsInAll_17 (by decide) ?_
      refine g_iload_n (pc := 18) 2 dX0_partsInAll_18 rfl rfl ?_
      refine g_ishl' (pc := 19) dX0_partsInAll_19 ?_
      refine g_iconst (pc := 20) 1 dX0_partsInAll_20 (by decide) ?_
      refine g_isub (pc := 21) dX0_partsInAll_21 ?_
      refine g_iand (pc := 22) dX0_partsInAll_22 ?_
      refine g_if_ne (pc := 23) 29 dX0_partsInAll_23 rfl ?_ ?_
      · refine g_iincB (pc := 29) 2 1 1 (fun x3 => [(2, .int x3), (0, .ref (ad 42)), (1, .int v1)]) dX0_partsInAll_29 rfl (by decide) (by decide) (fun _ => rfl) (fun x3 => ?_)
        refine g_goto (pc := 32) 4 dX0_partsInAll_32 rfl ?_
        exact g_sub [1, 2, 0] rfl (ih v1 x3 m1)
      · refine g_iincB (pc := 26) 1 1 1 (fun x4 => [(1, .int x4), (0, .ref (ad 42)), (2, .int v2)]) dX0_partsInAll_26 rfl (by decide) (by decide) (fun _ => rfl) (fun x4 => ?_)
        refine g_iincB (pc := 29) 2 1 1 (fun x5 => [(2, .int x5), (1, .int x4), (0, .ref (ad 42))]) dX0_partsInAll_29 rfl (by decide) (by decide) (fun _ => rfl) (fun x5 => ?_)
        refine g_goto (pc := 32) 4 dX0_partsInAll_32 rfl ?_
        exact g_sub [2, 1, 0] rfl (ih x4 x5 m1)
set_option maxHeartbeats 4000000 in
set_option maxRecDepth 100000 in
theorem ctX0_partsInAll (ad : Nat → Nat) (n : Nat) (μ : Mem) : Ct yX0_partsInAll kX0_partsInAll ad encI [.ref (ad 42)] μ (fX0_partsInAll n μ) := Ct.of (by decide +kernel) rfl (Nat.le_of_ble_eq_true rfl) (by
  show G kX0_partsInAll ad encI 0 [(0, .ref (ad 42))] [] μ (fX0_partsInAll n μ)
  unfold fX0_partsInAll
  refine g_iconst (pc := 0) 0 dX0_partsInAll_0 (by decide) ?_
  refine g_istore_n (pc := 1) [(1, .int 0), (0, .ref (ad 42))] dX0_partsInAll_1 rfl (by decide) rfl ?_
  refine g_iconst (pc := 2) 0 dX0_partsInAll_2 (by decide) ?_
  refine g_istore_n (pc := 3) [(2, .int 0), (1, .int 0), (0, .ref (ad 42))] dX0_partsInAll_3 rfl (by decide) rfl ?_
  exact g_sub [2, 1, 0] rfl (wX0_partsInAll_L4 ad n n 0 0 μ))
-- java/lang/Integer.bitCount(I)I
abbrev kJ6_bitCount_0f7a4 : Cfg := (RJ6, cJ6_bitCount_0f7a4, 1, (some .int), 0)
theorem dJ6_bitCount_0f7a4_0 : decode cJ6_bitCount_0f7a4 0 = .ok (.iload_n 0, 1) := by decide +kernel
theorem dJ6_bitCount_0f7a4_1 : decode cJ6_bitCount_0f7a4 1 = .ok (.iload_n 0, 1) := by decide +kernel
theorem dJ6_bitCount_0f7a4_2 : decode cJ6_bitCount_0f7a4 2 = .ok (.iconst 1, 1) := by decide +kernel
theorem dJ6_bitCount_0f7a4_3 : decode cJ6_bitCount_0f7a4 3 = .ok (.iushr, 1) := by decide +kernel
theorem dJ6_bitCount_0f7a4_4 : decode cJ6_bitCount_0f7a4 4 = .ok (.ldc_w 265, 3) := by decide +kernel
theorem dJ6_bitCount_0f7a4_7 : decode cJ6_bitCount_0f7a4 7 = .ok (.iand, 1) := by decide +kernel
theorem dJ6_bitCount_0f7a4_8 : decode cJ6_bitCount_0f7a4 8 = .ok (.isub, 1) := by decide +kernel
theorem dJ6_bitCount_0f7a4_9 : decode cJ6_bitCount_0f7a4 9 = .ok (.istore_n 0, 1) := by decide +kernel
theorem dJ6_bitCount_0f7a4_10 : decode cJ6_bitCount_0f7a4 10 = .ok (.iload_n 0, 1) := by decide +kernel
theorem dJ6_bitCount_0f7a4_11 : decode cJ6_bitCount_0f7a4 11 = .ok (.ldc_w 266, 3) := by decide +kernel
theorem dJ6_bitCount_0f7a4_14 : decode cJ6_bitCount_0f7a4 14 = .ok (.iand, 1) := by decide +kernel
theorem dJ6_bitCount_0f7a4_15 : decode cJ6_bitCount_0f7a4 15 = .ok (.iload_n 0, 1) := by decide +kernel
theorem dJ6_bitCount_0f7a4_16 : decode cJ6_bitCount_0f7a4 16 = .ok (.iconst 2, 1) := by decide +kernel
theorem dJ6_bitCount_0f7a4_17 : decode cJ6_bitCount_0f7a4 17 = .ok (.iushr, 1) := by decide +kernel
theorem dJ6_bitCount_0f7a4_18 : decode cJ6_bitCount_0f7a4 18 = .ok (.ldc_w 266, 3) := by decide +kernel
theorem dJ6_bitCount_0f7a4_21 : decode cJ6_bitCount_0f7a4 21 = .ok (.iand, 1) := by decide +kernel
theorem dJ6_bitCount_0f7a4_22 : decode cJ6_bitCount_0f7a4 22 = .ok (.iadd, 1) := by decide +kernel
theorem dJ6_bitCount_0f7a4_23 : decode cJ6_bitCount_0f7a4 23 = .ok (.istore_n 0, 1) := by decide +kernel
theorem dJ6_bitCount_0f7a4_24 : decode cJ6_bitCount_0f7a4 24 = .ok (.iload_n 0, 1) := by decide +kernel
theorem dJ6_bitCount_0f7a4_25 : decode cJ6_bitCount_0f7a4 25 = .ok (.iload_n 0, 1) := by decide +kernel
theorem dJ6_bitCount_0f7a4_26 : decode cJ6_bitCount_0f7a4 26 = .ok (.iconst 4, 1) := by decide +kernel
theorem dJ6_bitCount_0f7a4_27 : decode cJ6_bitCount_0f7a4 27 = .ok (.iushr, 1) := by decide +kernel
theorem dJ6_bitCount_0f7a4_28 : decode cJ6_bitCount_0f7a4 28 = .ok (.iadd, 1) := by decide +kernel
theorem dJ6_bitCount_0f7a4_29 : decode cJ6_bitCount_0f7a4 29 = .ok (.ldc_w 267, 3) := by decide +kernel
theorem dJ6_bitCount_0f7a4_32 : decode cJ6_bitCount_0f7a4 32 = .ok (.iand, 1) := by decide +kernel
theorem dJ6_bitCount_0f7a4_33 : decode cJ6_bitCount_0f7a4 33 = .ok (.istore_n 0, 1) := by decide +kernel
theorem dJ6_bitCount_0f7a4_34 : decode cJ6_bitCount_0f7a4 34 = .ok (.iload_n 0, 1) := by decide +kernel
theorem dJ6_bitCount_0f7a4_35 : decode cJ6_bitCount_0f7a4 35 = .ok (.iload_n 0, 1) := by decide +kernel
theorem dJ6_bitCount_0f7a4_36 : decode cJ6_bitCount_0f7a4 36 = .ok (.bipush 8, 2) := by decide +kernel
theorem dJ6_bitCount_0f7a4_38 : decode cJ6_bitCount_0f7a4 38 = .ok (.iushr, 1) := by decide +kernel
theorem dJ6_bitCount_0f7a4_39 : decode cJ6_bitCount_0f7a4 39 = .ok (.iadd, 1) := by decide +kernel
theorem dJ6_bitCount_0f7a4_40 : decode cJ6_bitCount_0f7a4 40 = .ok (.istore_n 0, 1) := by decide +kernel
theorem dJ6_bitCount_0f7a4_41 : decode cJ6_bitCount_0f7a4 41 = .ok (.iload_n 0, 1) := by decide +kernel
theorem dJ6_bitCount_0f7a4_42 : decode cJ6_bitCount_0f7a4 42 = .ok (.iload_n 0, 1) := by decide +kernel
theorem dJ6_bitCount_0f7a4_43 : decode cJ6_bitCount_0f7a4 43 = .ok (.bipush 16, 2) := by decide +kernel
theorem dJ6_bitCount_0f7a4_45 : decode cJ6_bitCount_0f7a4 45 = .ok (.iushr, 1) := by decide +kernel
theorem dJ6_bitCount_0f7a4_46 : decode cJ6_bitCount_0f7a4 46 = .ok (.iadd, 1) := by decide +kernel
theorem dJ6_bitCount_0f7a4_47 : decode cJ6_bitCount_0f7a4 47 = .ok (.istore_n 0, 1) := by decide +kernel
theorem dJ6_bitCount_0f7a4_48 : decode cJ6_bitCount_0f7a4 48 = .ok (.iload_n 0, 1) := by decide +kernel
theorem dJ6_bitCount_0f7a4_49 : decode cJ6_bitCount_0f7a4 49 = .ok (.bipush 63, 2) := by decide +kernel
theorem dJ6_bitCount_0f7a4_51 : decode cJ6_bitCount_0f7a4 51 = .ok (.iand, 1) := by decide +kernel
theorem dJ6_bitCount_0f7a4_52 : decode cJ6_bitCount_0f7a4 52 = .ok (.ireturn, 1) := by decide +kernel
theorem cwJ6_265 : Cond.constant RJ6 265 (1431655765 : Int32) ∈ TB := tb_in 527 (by decide +kernel) rfl
theorem cwJ6_266 : Cond.constant RJ6 266 (858993459 : Int32) ∈ TB := tb_in 528 (by decide +kernel) rfl
theorem cwJ6_267 : Cond.constant RJ6 267 (252645135 : Int32) ∈ TB := tb_in 529 (by decide +kernel) rfl
def fJ6_bitCount_0f7a4 (n : Nat) (a0 : Int32) (μ : Mem) : Option (Int32 × Mem) :=
  bnd (a0 - ((jushr a0 1) &&& 1431655765)) (fun x1 => bnd ((x1 &&& 858993459) + ((jushr x1 2) &&& 858993459)) (fun x2 => bnd ((x2 + (jushr x2 4)) &&& 252645135) (fun x3 => bnd (x3 + (jushr x3 8)) (fun x4 => bnd (x4 + (jushr x4 16)) (fun x5 => some ((x5 &&& 63), μ))))))
set_option maxHeartbeats 4000000 in
set_option maxRecDepth 100000 in
theorem ctJ6_bitCount_0f7a4 (ad : Nat → Nat) (n : Nat) (a0 : Int32) (μ : Mem) : Ct yJ6_bitCount_0f7a4 kJ6_bitCount_0f7a4 ad encI [.int a0] μ (fJ6_bitCount_0f7a4 n a0 μ) := Ct.of (by decide +kernel) rfl (Nat.le_of_ble_eq_true rfl) (by
  show G kJ6_bitCount_0f7a4 ad encI 0 [(0, .int a0)] [] μ (fJ6_bitCount_0f7a4 n a0 μ)
  unfold fJ6_bitCount_0f7a4
  refine g_iload_n (pc := 0) 0 dJ6_bitCount_0f7a4_0 rfl rfl ?_
  refine g_iload_n (pc := 1) 0 dJ6_bitCount_0f7a4_1 rfl rfl ?_
  refine g_iconst (pc := 2) 1 dJ6_bitCount_0f7a4_2 (by decide) ?_
  refine g_iushr' (pc := 3) dJ6_bitCount_0f7a4_3 ?_
  refine g_ldcw (pc := 4) dJ6_bitCount_0f7a4_4 cwJ6_265 ?_
  refine g_iand (pc := 7) dJ6_bitCount_0f7a4_7 ?_
  refine g_isub (pc := 8) dJ6_bitCount_0f7a4_8 ?_
  refine g_istore_nB (pc := 9) (fun x1 => [(0, .int x1)]) dJ6_bitCount_0f7a4_9 rfl (by decide) (fun _ => rfl) (fun x1 => ?_)
  refine g_iload_n (pc := 10) 0 dJ6_bitCount_0f7a4_10 rfl rfl ?_
  refine g_ldcw (pc := 11) dJ6_bitCount_0f7a4_11 cwJ6_266 ?_
  refine g_iand (pc := 14) dJ6_bitCount_0f7a4_14 ?_
  refine g_iload_n (pc := 15) 0 dJ6_bitCount_0f7a4_15 rfl rfl ?_
  refine g_iconst (pc := 16) 2 dJ6_bitCount_0f7a4_16 (by decide) ?_
  refine g_iushr' (pc := 17) dJ6_bitCount_0f7a4_17 ?_
  refine g_ldcw (pc := 18) dJ6_bitCount_0f7a4_18 cwJ6_266 ?_
  refine g_iand (pc := 21) dJ6_bitCount_0f7a4_21 ?_
  refine g_iadd (pc := 22) dJ6_bitCount_0f7a4_22 ?_
  refine g_istore_nB (pc := 23) (fun x2 => [(0, .int x2)]) dJ6_bitCount_0f7a4_23 rfl (by decide) (fun _ => rfl) (fun x2 => ?_)
  refine g_iload_n (pc := 24) 0 dJ6_bitCount_0f7a4_24 rfl rfl ?_
  refine g_iload_n (pc := 25) 0 dJ6_bitCount_0f7a4_25 rfl rfl ?_
  refine g_iconst (pc := 26) 4 dJ6_bitCount_0f7a4_26 (by decide) ?_
  refine g_iushr' (pc := 27) dJ6_bitCount_0f7a4_27 ?_
  refine g_iadd (pc := 28) dJ6_bitCount_0f7a4_28 ?_
  refine g_ldcw (pc := 29) dJ6_bitCount_0f7a4_29 cwJ6_267 ?_
  refine g_iand (pc := 32) dJ6_bitCount_0f7a4_32 ?_
  refine g_istore_nB (pc := 33) (fun x3 => [(0, .int x3)]) dJ6_bitCount_0f7a4_33 rfl (by decide) (fun _ => rfl) (fun x3 => ?_)
  refine g_iload_n (pc := 34) 0 dJ6_bitCount_0f7a4_34 rfl rfl ?_
  refine g_iload_n (pc := 35) 0 dJ6_bitCount_0f7a4_35 rfl rfl ?_
  refine g_bipush (pc := 36) 8 dJ6_bitCount_0f7a4_36 (by decide) ?_
  refine g_iushr' (pc := 38) dJ6_bitCount_0f7a4_38 ?_
  refine g_iadd (pc := 39) dJ6_bitCount_0f7a4_39 ?_
  refine g_istore_nB (pc := 40) (fun x4 => [(0, .int x4)]) dJ6_bitCount_0f7a4_40 rfl (by decide) (fun _ => rfl) (fun x4 => ?_)
  refine g_iload_n (pc := 41) 0 dJ6_bitCount_0f7a4_41 rfl rfl ?_
  refine g_iload_n (pc := 42) 0 dJ6_bitCount_0f7a4_42 rfl rfl ?_
  refine g_bipush (pc := 43) 16 dJ6_bitCount_0f7a4_43 (by decide) ?_
  refine g_iushr' (pc := 45) dJ6_bitCount_0f7a4_45 ?_
  refine g_iadd (pc := 46) dJ6_bitCount_0f7a4_46 ?_
  refine g_istore_nB (pc := 47) (fun x5 => [(0, .int x5)]) dJ6_bitCount_0f7a4_47 rfl (by decide) (fun _ => rfl) (fun x5 => ?_)
  refine g_iload_n (pc := 48) 0 dJ6_bitCount_0f7a4_48 rfl rfl ?_
  refine g_bipush (pc := 49) 63 dJ6_bitCount_0f7a4_49 (by decide) ?_
  refine g_iand (pc := 51) dJ6_bitCount_0f7a4_51 ?_
  exact g_ireturn (pc := 52) dJ6_bitCount_0f7a4_52 rfl)
-- StopsByLetters$Net.pairsApart()I
abbrev kX0_pairsApart : Cfg := (RX0, cX0_pairsApart, 3, (some .int), 1)
theorem dX0_pairsApart_0 : decode cX0_pairsApart 0 = .ok (.iconst 0, 1) := by decide +kernel
theorem dX0_pairsApart_1 : decode cX0_pairsApart 1 = .ok (.istore_n 1, 1) := by decide +kernel
theorem dX0_pairsApart_2 : decode cX0_pairsApart 2 = .ok (.iconst 0, 1) := by decide +kernel
theorem dX0_pairsApart_3 : decode cX0_pairsApart 3 = .ok (.istore_n 2, 1) := by decide +kernel
theorem dX0_pairsApart_4 : decode cX0_pairsApart 4 = .ok (.iload_n 2, 1) := by decide +kernel
theorem dX0_pairsApart_5 : decode cX0_pairsApart 5 = .ok (.aload_n 0, 1) := by decide +kernel
theorem dX0_pairsApart_6 : decode cX0_pairsApart 6 = .ok (.getfield 31, 3) := by decide +kernel
theorem dX0_pairsApart_9 : decode cX0_pairsApart 9 = .ok (.if_icmp .ge 26, 3) := by decide +kernel
theorem dX0_pairsApart_12 : decode cX0_pairsApart 12 = .ok (.iload_n 1, 1) := by decide +kernel
theorem dX0_pairsApart_13 : decode cX0_pairsApart 13 = .ok (.aload_n 0, 1) := by decide +kernel
theorem dX0_pairsApart_14 : decode cX0_pairsApart 14 = .ok (.getfield 31, 3) := by decide +kernel
theorem dX0_pairsApart_17 : decode cX0_pairsApart 17 = .ok (.aload_n 0, 1) := by decide +kernel
theorem dX0_pairsApart_18 : decode cX0_pairsApart 18 = .ok (.getfield 15, 3) := by decide +kernel
theorem dX0_pairsApart_21 : decode cX0_pairsApart 21 = .ok (.iload_n 2, 1) := by decide +kernel
theorem dX0_pairsApart_22 : decode cX0_pairsApart 22 = .ok (.iaload, 1) := by decide +kernel
theorem dX0_pairsApart_23 : decode cX0_pairsApart 23 = .ok (.invokestatic 51, 3) := by decide +kernel
theorem dX0_pairsApart_26 : decode cX0_pairsApart 26 = .ok (.isub, 1) := by decide +kernel
theorem dX0_pairsApart_27 : decode cX0_pairsApart 27 = .ok (.iadd, 1) := by decide +kernel
theorem dX0_pairsApart_28 : decode cX0_pairsApart 28 = .ok (.istore_n 1, 1) := by decide +kernel
theorem dX0_pairsApart_29 : decode cX0_pairsApart 29 = .ok (.iinc 2 1, 3) := by decide +kernel
theorem dX0_pairsApart_32 : decode cX0_pairsApart 32 = .ok (.goto (-28), 3) := by decide +kernel
theorem dX0_pairsApart_35 : decode cX0_pairsApart 35 = .ok (.iload_n 1, 1) := by decide +kernel
theorem dX0_pairsApart_36 : decode cX0_pairsApart 36 = .ok (.ireturn, 1) := by decide +kernel
theorem lnX0_51 : Ln RX0 51 yJ6_bitCount_0f7a4 := Or.inl (tb_in 524 (by decide +kernel) rfl)
theorem moJ6_bitCount_0f7a4 : Ms yJ6_bitCount_0f7a4 kJ6_bitCount_0f7a4 1 := ⟨⟨tb_in 526 (by decide +kernel) rfl, tb_in 100 (by decide +kernel) rfl, ⟨by decide, by decide⟩, by decide +kernel⟩, tb_in 525 (by decide +kernel) rfl⟩
def fX0_pairsApart_L4 (n : Nat) : Nat → Int32 → Int32 → Mem → Option (Int32 × Mem)
  | 0, _, _, _ => none
  | F + 1, v1, v2, μ => if (μ.1 42 4) ≤ v2 then some (v1, μ) else gd (inb v2 8) (bd (fJ6_bitCount_0f7a4 n (μ.1 44 (Int32.toNatClampNeg v2)) μ) (fun r2 m1 => bnd (v1 + ((μ.1 42 4) - r2)) (fun x3 => bnd (v2 + 1) (fun x4 => fX0_pairsApart_L4 n F x3 x4 m1))))
def fX0_pairsApart (n : Nat) (μ : Mem) : Option (Int32 × Mem) :=
  fX0_pairsApart_L4 n n 0 0 μ
set_option maxHeartbeats 4000000 in
set_option maxRecDepth 100000 in
theorem wX0_pairsApart_L4 (ad : Nat → Nat) (n : Nat) : ∀ (F : Nat) (v1 : Int32) (v2 : Int32) (μ : Mem), G kX0_pairsApart ad encI 4 [(0, .ref (ad 42)), (1, .int v1), (2, .int v2)] [] μ (fX0_pairsApart_L4 n F v1 v2 μ) := by
  intro F
  induction F with
  | zero =>
    intro v1 v2 μ
    exact g_none
  | succ F ih =>
    intro v1 v2 μ
    rw [fX0_pairsApart_L4]
    refine g_iload_n (pc := 4) 2 dX0_pairsApart_4 rfl rfl ?_
    refine g_aload_n (pc := 5) 0 dX0_pairsApart_5 rfl rfl ?_
    refine g_get (pc := 6) rfl foX0_31 (v := .int (μ.1 42 4)) rfl dX0_pairsApart_6 ?_
    refine g_icmp_ge (pc := 9) 35 dX0_pairsApart_9 rfl ?_ ?_
    · refine g_iload_n (pc := 35) 1 dX0_pairsApart_35 rfl rfl ?_
      exact g_ireturn (pc := 36) dX0_pairsApart_36 rfl
    · refine g_iload_n (pc := 12) 1 dX0_pairsApart_12 rfl rfl ?_
      refine g_aload_n (pc := 13) 0 dX0_pairsApart_13 rfl rfl ?_
      refine g_get (pc := 14) rfl foX0_31 (v := .int (μ.1 42 4)) rfl dX0_pairsApart_14 ?_
      refine g_aload_n (pc := 17) 0 dX0_pairsApart_17 rfl rfl ?_
      refine g_get (pc := 18) rfl foX0_15 (v := .ref (ad 44)) rfl dX0_pairsApart_18 ?_
      refine g_iload_n (pc := 21) 2 dX0_pairsApart_21 rfl rfl ?_
      refine g_iald (pc := 22) rfl (by decide) dX0_pairsApart_22 ?_
      refine g_cSI (pc := 23) (st := [.int (μ.1 42 4), .int v1]) [.int (μ.1 44 (Int32.toNatClampNeg v2))] moJ6_bitCount_0f7a4 lnX0_51 (ctJ6_bitCount_0f7a4 ad n (μ.1 44 (Int32.toNatClampNeg v2)) μ) rfl ⟨Nat.le_of_ble_eq_true rfl, Nat.le_of_ble_eq_true rfl⟩ rfl (Nat.le_of_ble_eq_true rfl) dX0_pairsApart_23 (fun r2 m1 => ?_)
      refine g_isub (pc := 26) dX0_pairsApart_26 ?_
      refine g_iadd (pc := 27) dX0_pairsApart_27 ?_
      refine g_istore_nB (pc := 28) (fun x3 => [(1, .int x3), (0, .ref (ad 42)), (2, .int v2)]) dX0_pairsApart_28 rfl (by decide) (fun _ => rfl) (fun x3 => ?_)
      refine g_iincB (pc := 29) 2 1 1 (fun x4 => [(2, .int x4), (1, .int x3), (0, .ref (ad 42))]) dX0_pairsApart_29 rfl (by decide) (by decide) (fun _ => rfl) (fun x4 => ?_)
      refine g_goto (pc := 32) 4 dX0_pairsApart_32 rfl ?_
      exact g_sub [2, 1, 0] rfl (ih x3 x4 m1)
set_option maxHeartbeats 4000000 in
set_option maxRecDepth 100000 in
theorem ctX0_pairsApart (ad : Nat → Nat) (n : Nat) (μ : Mem) : Ct yX0_pairsApart kX0_pairsApart ad encI [.ref (ad 42)] μ (fX0_pairsApart n μ) := Ct.of (by decide +kernel) rfl (Nat.le_of_ble_eq_true rfl) (by
  show G kX0_pairsApart ad encI 0 [(0, .ref (ad 42))] [] μ (fX0_pairsApart n μ)
  unfold fX0_pairsApart
  refine g_iconst (pc := 0) 0 dX0_pairsApart_0 (by decide) ?_
  refine g_istore_n (pc := 1) [(1, .int 0), (0, .ref (ad 42))] dX0_pairsApart_1 rfl (by decide) rfl ?_
  refine g_iconst (pc := 2) 0 dX0_pairsApart_2 (by decide) ?_
  refine g_istore_n (pc := 3) [(2, .int 0), (1, .int 0), (0, .ref (ad 42))] dX0_pairsApart_3 rfl (by decide) rfl ?_
  exact g_sub [2, 1, 0] rfl (wX0_pairsApart_L4 ad n n 0 0 μ))
-- StopsByLetters$Net.sumOfRides()I
abbrev kX0_sumOfRides : Cfg := (RX0, cX0_sumOfRides, 3, (some .int), 1)
theorem dX0_sumOfRides_0 : decode cX0_sumOfRides 0 = .ok (.iconst 0, 1) := by decide +kernel
theorem dX0_sumOfRides_1 : decode cX0_sumOfRides 1 = .ok (.istore_n 1, 1) := by decide +kernel
theorem dX0_sumOfRides_2 : decode cX0_sumOfRides 2 = .ok (.iconst 0, 1) := by decide +kernel
theorem dX0_sumOfRides_3 : decode cX0_sumOfRides 3 = .ok (.istore_n 2, 1) := by decide +kernel
theorem dX0_sumOfRides_4 : decode cX0_sumOfRides 4 = .ok (.iload_n 2, 1) := by decide +kernel
theorem dX0_sumOfRides_5 : decode cX0_sumOfRides 5 = .ok (.aload_n 0, 1) := by decide +kernel
theorem dX0_sumOfRides_6 : decode cX0_sumOfRides 6 = .ok (.getfield 31, 3) := by decide +kernel
theorem dX0_sumOfRides_9 : decode cX0_sumOfRides 9 = .ok (.if_icmp .ge 21, 3) := by decide +kernel
theorem dX0_sumOfRides_12 : decode cX0_sumOfRides 12 = .ok (.iload_n 1, 1) := by decide +kernel
theorem dX0_sumOfRides_13 : decode cX0_sumOfRides 13 = .ok (.aload_n 0, 1) := by decide +kernel
theorem dX0_sumOfRides_14 : decode cX0_sumOfRides 14 = .ok (.getfield 9, 3) := by decide +kernel
theorem dX0_sumOfRides_17 : decode cX0_sumOfRides 17 = .ok (.iload_n 2, 1) := by decide +kernel
theorem dX0_sumOfRides_18 : decode cX0_sumOfRides 18 = .ok (.iaload, 1) := by decide +kernel
theorem dX0_sumOfRides_19 : decode cX0_sumOfRides 19 = .ok (.invokestatic 51, 3) := by decide +kernel
theorem dX0_sumOfRides_22 : decode cX0_sumOfRides 22 = .ok (.iadd, 1) := by decide +kernel
theorem dX0_sumOfRides_23 : decode cX0_sumOfRides 23 = .ok (.istore_n 1, 1) := by decide +kernel
theorem dX0_sumOfRides_24 : decode cX0_sumOfRides 24 = .ok (.iinc 2 1, 3) := by decide +kernel
theorem dX0_sumOfRides_27 : decode cX0_sumOfRides 27 = .ok (.goto (-23), 3) := by decide +kernel
theorem dX0_sumOfRides_30 : decode cX0_sumOfRides 30 = .ok (.iload_n 1, 1) := by decide +kernel
theorem dX0_sumOfRides_31 : decode cX0_sumOfRides 31 = .ok (.ireturn, 1) := by decide +kernel
def fX0_sumOfRides_L4 (n : Nat) : Nat → Int32 → Int32 → Mem → Option (Int32 × Mem)
  | 0, _, _, _ => none
  | F + 1, v1, v2, μ => if (μ.1 42 4) ≤ v2 then some (v1, μ) else gd (inb v2 8) (bd (fJ6_bitCount_0f7a4 n (μ.1 43 (Int32.toNatClampNeg v2)) μ) (fun r2 m1 => bnd (v1 + r2) (fun x3 => bnd (v2 + 1) (fun x4 => fX0_sumOfRides_L4 n F x3 x4 m1))))
def fX0_sumOfRides (n : Nat) (μ : Mem) : Option (Int32 × Mem) :=
  fX0_sumOfRides_L4 n n 0 0 μ
set_option maxHeartbeats 4000000 in
set_option maxRecDepth 100000 in
theorem wX0_sumOfRides_L4 (ad : Nat → Nat) (n : Nat) : ∀ (F : Nat) (v1 : Int32) (v2 : Int32) (μ : Mem), G kX0_sumOfRides ad encI 4 [(0, .ref (ad 42)), (1, .int v1), (2, .int v2)] [] μ (fX0_sumOfRides_L4 n F v1 v2 μ) := by
  intro F
  induction F with
  | zero =>
    intro v1 v2 μ
    exact g_none
  | succ F ih =>
    intro v1 v2 μ
    rw [fX0_sumOfRides_L4]
    refine g_iload_n (pc := 4) 2 dX0_sumOfRides_4 rfl rfl ?_
    refine g_aload_n (pc := 5) 0 dX0_sumOfRides_5 rfl rfl ?_
    refine g_get (pc := 6) rfl foX0_31 (v := .int (μ.1 42 4)) rfl dX0_sumOfRides_6 ?_
    refine g_icmp_ge (pc := 9) 30 dX0_sumOfRides_9 rfl ?_ ?_
    · refine g_iload_n (pc := 30) 1 dX0_sumOfRides_30 rfl rfl ?_
      exact g_ireturn (pc := 31) dX0_sumOfRides_31 rfl
    · refine g_iload_n (pc := 12) 1 dX0_sumOfRides_12 rfl rfl ?_
      refine g_aload_n (pc := 13) 0 dX0_sumOfRides_13 rfl rfl ?_
      refine g_get (pc := 14) rfl foX0_9 (v := .ref (ad 43)) rfl dX0_sumOfRides_14 ?_
      refine g_iload_n (pc := 17) 2 dX0_sumOfRides_17 rfl rfl ?_
      refine g_iald (pc := 18) rfl (by decide) dX0_sumOfRides_18 ?_
      refine g_cSI (pc := 19) (st := [.int v1]) [.int (μ.1 43 (Int32.toNatClampNeg v2))] moJ6_bitCount_0f7a4 lnX0_51 (ctJ6_bitCount_0f7a4 ad n (μ.1 43 (Int32.toNatClampNeg v2)) μ) rfl ⟨Nat.le_of_ble_eq_true rfl, Nat.le_of_ble_eq_true rfl⟩ rfl (Nat.le_of_ble_eq_true rfl) dX0_sumOfRides_19 (fun r2 m1 => ?_)
      refine g_iadd (pc := 22) dX0_sumOfRides_22 ?_
      refine g_istore_nB (pc := 23) (fun x3 => [(1, .int x3), (0, .ref (ad 42)), (2, .int v2)]) dX0_sumOfRides_23 rfl (by decide) (fun _ => rfl) (fun x3 => ?_)
      refine g_iincB (pc := 24) 2 1 1 (fun x4 => [(2, .int x4), (1, .int x3), (0, .ref (ad 42))]) dX0_sumOfRides_24 rfl (by decide) (by decide) (fun _ => rfl) (fun x4 => ?_)
      refine g_goto (pc := 27) 4 dX0_sumOfRides_27 rfl ?_
      exact g_sub [2, 1, 0] rfl (ih x3 x4 m1)
set_option maxHeartbeats 4000000 in
set_option maxRecDepth 100000 in
theorem ctX0_sumOfRides (ad : Nat → Nat) (n : Nat) (μ : Mem) : Ct yX0_sumOfRides kX0_sumOfRides ad encI [.ref (ad 42)] μ (fX0_sumOfRides n μ) := Ct.of (by decide +kernel) rfl (Nat.le_of_ble_eq_true rfl) (by
  show G kX0_sumOfRides ad encI 0 [(0, .ref (ad 42))] [] μ (fX0_sumOfRides n μ)
  unfold fX0_sumOfRides
  refine g_iconst (pc := 0) 0 dX0_sumOfRides_0 (by decide) ?_
  refine g_istore_n (pc := 1) [(1, .int 0), (0, .ref (ad 42))] dX0_sumOfRides_1 rfl (by decide) rfl ?_
  refine g_iconst (pc := 2) 0 dX0_sumOfRides_2 (by decide) ?_
  refine g_istore_n (pc := 3) [(2, .int 0), (1, .int 0), (0, .ref (ad 42))] dX0_sumOfRides_3 rfl (by decide) rfl ?_
  exact g_sub [2, 1, 0] rfl (wX0_sumOfRides_L4 ad n n 0 0 μ))
-- StopsByLetters$Net.startAt(I)V
abbrev kX0_startAt : Cfg := (RX0, cX0_startAt, 3, none, 0)
theorem dX0_startAt_0 : decode cX0_startAt 0 = .ok (.iconst 0, 1) := by decide +kernel
theorem dX0_startAt_1 : decode cX0_startAt 1 = .ok (.istore_n 2, 1) := by decide +kernel
theorem dX0_startAt_2 : decode cX0_startAt 2 = .ok (.iload_n 2, 1) := by decide +kernel
theorem dX0_startAt_3 : decode cX0_startAt 3 = .ok (.aload_n 0, 1) := by decide +kernel
theorem dX0_startAt_4 : decode cX0_startAt 4 = .ok (.getfield 31, 3) := by decide +kernel
theorem dX0_startAt_7 : decode cX0_startAt 7 = .ok (.if_icmp .ge 25, 3) := by decide +kernel
theorem dX0_startAt_10 : decode cX0_startAt 10 = .ok (.aload_n 0, 1) := by decide +kernel
theorem dX0_startAt_11 : decode cX0_startAt 11 = .ok (.getfield 18, 3) := by decide +kernel
theorem dX0_startAt_14 : decode cX0_startAt 14 = .ok (.iload_n 2, 1) := by decide +kernel
theorem dX0_startAt_15 : decode cX0_startAt 15 = .ok (.iload_n 2, 1) := by decide +kernel
theorem dX0_startAt_16 : decode cX0_startAt 16 = .ok (.iload_n 1, 1) := by decide +kernel
theorem dX0_startAt_17 : decode cX0_startAt 17 = .ok (.if_icmp .ne 7, 3) := by decide +kernel
theorem dX0_startAt_20 : decode cX0_startAt 20 = .ok (.lconst 1, 1) := by decide +kernel
theorem dX0_startAt_21 : decode cX0_startAt 21 = .ok (.goto 4, 3) := by decide +kernel
theorem dX0_startAt_24 : decode cX0_startAt 24 = .ok (.lconst 0, 1) := by decide +kernel
theorem dX0_startAt_25 : decode cX0_startAt 25 = .ok (.lastore, 1) := by decide +kernel
theorem dX0_startAt_26 : decode cX0_startAt 26 = .ok (.iinc 2 1, 3) := by decide +kernel
theorem dX0_startAt_29 : decode cX0_startAt 29 = .ok (.goto (-27), 3) := by decide +kernel
theorem dX0_startAt_32 : decode cX0_startAt 32 = .ok (.return_, 1) := by decide +kernel
theorem foX0_18 : Fo 0 RX0 TX0 5 2 RX0 18 := ⟨rfl, by decide, rfl, uwX0, rfl, Or.inl (tb_in 178 (by decide +kernel) rfl)⟩
def fX0_startAt_L2 (n : Nat) (v1 : Int32) : Nat → Int32 → Mem → Option (Unit × Mem)
  | 0, _, _ => none
  | F + 1, v2, μ => if (μ.1 42 4) ≤ v2 then some ((), μ) else if v2 = v1 then gd (inb v2 8) (bnd (setJ μ 45 (Int32.toNatClampNeg v2) 1) (fun m3 => bnd (v2 + 1) (fun x4 => fX0_startAt_L2 n v1 F x4 m3))) else gd (inb v2 8) (bnd (setJ μ 45 (Int32.toNatClampNeg v2) 0) (fun m1 => bnd (v2 + 1) (fun x2 => fX0_startAt_L2 n v1 F x2 m1)))
def fX0_startAt (n : Nat) (a1 : Int32) (μ : Mem) : Option (Unit × Mem) :=
  fX0_startAt_L2 n a1 n 0 μ
set_option maxHeartbeats 4000000 in
set_option maxRecDepth 100000 in
theorem wX0_startAt_L2 (ad : Nat → Nat) (n : Nat) (v1 : Int32) : ∀ (F : Nat) (v2 : Int32) (μ : Mem), G kX0_startAt ad encV 2 [(0, .ref (ad 42)), (1, .int v1), (2, .int v2)] [] μ (fX0_startAt_L2 n v1 F v2 μ) := by
  intro F
  induction F with
  | zero =>
    intro v2 μ
    exact g_none
  | succ F ih =>
    intro v2 μ
    rw [fX0_startAt_L2]
    refine g_iload_n (pc := 2) 2 dX0_startAt_2 rfl rfl ?_
    refine g_aload_n (pc := 3) 0 dX0_startAt_3 rfl rfl ?_
    refine g_get (pc := 4) rfl foX0_31 (v := .int (μ.1 42 4)) rfl dX0_startAt_4 ?_
    refine g_icmp_ge (pc := 7) 32 dX0_startAt_7 rfl ?_ ?_
    · exact g_return (pc := 32) dX0_startAt_32 rfl
    · refine g_aload_n (pc := 10) 0 dX0_startAt_10 rfl rfl ?_
      refine g_get (pc := 11) rfl foX0_18 (v := .ref (ad 45)) rfl dX0_startAt_11 ?_
      refine g_iload_n (pc := 14) 2 dX0_startAt_14 rfl rfl ?_
      refine g_iload_n (pc := 15) 2 dX0_startAt_15 rfl rfl ?_
      refine g_iload_n (pc := 16) 1 dX0_startAt_16 rfl rfl ?_
      refine g_icmp_ne (pc := 17) 24 dX0_startAt_17 rfl ?_ ?_
      · refine g_lconst (pc := 24) 0 dX0_startAt_24 (by decide) ?_
        refine g_last (pc := 25) rfl dX0_startAt_25 (fun m1 => ?_)
        refine g_iincB (pc := 26) 2 1 1 (fun x2 => [(2, .int x2), (0, .ref (ad 42)), (1, .int v1)]) dX0_startAt_26 rfl (by decide) (by decide) (fun _ => rfl) (fun x2 => ?_)
        refine g_goto (pc := 29) 2 dX0_startAt_29 rfl ?_
        exact g_sub [1, 2, 0] rfl (ih x2 m1)
      · refine g_lconst (pc := 20) 1 dX0_startAt_20 (by decide) ?_
        refine g_goto (pc := 21) 25 dX0_startAt_21 rfl ?_
        refine g_last (pc := 25) rfl dX0_startAt_25 (fun m3 => ?_)
        refine g_iincB (pc := 26) 2 1 1 (fun x4 => [(2, .int x4), (0, .ref (ad 42)), (1, .int v1)]) dX0_startAt_26 rfl (by decide) (by decide) (fun _ => rfl) (fun x4 => ?_)
        refine g_goto (pc := 29) 2 dX0_startAt_29 rfl ?_
        exact g_sub [1, 2, 0] rfl (ih x4 m3)
set_option maxHeartbeats 4000000 in
set_option maxRecDepth 100000 in
theorem ctX0_startAt (ad : Nat → Nat) (n : Nat) (a1 : Int32) (μ : Mem) : Ct yX0_startAt kX0_startAt ad encV [.ref (ad 42), .int a1] μ (fX0_startAt n a1 μ) := Ct.of (by decide +kernel) rfl (Nat.le_of_ble_eq_true rfl) (by
  show G kX0_startAt ad encV 0 [(0, .ref (ad 42)), (1, .int a1)] [] μ (fX0_startAt n a1 μ)
  unfold fX0_startAt
  refine g_iconst (pc := 0) 0 dX0_startAt_0 (by decide) ?_
  refine g_istore_n (pc := 1) [(2, .int 0), (0, .ref (ad 42)), (1, .int a1)] dX0_startAt_1 rfl (by decide) rfl ?_
  exact g_sub [1, 2, 0] rfl (wX0_startAt_L2 ad n a1 n 0 μ))
-- StopsByLetters$Net.tallyInto(I)J
abbrev kX0_tallyInto : Cfg := (RX0, cX0_tallyInto, 5, (some .long), 1)
theorem dX0_tallyInto_0 : decode cX0_tallyInto 0 = .ok (.lconst 0, 1) := by decide +kernel
theorem dX0_tallyInto_1 : decode cX0_tallyInto 1 = .ok (.lstore_n 2, 1) := by decide +kernel
theorem dX0_tallyInto_2 : decode cX0_tallyInto 2 = .ok (.iconst 0, 1) := by decide +kernel
theorem dX0_tallyInto_3 : decode cX0_tallyInto 3 = .ok (.istore 4, 2) := by decide +kernel
theorem dX0_tallyInto_5 : decode cX0_tallyInto 5 = .ok (.iload 4, 2) := by decide +kernel
theorem dX0_tallyInto_7 : decode cX0_tallyInto 7 = .ok (.aload_n 0, 1) := by decide +kernel
theorem dX0_tallyInto_8 : decode cX0_tallyInto 8 = .ok (.getfield 31, 3) := by decide +kernel
theorem dX0_tallyInto_11 : decode cX0_tallyInto 11 = .ok (.if_icmp .ge 29, 3) := by decide +kernel
theorem dX0_tallyInto_14 : decode cX0_tallyInto 14 = .ok (.aload_n 0, 1) := by decide +kernel
theorem dX0_tallyInto_15 : decode cX0_tallyInto 15 = .ok (.iload 4, 2) := by decide +kernel
theorem dX0_tallyInto_17 : decode cX0_tallyInto 17 = .ok (.iload_n 1, 1) := by decide +kernel
theorem dX0_tallyInto_18 : decode cX0_tallyInto 18 = .ok (.invokevirtual 67, 3) := by decide +kernel
theorem dX0_tallyInto_21 : decode cX0_tallyInto 21 = .ok (.ifCond .eq 13, 3) := by decide +kernel
theorem dX0_tallyInto_24 : decode cX0_tallyInto 24 = .ok (.lload_n 2, 1) := by decide +kernel
theorem dX0_tallyInto_25 : decode cX0_tallyInto 25 = .ok (.aload_n 0, 1) := by decide +kernel
theorem dX0_tallyInto_26 : decode cX0_tallyInto 26 = .ok (.getfield 18, 3) := by decide +kernel
theorem dX0_tallyInto_29 : decode cX0_tallyInto 29 = .ok (.iload 4, 2) := by decide +kernel
theorem dX0_tallyInto_31 : decode cX0_tallyInto 31 = .ok (.laload, 1) := by decide +kernel
theorem dX0_tallyInto_32 : decode cX0_tallyInto 32 = .ok (.ladd, 1) := by decide +kernel
theorem dX0_tallyInto_33 : decode cX0_tallyInto 33 = .ok (.lstore_n 2, 1) := by decide +kernel
theorem dX0_tallyInto_34 : decode cX0_tallyInto 34 = .ok (.iinc 4 1, 3) := by decide +kernel
theorem dX0_tallyInto_37 : decode cX0_tallyInto 37 = .ok (.goto (-32), 3) := by decide +kernel
theorem dX0_tallyInto_40 : decode cX0_tallyInto 40 = .ok (.lload_n 2, 1) := by decide +kernel
theorem dX0_tallyInto_41 : decode cX0_tallyInto 41 = .ok (.lreturn, 1) := by decide +kernel
theorem lnX0_67 : Ln RX0 67 yX0_leads := Or.inl (tb_in 462 (by decide +kernel) rfl)
theorem moX0_leads : Mv yX0_leads kX0_leads 2 := ⟨⟨tb_in 465 (by decide +kernel) rfl, tb_in 91 (by decide +kernel) rfl, ⟨by decide, by decide⟩, by decide +kernel⟩, tb_in 464 (by decide +kernel) rfl, tb_in 24 (by decide +kernel) rfl⟩
def fX0_tallyInto_L5 (n : Nat) (v1 : Int32) : Nat → Int64 → Int32 → Mem → Option (Int64 × Mem)
  | 0, _, _, _ => none
  | F + 1, v2, v4, μ => if (μ.1 42 4) ≤ v4 then some (v2, μ) else bd (fX0_leads n v4 v1 μ) (fun r2 m1 => if r2 = 0 then bnd (v4 + 1) (fun x3 => fX0_tallyInto_L5 n v1 F v2 x3 m1) else gd (inb v4 8) (bnd (v2 + (m1.2 45 (Int32.toNatClampNeg v4))) (fun x4 => bnd (v4 + 1) (fun x5 => fX0_tallyInto_L5 n v1 F x4 x5 m1))))
def fX0_tallyInto (n : Nat) (a1 : Int32) (μ : Mem) : Option (Int64 × Mem) :=
  fX0_tallyInto_L5 n a1 n 0 0 μ
set_option maxHeartbeats 4000000 in
set_option maxRecDepth 100000 in
theorem wX0_tallyInto_L5 (ad : Nat → Nat) (n : Nat) (v1 : Int32) : ∀ (F : Nat) (v2 : Int64) (v4 : Int32) (μ : Mem), G kX0_tallyInto ad encJ 5 [(0, .ref (ad 42)), (1, .int v1), (2, .long v2), (4, .int v4)] [] μ (fX0_tallyInto_L5 n v1 F v2 v4 μ) := by
  intro F
  induction F with
  | zero =>
    intro v2 v4 μ
    exact g_none
  | succ F ih =>
    intro v2 v4 μ
    rw [fX0_tallyInto_L5]
    refine g_iload (pc := 5) 3 dX0_tallyInto_5 rfl ?_
    refine g_aload_n (pc := 7) 0 dX0_tallyInto_7 rfl rfl ?_
    refine g_get (pc := 8) rfl foX0_31 (v := .int (μ.1 42 4)) rfl dX0_tallyInto_8 ?_
    refine g_icmp_ge (pc := 11) 40 dX0_tallyInto_11 rfl ?_ ?_
    · refine g_lload_n (pc := 40) 2 dX0_tallyInto_40 rfl rfl ?_
      exact g_lreturn (pc := 41) dX0_tallyInto_41 rfl
    · refine g_aload_n (pc := 14) 0 dX0_tallyInto_14 rfl rfl ?_
      refine g_iload (pc := 15) 3 dX0_tallyInto_15 rfl ?_
      refine g_iload_n (pc := 17) 1 dX0_tallyInto_17 rfl rfl ?_
      refine g_cVI (pc := 18) (st := []) [.int v4, .int v1] rfl rfl moX0_leads lnX0_67 (ctX0_leads ad n v4 v1 μ) rfl ⟨Nat.le_of_ble_eq_true rfl, Nat.le_of_ble_eq_true rfl⟩ rfl (Nat.le_of_ble_eq_true rfl) dX0_tallyInto_18 (fun r2 m1 => ?_)
      refine g_if_eq (pc := 21) 34 dX0_tallyInto_21 rfl ?_ ?_
      · refine g_iincB (pc := 34) 3 1 1 (fun x3 => [(4, .int x3), (0, .ref (ad 42)), (1, .int v1), (2, .long v2)]) dX0_tallyInto_34 rfl (by decide) (by decide) (fun _ => rfl) (fun x3 => ?_)
        refine g_goto (pc := 37) 5 dX0_tallyInto_37 rfl ?_
        exact g_sub [1, 2, 3, 0] rfl (ih v2 x3 m1)
      · refine g_lload_n (pc := 24) 2 dX0_tallyInto_24 rfl rfl ?_
        refine g_aload_n (pc := 25) 0 dX0_tallyInto_25 rfl rfl ?_
        refine g_get (pc := 26) rfl foX0_18 (v := .ref (ad 45)) rfl dX0_tallyInto_26 ?_
        refine g_iload (pc := 29) 3 dX0_tallyInto_29 rfl ?_
        refine g_lald (pc := 31) rfl dX0_tallyInto_31 ?_
        refine g_ladd (pc := 32) dX0_tallyInto_32 ?_
        refine g_lstore_nB (pc := 33) (fun x4 => [(2, .long x4), (0, .ref (ad 42)), (1, .int v1), (4, .int v4)]) dX0_tallyInto_33 rfl (by decide) (fun _ => rfl) (fun x4 => ?_)
        refine g_iincB (pc := 34) 3 1 1 (fun x5 => [(4, .int x5), (2, .long x4), (0, .ref (ad 42)), (1, .int v1)]) dX0_tallyInto_34 rfl (by decide) (by decide) (fun _ => rfl) (fun x5 => ?_)
        refine g_goto (pc := 37) 5 dX0_tallyInto_37 rfl ?_
        exact g_sub [2, 3, 1, 0] rfl (ih x4 x5 m1)
set_option maxHeartbeats 4000000 in
set_option maxRecDepth 100000 in
theorem ctX0_tallyInto (ad : Nat → Nat) (n : Nat) (a1 : Int32) (μ : Mem) : Ct yX0_tallyInto kX0_tallyInto ad encJ [.ref (ad 42), .int a1] μ (fX0_tallyInto n a1 μ) := Ct.of (by decide +kernel) rfl (Nat.le_of_ble_eq_true rfl) (by
  show G kX0_tallyInto ad encJ 0 [(0, .ref (ad 42)), (1, .int a1)] [] μ (fX0_tallyInto n a1 μ)
  unfold fX0_tallyInto
  refine g_lconst (pc := 0) 0 dX0_tallyInto_0 (by decide) ?_
  refine g_lstore_n (pc := 1) [(2, .long 0), (0, .ref (ad 42)), (1, .int a1)] dX0_tallyInto_1 rfl (by decide) rfl ?_
  refine g_iconst (pc := 2) 0 dX0_tallyInto_2 (by decide) ?_
  refine g_istore (pc := 3) [(4, .int 0), (2, .long 0), (0, .ref (ad 42)), (1, .int a1)] dX0_tallyInto_3 (by decide) rfl ?_
  exact g_sub [2, 3, 1, 0] rfl (wX0_tallyInto_L5 ad n a1 n 0 0 μ))
-- StopsByLetters$Net.turn()V
abbrev kX0_turn : Cfg := (RX0, cX0_turn, 2, none, 0)
theorem dX0_turn_0 : decode cX0_turn 0 = .ok (.iconst 0, 1) := by decide +kernel
theorem dX0_turn_1 : decode cX0_turn 1 = .ok (.istore_n 1, 1) := by decide +kernel
theorem dX0_turn_2 : decode cX0_turn 2 = .ok (.iload_n 1, 1) := by decide +kernel
theorem dX0_turn_3 : decode cX0_turn 3 = .ok (.aload_n 0, 1) := by decide +kernel
theorem dX0_turn_4 : decode cX0_turn 4 = .ok (.getfield 31, 3) := by decide +kernel
theorem dX0_turn_7 : decode cX0_turn 7 = .ok (.if_icmp .ge 21, 3) := by decide +kernel
theorem dX0_turn_10 : decode cX0_turn 10 = .ok (.aload_n 0, 1) := by decide +kernel
theorem dX0_turn_11 : decode cX0_turn 11 = .ok (.getfield 18, 3) := by decide +kernel
theorem dX0_turn_14 : decode cX0_turn 14 = .ok (.iload_n 1, 1) := by decide +kernel
theorem dX0_turn_15 : decode cX0_turn 15 = .ok (.aload_n 0, 1) := by decide +kernel
theorem dX0_turn_16 : decode cX0_turn 16 = .ok (.getfield 22, 3) := by decide +kernel
theorem dX0_turn_19 : decode cX0_turn 19 = .ok (.iload_n 1, 1) := by decide +kernel
theorem dX0_turn_20 : decode cX0_turn 20 = .ok (.laload, 1) := by decide +kernel
theorem dX0_turn_21 : decode cX0_turn 21 = .ok (.lastore, 1) := by decide +kernel
theorem dX0_turn_22 : decode cX0_turn 22 = .ok (.iinc 1 1, 3) := by decide +kernel
theorem dX0_turn_25 : decode cX0_turn 25 = .ok (.goto (-23), 3) := by decide +kernel
theorem dX0_turn_28 : decode cX0_turn 28 = .ok (.return_, 1) := by decide +kernel
theorem foX0_22 : Fo 0 RX0 TX0 5 3 RX0 22 := ⟨rfl, by decide, rfl, uwX0, rfl, Or.inl (tb_in 179 (by decide +kernel) rfl)⟩
def fX0_turn_L2 (n : Nat) : Nat → Int32 → Mem → Option (Unit × Mem)
  | 0, _, _ => none
  | F + 1, v1, μ => if (μ.1 42 4) ≤ v1 then some ((), μ) else gd (inb v1 8) (gd (inb v1 8) (bnd (setJ μ 45 (Int32.toNatClampNeg v1) (μ.2 46 (Int32.toNatClampNeg v1))) (fun m1 => bnd (v1 + 1) (fun x2 => fX0_turn_L2 n F x2 m1))))
def fX0_turn (n : Nat) (μ : Mem) : Option (Unit × Mem) :=
  fX0_turn_L2 n n 0 μ
set_option maxHeartbeats 4000000 in
set_option maxRecDepth 100000 in
theorem wX0_turn_L2 (ad : Nat → Nat) (n : Nat) : ∀ (F : Nat) (v1 : Int32) (μ : Mem), G kX0_turn ad encV 2 [(0, .ref (ad 42)), (1, .int v1)] [] μ (fX0_turn_L2 n F v1 μ) := by
  intro F
  induction F with
  | zero =>
    intro v1 μ
    exact g_none
  | succ F ih =>
    intro v1 μ
    rw [fX0_turn_L2]
    refine g_iload_n (pc := 2) 1 dX0_turn_2 rfl rfl ?_
    refine g_aload_n (pc := 3) 0 dX0_turn_3 rfl rfl ?_
    refine g_get (pc := 4) rfl foX0_31 (v := .int (μ.1 42 4)) rfl dX0_turn_4 ?_
    refine g_icmp_ge (pc := 7) 28 dX0_turn_7 rfl ?_ ?_
    · exact g_return (pc := 28) dX0_turn_28 rfl
    · refine g_aload_n (pc := 10) 0 dX0_turn_10 rfl rfl ?_
      refine g_get (pc := 11) rfl foX0_18 (v := .ref (ad 45)) rfl dX0_turn_11 ?_
      refine g_iload_n (pc := 14) 1 dX0_turn_14 rfl rfl ?_
      refine g_aload_n (pc := 15) 0 dX0_turn_15 rfl rfl ?_
      refine g_get (pc := 16) rfl foX0_22 (v := .ref (ad 46)) rfl dX0_turn_16 ?_
      refine g_iload_n (pc := 19) 1 dX0_turn_19 rfl rfl ?_
      refine g_lald (pc := 20) rfl dX0_turn_20 ?_
      refine g_last (pc := 21) rfl dX0_turn_21 (fun m1 => ?_)
      refine g_iincB (pc := 22) 1 1 1 (fun x2 => [(1, .int x2), (0, .ref (ad 42))]) dX0_turn_22 rfl (by decide) (by decide) (fun _ => rfl) (fun x2 => ?_)
      refine g_goto (pc := 25) 2 dX0_turn_25 rfl ?_
      exact g_sub [1, 0] rfl (ih x2 m1)
set_option maxHeartbeats 4000000 in
set_option maxRecDepth 100000 in
theorem ctX0_turn (ad : Nat → Nat) (n : Nat) (μ : Mem) : Ct yX0_turn kX0_turn ad encV [.ref (ad 42)] μ (fX0_turn n μ) := Ct.of (by decide +kernel) rfl (Nat.le_of_ble_eq_true rfl) (by
  show G kX0_turn ad encV 0 [(0, .ref (ad 42))] [] μ (fX0_turn n μ)
  unfold fX0_turn
  refine g_iconst (pc := 0) 0 dX0_turn_0 (by decide) ?_
  refine g_istore_n (pc := 1) [(1, .int 0), (0, .ref (ad 42))] dX0_turn_1 rfl (by decide) rfl ?_
  exact g_sub [1, 0] rfl (wX0_turn_L2 ad n n 0 μ))
-- StopsByLetters$Net.waysBy(III)J
abbrev kX0_waysBy : Cfg := (RX0, cX0_waysBy, 6, (some .long), 2)
theorem dX0_waysBy_0 : decode cX0_waysBy 0 = .ok (.aload_n 0, 1) := by decide +kernel
theorem dX0_waysBy_1 : decode cX0_waysBy 1 = .ok (.iload_n 1, 1) := by decide +kernel
theorem dX0_waysBy_2 : decode cX0_waysBy 2 = .ok (.invokevirtual 56, 3) := by decide +kernel
theorem dX0_waysBy_5 : decode cX0_waysBy 5 = .ok (.iconst 0, 1) := by decide +kernel
theorem dX0_waysBy_6 : decode cX0_waysBy 6 = .ok (.istore 4, 2) := by decide +kernel
theorem dX0_waysBy_8 : decode cX0_waysBy 8 = .ok (.iload 4, 2) := by decide +kernel
theorem dX0_waysBy_10 : decode cX0_waysBy 10 = .ok (.iload_n 3, 1) := by decide +kernel
theorem dX0_waysBy_11 : decode cX0_waysBy 11 = .ok (.if_icmp .ge 44, 3) := by decide +kernel
theorem dX0_waysBy_14 : decode cX0_waysBy 14 = .ok (.iconst 0, 1) := by decide +kernel
theorem dX0_waysBy_15 : decode cX0_waysBy 15 = .ok (.istore 5, 2) := by decide +kernel
theorem dX0_waysBy_17 : decode cX0_waysBy 17 = .ok (.iload 5, 2) := by decide +kernel
theorem dX0_waysBy_19 : decode cX0_waysBy 19 = .ok (.aload_n 0, 1) := by decide +kernel
theorem dX0_waysBy_20 : decode cX0_waysBy 20 = .ok (.getfield 31, 3) := by decide +kernel
theorem dX0_waysBy_23 : decode cX0_waysBy 23 = .ok (.if_icmp .ge 22, 3) := by decide +kernel
theorem dX0_waysBy_26 : decode cX0_waysBy 26 = .ok (.aload_n 0, 1) := by decide +kernel
theorem dX0_waysBy_27 : decode cX0_waysBy 27 = .ok (.getfield 22, 3) := by decide +kernel
theorem dX0_waysBy_30 : decode cX0_waysBy 30 = .ok (.iload 5, 2) := by decide +kernel
theorem dX0_waysBy_32 : decode cX0_waysBy 32 = .ok (.aload_n 0, 1) := by decide +kernel
theorem dX0_waysBy_33 : decode cX0_waysBy 33 = .ok (.iload 5, 2) := by decide +kernel
theorem dX0_waysBy_35 : decode cX0_waysBy 35 = .ok (.invokevirtual 60, 3) := by decide +kernel
theorem dX0_waysBy_38 : decode cX0_waysBy 38 = .ok (.lastore, 1) := by decide +kernel
theorem dX0_waysBy_39 : decode cX0_waysBy 39 = .ok (.iinc 5 1, 3) := by decide +kernel
theorem dX0_waysBy_42 : decode cX0_waysBy 42 = .ok (.goto (-25), 3) := by decide +kernel
theorem dX0_waysBy_45 : decode cX0_waysBy 45 = .ok (.aload_n 0, 1) := by decide +kernel
theorem dX0_waysBy_46 : decode cX0_waysBy 46 = .ok (.invokevirtual 64, 3) := by decide +kernel
theorem dX0_waysBy_49 : decode cX0_waysBy 49 = .ok (.iinc 4 1, 3) := by decide +kernel
theorem dX0_waysBy_52 : decode cX0_waysBy 52 = .ok (.goto (-44), 3) := by decide +kernel
theorem dX0_waysBy_55 : decode cX0_waysBy 55 = .ok (.aload_n 0, 1) := by decide +kernel
theorem dX0_waysBy_56 : decode cX0_waysBy 56 = .ok (.getfield 18, 3) := by decide +kernel
theorem dX0_waysBy_59 : decode cX0_waysBy 59 = .ok (.iload_n 2, 1) := by decide +kernel
theorem dX0_waysBy_60 : decode cX0_waysBy 60 = .ok (.laload, 1) := by decide +kernel
theorem dX0_waysBy_61 : decode cX0_waysBy 61 = .ok (.lreturn, 1) := by decide +kernel
theorem lnX0_60 : Ln RX0 60 yX0_tallyInto := Or.inl (tb_in 458 (by decide +kernel) rfl)
theorem moX0_tallyInto : Mv yX0_tallyInto kX0_tallyInto 1 := ⟨⟨tb_in 461 (by decide +kernel) rfl, tb_in 91 (by decide +kernel) rfl, ⟨by decide, by decide⟩, by decide +kernel⟩, tb_in 460 (by decide +kernel) rfl, tb_in 23 (by decide +kernel) rfl⟩
def fX0_waysBy_L17 (n : Nat) (v2 : Int32) (v3 : Int32) (v4 : Int32) (K1 : Mem → Option (Int64 × Mem)) : Nat → Int32 → Mem → Option (Int64 × Mem)
  | 0, _, _ => none
  | F + 1, v5, μ => if (μ.1 42 4) ≤ v5 then K1 μ else bd (fX0_tallyInto n v5 μ) (fun r4 m3 => gd (inb v5 8) (bnd (setJ m3 46 (Int32.toNatClampNeg v5) r4) (fun m5 => bnd (v5 + 1) (fun x6 => fX0_waysBy_L17 n v2 v3 v4 K1 F x6 m5))))
theorem lnX0_64 : Ln RX0 64 yX0_turn := Or.inl (tb_in 466 (by decide +kernel) rfl)
theorem moX0_turn : Mv yX0_turn kX0_turn 0 := ⟨⟨tb_in 469 (by decide +kernel) rfl, tb_in 91 (by decide +kernel) rfl, ⟨by decide, by decide⟩, by decide +kernel⟩, tb_in 468 (by decide +kernel) rfl, tb_in 25 (by decide +kernel) rfl⟩
def fX0_waysBy_L8 (n : Nat) (v2 : Int32) (v3 : Int32) : Nat → Int32 → Mem → Option (Int64 × Mem)
  | 0, _, _ => none
  | F + 1, v4, μ => if v3 ≤ v4 then gd (inb v2 8) (some ((μ.2 45 (Int32.toNatClampNeg v2)), μ)) else fX0_waysBy_L17 n v2 v3 v4 (fun (m7 : Mem) => bd (fX0_turn n m7) (fun r9 m8 => bnd (v4 + 1) (fun x10 => fX0_waysBy_L8 n v2 v3 F x10 m8))) n 0 μ
theorem lnX0_56 : Ln RX0 56 yX0_startAt := Or.inl (tb_in 454 (by decide +kernel) rfl)
theorem moX0_startAt : Mv yX0_startAt kX0_startAt 1 := ⟨⟨tb_in 457 (by decide +kernel) rfl, tb_in 91 (by decide +kernel) rfl, ⟨by decide, by decide⟩, by decide +kernel⟩, tb_in 456 (by decide +kernel) rfl, tb_in 22 (by decide +kernel) rfl⟩
def fX0_waysBy (n : Nat) (a1 : Int32) (a2 : Int32) (a3 : Int32) (μ : Mem) : Option (Int64 × Mem) :=
  bd (fX0_startAt n a1 μ) (fun r2 m1 => fX0_waysBy_L8 n a2 a3 n 0 m1)
set_option maxHeartbeats 4000000 in
set_option maxRecDepth 100000 in
theorem wX0_waysBy_L17 (ad : Nat → Nat) (n : Nat) (v2 : Int32) (v3 : Int32) (v4 : Int32) (K1 : Mem → Option (Int64 × Mem)) (hK1 : ∀ (μ : Mem), G kX0_waysBy ad encJ 45 [(0, .ref (ad 42)), (2, .int v2), (3, .int v3), (4, .int v4)] [] μ (K1 μ)) : ∀ (F : Nat) (v5 : Int32) (μ : Mem), G kX0_waysBy ad encJ 17 [(0, .ref (ad 42)), (2, .int v2), (3, .int v3), (4, .int v4), (5, .int v5)] [] μ (fX0_waysBy_L17 n v2 v3 v4 K1 F v5 μ) := by
  intro F
  induction F with
  | zero =>
    intro v5 μ
    exact g_none
  | succ F ih =>
    intro v5 μ
    rw [fX0_waysBy_L17]
    refine g_iload (pc := 17) 4 dX0_waysBy_17 rfl ?_
    refine g_aload_n (pc := 19) 0 dX0_waysBy_19 rfl rfl ?_
    refine g_get (pc := 20) rfl foX0_31 (v := .int (μ.1 42 4)) rfl dX0_waysBy_20 ?_
    refine g_icmp_ge (pc := 23) 45 dX0_waysBy_23 rfl ?_ ?_
    · exact g_sub [0, 1, 2, 3] rfl (hK1 μ)
    · refine g_aload_n (pc := 26) 0 dX0_waysBy_26 rfl rfl ?_
      refine g_get (pc := 27) rfl foX0_22 (v := .ref (ad 46)) rfl dX0_waysBy_27 ?_
      refine g_iload (pc := 30) 4 dX0_waysBy_30 rfl ?_
      refine g_aload_n (pc := 32) 0 dX0_waysBy_32 rfl rfl ?_
      refine g_iload (pc := 33) 4 dX0_waysBy_33 rfl ?_
      refine g_cVJ (pc := 35) (st := [.int v5, .ref (ad 46)]) [.int v5] rfl rfl moX0_tallyInto lnX0_60 (ctX0_tallyInto ad n v5 μ) rfl ⟨Nat.le_of_ble_eq_true rfl, Nat.le_of_ble_eq_true rfl⟩ rfl (Nat.le_of_ble_eq_true rfl) dX0_waysBy_35 (fun r4 m3 => ?_)
      refine g_last (pc := 38) rfl dX0_waysBy_38 (fun m5 => ?_)
      refine g_iincB (pc := 39) 4 1 1 (fun x6 => [(5, .int x6), (0, .ref (ad 42)), (2, .int v2), (3, .int v3), (4, .int v4)]) dX0_waysBy_39 rfl (by decide) (by decide) (fun _ => rfl) (fun x6 => ?_)
      refine g_goto (pc := 42) 17 dX0_waysBy_42 rfl ?_
      exact g_sub [1, 2, 3, 4, 0] rfl (ih x6 m5)
set_option maxHeartbeats 4000000 in
set_option maxRecDepth 100000 in
theorem wX0_waysBy_L8 (ad : Nat → Nat) (n : Nat) (v2 : Int32) (v3 : Int32) : ∀ (F : Nat) (v4 : Int32) (μ : Mem), G kX0_waysBy ad encJ 8 [(0, .ref (ad 42)), (2, .int v2), (3, .int v3), (4, .int v4)] [] μ (fX0_waysBy_L8 n v2 v3 F v4 μ) := by
  intro F
  induction F with
  | zero =>
    intro v4 μ
    exact g_none
  | succ F ih =>
    intro v4 μ
    rw [fX0_waysBy_L8]
    refine g_iload (pc := 8) 3 dX0_waysBy_8 rfl ?_
    refine g_iload_n (pc := 10) 2 dX0_waysBy_10 rfl rfl ?_
    refine g_icmp_ge (pc := 11) 55 dX0_waysBy_11 rfl ?_ ?_
    · refine g_aload_n (pc := 55) 0 dX0_waysBy_55 rfl rfl ?_
      refine g_get (pc := 56) rfl foX0_18 (v := .ref (ad 45)) rfl dX0_waysBy_56 ?_
      refine g_iload_n (pc := 59) 1 dX0_waysBy_59 rfl rfl ?_
      refine g_lald (pc := 60) rfl dX0_waysBy_60 ?_
      exact g_lreturn (pc := 61) dX0_waysBy_61 rfl
    · refine g_iconst (pc := 14) 0 dX0_waysBy_14 (by decide) ?_
      refine g_istore (pc := 15) [(5, .int 0), (0, .ref (ad 42)), (2, .int v2), (3, .int v3), (4, .int v4)] dX0_waysBy_15 (by decide) rfl ?_
      refine g_sub [1, 2, 3, 4, 0] rfl (wX0_waysBy_L17 ad n v2 v3 v4 _ (fun m7 => ?_) n 0 μ)
      refine g_aload_n (pc := 45) 0 dX0_waysBy_45 rfl rfl ?_
      refine g_cVV (pc := 46) (st := []) [] rfl rfl moX0_turn lnX0_64 (ctX0_turn ad n m7) rfl ⟨Nat.le_of_ble_eq_true rfl, Nat.le_of_ble_eq_true rfl⟩ rfl (Nat.le_of_ble_eq_true rfl) dX0_waysBy_46 (fun r9 m8 => ?_)
      refine g_iincB (pc := 49) 3 1 1 (fun x10 => [(4, .int x10), (0, .ref (ad 42)), (2, .int v2), (3, .int v3)]) dX0_waysBy_49 rfl (by decide) (by decide) (fun _ => rfl) (fun x10 => ?_)
      refine g_goto (pc := 52) 8 dX0_waysBy_52 rfl ?_
      exact g_sub [1, 2, 3, 0] rfl (ih x10 m8)
set_option maxHeartbeats 4000000 in
set_option maxRecDepth 100000 in
theorem ctX0_waysBy (ad : Nat → Nat) (n : Nat) (a1 : Int32) (a2 : Int32) (a3 : Int32) (μ : Mem) : Ct yX0_waysBy kX0_waysBy ad encJ [.ref (ad 42), .int a1, .int a2, .int a3] μ (fX0_waysBy n a1 a2 a3 μ) := Ct.of (by decide +kernel) rfl (Nat.le_of_ble_eq_true rfl) (by
  show G kX0_waysBy ad encJ 0 [(0, .ref (ad 42)), (1, .int a1), (2, .int a2), (3, .int a3)] [] μ (fX0_waysBy n a1 a2 a3 μ)
  unfold fX0_waysBy
  refine g_aload_n (pc := 0) 0 dX0_waysBy_0 rfl rfl ?_
  refine g_iload_n (pc := 1) 1 dX0_waysBy_1 rfl rfl ?_
  refine g_cVV (pc := 2) (st := []) [.int a1] rfl rfl moX0_startAt lnX0_56 (ctX0_startAt ad n a1 μ) rfl ⟨Nat.le_of_ble_eq_true rfl, Nat.le_of_ble_eq_true rfl⟩ rfl (Nat.le_of_ble_eq_true rfl) dX0_waysBy_2 (fun r2 m1 => ?_)
  refine g_iconst (pc := 5) 0 dX0_waysBy_5 (by decide) ?_
  refine g_istore (pc := 6) [(4, .int 0), (0, .ref (ad 42)), (1, .int a1), (2, .int a2), (3, .int a3)] dX0_waysBy_6 (by decide) rfl ?_
  exact g_sub [1, 3, 4, 0] rfl (wX0_waysBy_L8 ad n a2 a3 n 0 m1))
-- StopsByLetters$Net.shareOut(I)V
abbrev kX0_shareOut : Cfg := (RX0, cX0_shareOut, 6, none, 1)
theorem dX0_shareOut_0 : decode cX0_shareOut 0 = .ok (.aload_n 0, 1) := by decide +kernel
theorem dX0_shareOut_1 : decode cX0_shareOut 1 = .ok (.getfield 9, 3) := by decide +kernel
theorem dX0_shareOut_4 : decode cX0_shareOut 4 = .ok (.iload_n 1, 1) := by decide +kernel
theorem dX0_shareOut_5 : decode cX0_shareOut 5 = .ok (.iaload, 1) := by decide +kernel
theorem dX0_shareOut_6 : decode cX0_shareOut 6 = .ok (.invokestatic 51, 3) := by decide +kernel
theorem dX0_shareOut_9 : decode cX0_shareOut 9 = .ok (.istore_n 2, 1) := by decide +kernel
theorem dX0_shareOut_10 : decode cX0_shareOut 10 = .ok (.iload_n 2, 1) := by decide +kernel
theorem dX0_shareOut_11 : decode cX0_shareOut 11 = .ok (.iconst 1, 1) := by decide +kernel
theorem dX0_shareOut_12 : decode cX0_shareOut 12 = .ok (.if_icmp .ge 23, 3) := by decide +kernel
theorem dX0_shareOut_15 : decode cX0_shareOut 15 = .ok (.aload_n 0, 1) := by decide +kernel
theorem dX0_shareOut_16 : decode cX0_shareOut 16 = .ok (.getfield 22, 3) := by decide +kernel
theorem dX0_shareOut_19 : decode cX0_shareOut 19 = .ok (.iload_n 1, 1) := by decide +kernel
theorem dX0_shareOut_20 : decode cX0_shareOut 20 = .ok (.dup2, 1) := by decide +kernel
theorem dX0_shareOut_21 : decode cX0_shareOut 21 = .ok (.laload, 1) := by decide +kernel
theorem dX0_shareOut_22 : decode cX0_shareOut 22 = .ok (.ldc2_w 73, 3) := by decide +kernel
theorem dX0_shareOut_25 : decode cX0_shareOut 25 = .ok (.aload_n 0, 1) := by decide +kernel
theorem dX0_shareOut_26 : decode cX0_shareOut 26 = .ok (.getfield 18, 3) := by decide +kernel
theorem dX0_shareOut_29 : decode cX0_shareOut 29 = .ok (.iload_n 1, 1) := by decide +kernel
theorem dX0_shareOut_30 : decode cX0_shareOut 30 = .ok (.laload, 1) := by decide +kernel
theorem dX0_shareOut_31 : decode cX0_shareOut 31 = .ok (.lmul, 1) := by decide +kernel
theorem dX0_shareOut_32 : decode cX0_shareOut 32 = .ok (.ladd, 1) := by decide +kernel
theorem dX0_shareOut_33 : decode cX0_shareOut 33 = .ok (.lastore, 1) := by decide +kernel
theorem dX0_shareOut_34 : decode cX0_shareOut 34 = .ok (.return_, 1) := by decide +kernel
theorem dX0_shareOut_35 : decode cX0_shareOut 35 = .ok (.ldc2_w 73, 3) := by decide +kernel
theorem dX0_shareOut_38 : decode cX0_shareOut 38 = .ok (.aload_n 0, 1) := by decide +kernel
theorem dX0_shareOut_39 : decode cX0_shareOut 39 = .ok (.getfield 18, 3) := by decide +kernel
theorem dX0_shareOut_42 : decode cX0_shareOut 42 = .ok (.iload_n 1, 1) := by decide +kernel
theorem dX0_shareOut_43 : decode cX0_shareOut 43 = .ok (.laload, 1) := by decide +kernel
theorem dX0_shareOut_44 : decode cX0_shareOut 44 = .ok (.lmul, 1) := by decide +kernel
theorem dX0_shareOut_45 : decode cX0_shareOut 45 = .ok (.iload_n 2, 1) := by decide +kernel
theorem dX0_shareOut_46 : decode cX0_shareOut 46 = .ok (.i2l, 1) := by decide +kernel
theorem dX0_shareOut_47 : decode cX0_shareOut 47 = .ok (.ldiv, 1) := by decide +kernel
theorem dX0_shareOut_48 : decode cX0_shareOut 48 = .ok (.lstore_n 3, 1) := by decide +kernel
theorem dX0_shareOut_49 : decode cX0_shareOut 49 = .ok (.iconst 0, 1) := by decide +kernel
theorem dX0_shareOut_50 : decode cX0_shareOut 50 = .ok (.istore 5, 2) := by decide +kernel
theorem dX0_shareOut_52 : decode cX0_shareOut 52 = .ok (.iload 5, 2) := by decide +kernel
theorem dX0_shareOut_54 : decode cX0_shareOut 54 = .ok (.aload_n 0, 1) := by decide +kernel
theorem dX0_shareOut_55 : decode cX0_shareOut 55 = .ok (.getfield 31, 3) := by decide +kernel
theorem dX0_shareOut_58 : decode cX0_shareOut 58 = .ok (.if_icmp .ge 30, 3) := by decide +kernel
theorem dX0_shareOut_61 : decode cX0_shareOut 61 = .ok (.aload_n 0, 1) := by decide +kernel
theorem dX0_shareOut_62 : decode cX0_shareOut 62 = .ok (.iload_n 1, 1) := by decide +kernel
theorem dX0_shareOut_63 : decode cX0_shareOut 63 = .ok (.iload 5, 2) := by decide +kernel
theorem dX0_shareOut_65 : decode cX0_shareOut 65 = .ok (.invokevirtual 67, 3) := by decide +kernel
theorem dX0_shareOut_68 : decode cX0_shareOut 68 = .ok (.ifCond .eq 14, 3) := by decide +kernel
theorem dX0_shareOut_71 : decode cX0_shareOut 71 = .ok (.aload_n 0, 1) := by decide +kernel
theorem dX0_shareOut_72 : decode cX0_shareOut 72 = .ok (.getfield 22, 3) := by decide +kernel
theorem dX0_shareOut_75 : decode cX0_shareOut 75 = .ok (.iload 5, 2) := by decide +kernel
theorem dX0_shareOut_77 : decode cX0_shareOut 77 = .ok (.dup2, 1) := by decide +kernel
theorem dX0_shareOut_78 : decode cX0_shareOut 78 = .ok (.laload, 1) := by decide +kernel
theorem dX0_shareOut_79 : decode cX0_shareOut 79 = .ok (.lload_n 3, 1) := by decide +kernel
theorem dX0_shareOut_80 : decode cX0_shareOut 80 = .ok (.ladd, 1) := by decide +kernel
theorem dX0_shareOut_81 : decode cX0_shareOut 81 = .ok (.lastore, 1) := by decide +kernel
theorem dX0_shareOut_82 : decode cX0_shareOut 82 = .ok (.iinc 5 1, 3) := by decide +kernel
theorem dX0_shareOut_85 : decode cX0_shareOut 85 = .ok (.goto (-33), 3) := by decide +kernel
theorem dX0_shareOut_88 : decode cX0_shareOut 88 = .ok (.return_, 1) := by decide +kernel
theorem cwX0_73 : Cond.constantLong RX0 73 (2 : Int64) ∈ TB := tb_in 571 (by decide +kernel) rfl
def fX0_shareOut_L52 (n : Nat) (v1 : Int32) (v3 : Int64) : Nat → Int32 → Mem → Option (Unit × Mem)
  | 0, _, _ => none
  | F + 1, v5, μ => if (μ.1 42 4) ≤ v5 then some ((), μ) else bd (fX0_leads n v1 v5 μ) (fun r5 m4 => if r5 = 0 then bnd (v5 + 1) (fun x6 => fX0_shareOut_L52 n v1 v3 F x6 m4) else gd (inb v5 8) (gd (inb v5 8) (bnd (setJ m4 46 (Int32.toNatClampNeg v5) ((m4.2 46 (Int32.toNatClampNeg v5)) + v3)) (fun m7 => bnd (v5 + 1) (fun x8 => fX0_shareOut_L52 n v1 v3 F x8 m7)))))
def fX0_shareOut (n : Nat) (a1 : Int32) (μ : Mem) : Option (Unit × Mem) :=
  gd (inb a1 8) (bd (fJ6_bitCount_0f7a4 n (μ.1 43 (Int32.toNatClampNeg a1)) μ) (fun r2 m1 => if 1 ≤ r2 then gd (inb a1 8) (gd (nzL r2.toInt64) (bnd ((2 * (m1.2 45 (Int32.toNatClampNeg a1))) / r2.toInt64) (fun x3 => fX0_shareOut_L52 n a1 x3 n 0 m1))) else gd (inb a1 8) (gd (inb a1 8) (gd (inb a1 8) (bnd (setJ m1 46 (Int32.toNatClampNeg a1) ((m1.2 46 (Int32.toNatClampNeg a1)) + (2 * (m1.2 45 (Int32.toNatClampNeg a1))))) (fun m9 => some ((), m9)))))))
set_option maxHeartbeats 4000000 in
set_option maxRecDepth 100000 in
theorem wX0_shareOut_L52 (ad : Nat → Nat) (n : Nat) (v1 : Int32) (v3 : Int64) : ∀ (F : Nat) (v5 : Int32) (μ : Mem), G kX0_shareOut ad encV 52 [(0, .ref (ad 42)), (1, .int v1), (3, .long v3), (5, .int v5)] [] μ (fX0_shareOut_L52 n v1 v3 F v5 μ) := by
  intro F
  induction F with
  | zero =>
    intro v5 μ
    exact g_none
  | succ F ih =>
    intro v5 μ
    rw [fX0_shareOut_L52]
    refine g_iload (pc := 52) 3 dX0_shareOut_52 rfl ?_
    refine g_aload_n (pc := 54) 0 dX0_shareOut_54 rfl rfl ?_
    refine g_get (pc := 55) rfl foX0_31 (v := .int (μ.1 42 4)) rfl dX0_shareOut_55 ?_
    refine g_icmp_ge (pc := 58) 88 dX0_shareOut_58 rfl ?_ ?_
    · exact g_return (pc := 88) dX0_shareOut_88 rfl
    · refine g_aload_n (pc := 61) 0 dX0_shareOut_61 rfl rfl ?_
      refine g_iload_n (pc := 62) 1 dX0_shareOut_62 rfl rfl ?_
      refine g_iload (pc := 63) 3 dX0_shareOut_63 rfl ?_
      refine g_cVI (pc := 65) (st := []) [.int v1, .int v5] rfl rfl moX0_leads lnX0_67 (ctX0_leads ad n v1 v5 μ) rfl ⟨Nat.le_of_ble_eq_true rfl, Nat.le_of_ble_eq_true rfl⟩ rfl (Nat.le_of_ble_eq_true rfl) dX0_shareOut_65 (fun r5 m4 => ?_)
      refine g_if_eq (pc := 68) 82 dX0_shareOut_68 rfl ?_ ?_
      · refine g_iincB (pc := 82) 3 1 1 (fun x6 => [(5, .int x6), (0, .ref (ad 42)), (1, .int v1), (3, .long v3)]) dX0_shareOut_82 rfl (by decide) (by decide) (fun _ => rfl) (fun x6 => ?_)
        refine g_goto (pc := 85) 52 dX0_shareOut_85 rfl ?_
        exact g_sub [1, 2, 3, 0] rfl (ih x6 m4)
      · refine g_aload_n (pc := 71) 0 dX0_shareOut_71 rfl rfl ?_
        refine g_get (pc := 72) rfl foX0_22 (v := .ref (ad 46)) rfl dX0_shareOut_72 ?_
        refine g_iload (pc := 75) 3 dX0_shareOut_75 rfl ?_
        refine g_dup2 (pc := 77) dX0_shareOut_77 rfl rfl ?_
        refine g_lald (pc := 78) rfl dX0_shareOut_78 ?_
        refine g_lload_n (pc := 79) 2 dX0_shareOut_79 rfl rfl ?_
        refine g_ladd (pc := 80) dX0_shareOut_80 ?_
        refine g_last (pc := 81) rfl dX0_shareOut_81 (fun m7 => ?_)
        refine g_iincB (pc := 82) 3 1 1 (fun x8 => [(5, .int x8), (0, .ref (ad 42)), (1, .int v1), (3, .long v3)]) dX0_shareOut_82 rfl (by decide) (by decide) (fun _ => rfl) (fun x8 => ?_)
        refine g_goto (pc := 85) 52 dX0_shareOut_85 rfl ?_
        exact g_sub [1, 2, 3, 0] rfl (ih x8 m7)
set_option maxHeartbeats 4000000 in
set_option maxRecDepth 100000 in
theorem ctX0_shareOut (ad : Nat → Nat) (n : Nat) (a1 : Int32) (μ : Mem) : Ct yX0_shareOut kX0_shareOut ad encV [.ref (ad 42), .int a1] μ (fX0_shareOut n a1 μ) := Ct.of (by decide +kernel) rfl (Nat.le_of_ble_eq_true rfl) (by
  show G kX0_shareOut ad encV 0 [(0, .ref (ad 42)), (1, .int a1)] [] μ (fX0_shareOut n a1 μ)
  unfold fX0_shareOut
  refine g_aload_n (pc := 0) 0 dX0_shareOut_0 rfl rfl ?_
  refine g_get (pc := 1) rfl foX0_9 (v := .ref (ad 43)) rfl dX0_shareOut_1 ?_
  refine g_iload_n (pc := 4) 1 dX0_shareOut_4 rfl rfl ?_
  refine g_iald (pc := 5) rfl (by decide) dX0_shareOut_5 ?_
  refine g_cSI (pc := 6) (st := []) [.int (μ.1 43 (Int32.toNatClampNeg a1))] moJ6_bitCount_0f7a4 lnX0_51 (ctJ6_bitCount_0f7a4 ad n (μ.1 43 (Int32.toNatClampNeg a1)) μ) rfl ⟨Nat.le_of_ble_eq_true rfl, Nat.le_of_ble_eq_true rfl⟩ rfl (Nat.le_of_ble_eq_true rfl) dX0_shareOut_6 (fun r2 m1 => ?_)
  refine g_istore_n (pc := 9) [(2, .int r2), (0, .ref (ad 42)), (1, .int a1)] dX0_shareOut_9 rfl (by decide) rfl ?_
  refine g_iload_n (pc := 10) 0 dX0_shareOut_10 rfl rfl ?_
  refine g_iconst (pc := 11) 1 dX0_shareOut_11 (by decide) ?_
  refine g_icmp_ge (pc := 12) 35 dX0_shareOut_12 rfl ?_ ?_
  · refine g_ldc2 (pc := 35) dX0_shareOut_35 cwX0_73 ?_
    refine g_aload_n (pc := 38) 1 dX0_shareOut_38 rfl rfl ?_
    refine g_get (pc := 39) rfl foX0_18 (v := .ref (ad 45)) rfl dX0_shareOut_39 ?_
    refine g_iload_n (pc := 42) 2 dX0_shareOut_42 rfl rfl ?_
    refine g_lald (pc := 43) rfl dX0_shareOut_43 ?_
    refine g_lmul (pc := 44) dX0_shareOut_44 ?_
    refine g_iload_n (pc := 45) 0 dX0_shareOut_45 rfl rfl ?_
    refine g_i2l (pc := 46) dX0_shareOut_46 ?_
    refine g_ldivG (pc := 47) dX0_shareOut_47 ?_
    refine g_lstore_nB (pc := 48) (fun x3 => [(3, .long x3), (2, .int r2), (0, .ref (ad 42)), (1, .int a1)]) dX0_shareOut_48 rfl (by decide) (fun _ => rfl) (fun x3 => ?_)
    refine g_iconst (pc := 49) 0 dX0_shareOut_49 (by decide) ?_
    refine g_istore (pc := 50) [(5, .int 0), (3, .long x3), (2, .int r2), (0, .ref (ad 42)), (1, .int a1)] dX0_shareOut_50 (by decide) rfl ?_
    exact g_sub [3, 4, 1, 0] rfl (wX0_shareOut_L52 ad n a1 x3 n 0 m1)
  · refine g_aload_n (pc := 15) 1 dX0_shareOut_15 rfl rfl ?_
    refine g_get (pc := 16) rfl foX0_22 (v := .ref (ad 46)) rfl dX0_shareOut_16 ?_
    refine g_iload_n (pc := 19) 2 dX0_shareOut_19 rfl rfl ?_
    refine g_dup2 (pc := 20) dX0_shareOut_20 rfl rfl ?_
    refine g_lald (pc := 21) rfl dX0_shareOut_21 ?_
    refine g_ldc2 (pc := 22) dX0_shareOut_22 cwX0_73 ?_
    refine g_aload_n (pc := 25) 1 dX0_shareOut_25 rfl rfl ?_
    refine g_get (pc := 26) rfl foX0_18 (v := .ref (ad 45)) rfl dX0_shareOut_26 ?_
    refine g_iload_n (pc := 29) 2 dX0_shareOut_29 rfl rfl ?_
    refine g_lald (pc := 30) rfl dX0_shareOut_30 ?_
    refine g_lmul (pc := 31) dX0_shareOut_31 ?_
    refine g_ladd (pc := 32) dX0_shareOut_32 ?_
    refine g_last (pc := 33) rfl dX0_shareOut_33 (fun m9 => ?_)
    exact g_return (pc := 34) dX0_shareOut_34 rfl)
-- StopsByLetters$Net.lotsOf(III)J
abbrev kX0_lotsOf : Cfg := (RX0, cX0_lotsOf, 6, (some .long), 2)
theorem dX0_lotsOf_0 : decode cX0_lotsOf 0 = .ok (.aload_n 0, 1) := by decide +kernel
theorem dX0_lotsOf_1 : decode cX0_lotsOf 1 = .ok (.iload_n 1, 1) := by decide +kernel
theorem dX0_lotsOf_2 : decode cX0_lotsOf 2 = .ok (.invokevirtual 56, 3) := by decide +kernel
theorem dX0_lotsOf_5 : decode cX0_lotsOf 5 = .ok (.iconst 0, 1) := by decide +kernel
theorem dX0_lotsOf_6 : decode cX0_lotsOf 6 = .ok (.istore 4, 2) := by decide +kernel
theorem dX0_lotsOf_8 : decode cX0_lotsOf 8 = .ok (.iload 4, 2) := by decide +kernel
theorem dX0_lotsOf_10 : decode cX0_lotsOf 10 = .ok (.iload_n 3, 1) := by decide +kernel
theorem dX0_lotsOf_11 : decode cX0_lotsOf 11 = .ok (.if_icmp .ge 63, 3) := by decide +kernel
theorem dX0_lotsOf_14 : decode cX0_lotsOf 14 = .ok (.iconst 0, 1) := by decide +kernel
theorem dX0_lotsOf_15 : decode cX0_lotsOf 15 = .ok (.istore 5, 2) := by decide +kernel
theorem dX0_lotsOf_17 : decode cX0_lotsOf 17 = .ok (.iload 5, 2) := by decide +kernel
theorem dX0_lotsOf_19 : decode cX0_lotsOf 19 = .ok (.aload_n 0, 1) := by decide +kernel
theorem dX0_lotsOf_20 : decode cX0_lotsOf 20 = .ok (.getfield 31, 3) := by decide +kernel
theorem dX0_lotsOf_23 : decode cX0_lotsOf 23 = .ok (.if_icmp .ge 17, 3) := by decide +kernel
theorem dX0_lotsOf_26 : decode cX0_lotsOf 26 = .ok (.aload_n 0, 1) := by decide +kernel
theorem dX0_lotsOf_27 : decode cX0_lotsOf 27 = .ok (.getfield 22, 3) := by decide +kernel
theorem dX0_lotsOf_30 : decode cX0_lotsOf 30 = .ok (.iload 5, 2) := by decide +kernel
theorem dX0_lotsOf_32 : decode cX0_lotsOf 32 = .ok (.lconst 0, 1) := by decide +kernel
theorem dX0_lotsOf_33 : decode cX0_lotsOf 33 = .ok (.lastore, 1) := by decide +kernel
theorem dX0_lotsOf_34 : decode cX0_lotsOf 34 = .ok (.iinc 5 1, 3) := by decide +kernel
theorem dX0_lotsOf_37 : decode cX0_lotsOf 37 = .ok (.goto (-20), 3) := by decide +kernel
theorem dX0_lotsOf_40 : decode cX0_lotsOf 40 = .ok (.iconst 0, 1) := by decide +kernel
theorem dX0_lotsOf_41 : decode cX0_lotsOf 41 = .ok (.istore 5, 2) := by decide +kernel
theorem dX0_lotsOf_43 : decode cX0_lotsOf 43 = .ok (.iload 5, 2) := by decide +kernel
theorem dX0_lotsOf_45 : decode cX0_lotsOf 45 = .ok (.aload_n 0, 1) := by decide +kernel
theorem dX0_lotsOf_46 : decode cX0_lotsOf 46 = .ok (.getfield 31, 3) := by decide +kernel
theorem dX0_lotsOf_49 : decode cX0_lotsOf 49 = .ok (.if_icmp .ge 15, 3) := by decide +kernel
theorem dX0_lotsOf_52 : decode cX0_lotsOf 52 = .ok (.aload_n 0, 1) := by decide +kernel
theorem dX0_lotsOf_53 : decode cX0_lotsOf 53 = .ok (.iload 5, 2) := by decide +kernel
theorem dX0_lotsOf_55 : decode cX0_lotsOf 55 = .ok (.invokevirtual 70, 3) := by decide +kernel
theorem dX0_lotsOf_58 : decode cX0_lotsOf 58 = .ok (.iinc 5 1, 3) := by decide +kernel
theorem dX0_lotsOf_61 : decode cX0_lotsOf 61 = .ok (.goto (-18), 3) := by decide +kernel
theorem dX0_lotsOf_64 : decode cX0_lotsOf 64 = .ok (.aload_n 0, 1) := by decide +kernel
theorem dX0_lotsOf_65 : decode cX0_lotsOf 65 = .ok (.invokevirtual 64, 3) := by decide +kernel
theorem dX0_lotsOf_68 : decode cX0_lotsOf 68 = .ok (.iinc 4 1, 3) := by decide +kernel
theorem dX0_lotsOf_71 : decode cX0_lotsOf 71 = .ok (.goto (-63), 3) := by decide +kernel
theorem dX0_lotsOf_74 : decode cX0_lotsOf 74 = .ok (.aload_n 0, 1) := by decide +kernel
theorem dX0_lotsOf_75 : decode cX0_lotsOf 75 = .ok (.getfield 18, 3) := by decide +kernel
theorem dX0_lotsOf_78 : decode cX0_lotsOf 78 = .ok (.iload_n 2, 1) := by decide +kernel
theorem dX0_lotsOf_79 : decode cX0_lotsOf 79 = .ok (.laload, 1) := by decide +kernel
theorem dX0_lotsOf_80 : decode cX0_lotsOf 80 = .ok (.lreturn, 1) := by decide +kernel
def fX0_lotsOf_L17 (n : Nat) (v2 : Int32) (v3 : Int32) (v4 : Int32) (K1 : Mem → Option (Int64 × Mem)) : Nat → Int32 → Mem → Option (Int64 × Mem)
  | 0, _, _ => none
  | F + 1, v5, μ => if (μ.1 42 4) ≤ v5 then K1 μ else gd (inb v5 8) (bnd (setJ μ 46 (Int32.toNatClampNeg v5) 0) (fun m3 => bnd (v5 + 1) (fun x4 => fX0_lotsOf_L17 n v2 v3 v4 K1 F x4 m3)))
theorem lnX0_70 : Ln RX0 70 yX0_shareOut := Or.inl (tb_in 567 (by decide +kernel) rfl)
theorem moX0_shareOut : Mv yX0_shareOut kX0_shareOut 1 := ⟨⟨tb_in 570 (by decide +kernel) rfl, tb_in 91 (by decide +kernel) rfl, ⟨by decide, by decide⟩, by decide +kernel⟩, tb_in 569 (by decide +kernel) rfl, tb_in 38 (by decide +kernel) rfl⟩
def fX0_lotsOf_L43 (n : Nat) (v2 : Int32) (v3 : Int32) (v4 : Int32) (K1 : Mem → Option (Int64 × Mem)) : Nat → Int32 → Mem → Option (Int64 × Mem)
  | 0, _, _ => none
  | F + 1, v5, μ => if (μ.1 42 4) ≤ v5 then K1 μ else bd (fX0_shareOut n v5 μ) (fun r7 m6 => bnd (v5 + 1) (fun x8 => fX0_lotsOf_L43 n v2 v3 v4 K1 F x8 m6))
def fX0_lotsOf_L8 (n : Nat) (v2 : Int32) (v3 : Int32) : Nat → Int32 → Mem → Option (Int64 × Mem)
  | 0, _, _ => none
  | F + 1, v4, μ => if v3 ≤ v4 then gd (inb v2 8) (some ((μ.2 45 (Int32.toNatClampNeg v2)), μ)) else fX0_lotsOf_L17 n v2 v3 v4 (fun (m5 : Mem) => fX0_lotsOf_L43 n v2 v3 v4 (fun (m9 : Mem) => bd (fX0_turn n m9) (fun r11 m10 => bnd (v4 + 1) (fun x12 => fX0_lotsOf_L8 n v2 v3 F x12 m10))) n 0 m5) n 0 μ
def fX0_lotsOf (n : Nat) (a1 : Int32) (a2 : Int32) (a3 : Int32) (μ : Mem) : Option (Int64 × Mem) :=
  bd (fX0_startAt n a1 μ) (fun r2 m1 => fX0_lotsOf_L8 n a2 a3 n 0 m1)
set_option maxHeartbeats 4000000 in
set_option maxRecDepth 100000 in
theorem wX0_lotsOf_L17 (ad : Nat → Nat) (n : Nat) (v2 : Int32) (v3 : Int32) (v4 : Int32) (K1 : Mem → Option (Int64 × Mem)) (hK1 : ∀ (μ : Mem), G kX0_lotsOf ad encJ 40 [(0, .ref (ad 42)), (2, .int v2), (3, .int v3), (4, .int v4)] [] μ (K1 μ)) : ∀ (F : Nat) (v5 : Int32) (μ : Mem), G kX0_lotsOf ad encJ 17 [(0, .ref (ad 42)), (2, .int v2), (3, .int v3), (4, .int v4), (5, .int v5)] [] μ (fX0_lotsOf_L17 n v2 v3 v4 K1 F v5 μ) := by
  intro F
  induction F with
  | zero =>
    intro v5 μ
    exact g_none
  | succ F ih =>
    intro v5 μ
    rw [fX0_lotsOf_L17]
    refine g_iload (pc := 17) 4 dX0_lotsOf_17 rfl ?_
    refine g_aload_n (pc := 19) 0 dX0_lotsOf_19 rfl rfl ?_
    refine g_get (pc := 20) rfl foX0_31 (v := .int (μ.1 42 4)) rfl dX0_lotsOf_20 ?_
    refine g_icmp_ge (pc := 23) 40 dX0_lotsOf_23 rfl ?_ ?_
    · exact g_sub [0, 1, 2, 3] rfl (hK1 μ)
    · refine g_aload_n (pc := 26) 0 dX0_lotsOf_26 rfl rfl ?_
      refine g_get (pc := 27) rfl foX0_22 (v := .ref (ad 46)) rfl dX0_lotsOf_27 ?_
      refine g_iload (pc := 30) 4 dX0_lotsOf_30 rfl ?_
      refine g_lconst (pc := 32) 0 dX0_lotsOf_32 (by decide) ?_
      refine g_last (pc := 33) rfl dX0_lotsOf_33 (fun m3 => ?_)
      refine g_iincB (pc := 34) 4 1 1 (fun x4 => [(5, .int x4), (0, .ref (ad 42)), (2, .int v2), (3, .int v3), (4, .int v4)]) dX0_lotsOf_34 rfl (by decide) (by decide) (fun _ => rfl) (fun x4 => ?_)
      refine g_goto (pc := 37) 17 dX0_lotsOf_37 rfl ?_
      exact g_sub [1, 2, 3, 4, 0] rfl (ih x4 m3)
set_option maxHeartbeats 4000000 in
set_option maxRecDepth 100000 in
theorem wX0_lotsOf_L43 (ad : Nat → Nat) (n : Nat) (v2 : Int32) (v3 : Int32) (v4 : Int32) (K1 : Mem → Option (Int64 × Mem)) (hK1 : ∀ (μ : Mem), G kX0_lotsOf ad encJ 64 [(0, .ref (ad 42)), (2, .int v2), (3, .int v3), (4, .int v4)] [] μ (K1 μ)) : ∀ (F : Nat) (v5 : Int32) (μ : Mem), G kX0_lotsOf ad encJ 43 [(0, .ref (ad 42)), (2, .int v2), (3, .int v3), (4, .int v4), (5, .int v5)] [] μ (fX0_lotsOf_L43 n v2 v3 v4 K1 F v5 μ) := by
  intro F
  induction F with
  | zero =>
    intro v5 μ
    exact g_none
  | succ F ih =>
    intro v5 μ
    rw [fX0_lotsOf_L43]
    refine g_iload (pc := 43) 4 dX0_lotsOf_43 rfl ?_
    refine g_aload_n (pc := 45) 0 dX0_lotsOf_45 rfl rfl ?_
    refine g_get (pc := 46) rfl foX0_31 (v := .int (μ.1 42 4)) rfl dX0_lotsOf_46 ?_
    refine g_icmp_ge (pc := 49) 64 dX0_lotsOf_49 rfl ?_ ?_
    · exact g_sub [0, 1, 2, 3] rfl (hK1 μ)
    · refine g_aload_n (pc := 52) 0 dX0_lotsOf_52 rfl rfl ?_
      refine g_iload (pc := 53) 4 dX0_lotsOf_53 rfl ?_
      refine g_cVV (pc := 55) (st := []) [.int v5] rfl rfl moX0_shareOut lnX0_70 (ctX0_shareOut ad n v5 μ) rfl ⟨Nat.le_of_ble_eq_true rfl, Nat.le_of_ble_eq_true rfl⟩ rfl (Nat.le_of_ble_eq_true rfl) dX0_lotsOf_55 (fun r7 m6 => ?_)
      refine g_iincB (pc := 58) 4 1 1 (fun x8 => [(5, .int x8), (0, .ref (ad 42)), (2, .int v2), (3, .int v3), (4, .int v4)]) dX0_lotsOf_58 rfl (by decide) (by decide) (fun _ => rfl) (fun x8 => ?_)
      refine g_goto (pc := 61) 43 dX0_lotsOf_61 rfl ?_
      exact g_sub [1, 2, 3, 4, 0] rfl (ih x8 m6)
set_option maxHeartbeats 4000000 in
set_option maxRecDepth 100000 in
theorem wX0_lotsOf_L8 (ad : Nat → Nat) (n : Nat) (v2 : Int32) (v3 : Int32) : ∀ (F : Nat) (v4 : Int32) (μ : Mem), G kX0_lotsOf ad encJ 8 [(0, .ref (ad 42)), (2, .int v2), (3, .int v3), (4, .int v4)] [] μ (fX0_lotsOf_L8 n v2 v3 F v4 μ) := by
  intro F
  induction F with
  | zero =>
    intro v4 μ
    exact g_none
  | succ F ih =>
    intro v4 μ
    rw [fX0_lotsOf_L8]
    refine g_iload (pc := 8) 3 dX0_lotsOf_8 rfl ?_
    refine g_iload_n (pc := 10) 2 dX0_lotsOf_10 rfl rfl ?_
    refine g_icmp_ge (pc := 11) 74 dX0_lotsOf_11 rfl ?_ ?_
    · refine g_aload_n (pc := 74) 0 dX0_lotsOf_74 rfl rfl ?_
      refine g_get (pc := 75) rfl foX0_18 (v := .ref (ad 45)) rfl dX0_lotsOf_75 ?_
      refine g_iload_n (pc := 78) 1 dX0_lotsOf_78 rfl rfl ?_
      refine g_lald (pc := 79) rfl dX0_lotsOf_79 ?_
      exact g_lreturn (pc := 80) dX0_lotsOf_80 rfl
    · refine g_iconst (pc := 14) 0 dX0_lotsOf_14 (by decide) ?_
      refine g_istore (pc := 15) [(5, .int 0), (0, .ref (ad 42)), (2, .int v2), (3, .int v3), (4, .int v4)] dX0_lotsOf_15 (by decide) rfl ?_
      refine g_sub [1, 2, 3, 4, 0] rfl (wX0_lotsOf_L17 ad n v2 v3 v4 _ (fun m5 => ?_) n 0 μ)
      refine g_iconst (pc := 40) 0 dX0_lotsOf_40 (by decide) ?_
      refine g_istore (pc := 41) [(5, .int 0), (0, .ref (ad 42)), (2, .int v2), (3, .int v3), (4, .int v4)] dX0_lotsOf_41 (by decide) rfl ?_
      refine g_sub [1, 2, 3, 4, 0] rfl (wX0_lotsOf_L43 ad n v2 v3 v4 _ (fun m9 => ?_) n 0 m5)
      refine g_aload_n (pc := 64) 0 dX0_lotsOf_64 rfl rfl ?_
      refine g_cVV (pc := 65) (st := []) [] rfl rfl moX0_turn lnX0_64 (ctX0_turn ad n m9) rfl ⟨Nat.le_of_ble_eq_true rfl, Nat.le_of_ble_eq_true rfl⟩ rfl (Nat.le_of_ble_eq_true rfl) dX0_lotsOf_65 (fun r11 m10 => ?_)
      refine g_iincB (pc := 68) 3 1 1 (fun x12 => [(4, .int x12), (0, .ref (ad 42)), (2, .int v2), (3, .int v3)]) dX0_lotsOf_68 rfl (by decide) (by decide) (fun _ => rfl) (fun x12 => ?_)
      refine g_goto (pc := 71) 8 dX0_lotsOf_71 rfl ?_
      exact g_sub [1, 2, 3, 0] rfl (ih x12 m10)
set_option maxHeartbeats 4000000 in
set_option maxRecDepth 100000 in
theorem ctX0_lotsOf (ad : Nat → Nat) (n : Nat) (a1 : Int32) (a2 : Int32) (a3 : Int32) (μ : Mem) : Ct yX0_lotsOf kX0_lotsOf ad encJ [.ref (ad 42), .int a1, .int a2, .int a3] μ (fX0_lotsOf n a1 a2 a3 μ) := Ct.of (by decide +kernel) rfl (Nat.le_of_ble_eq_true rfl) (by
  show G kX0_lotsOf ad encJ 0 [(0, .ref (ad 42)), (1, .int a1), (2, .int a2), (3, .int a3)] [] μ (fX0_lotsOf n a1 a2 a3 μ)
  unfold fX0_lotsOf
  refine g_aload_n (pc := 0) 0 dX0_lotsOf_0 rfl rfl ?_
  refine g_iload_n (pc := 1) 1 dX0_lotsOf_1 rfl rfl ?_
  refine g_cVV (pc := 2) (st := []) [.int a1] rfl rfl moX0_startAt lnX0_56 (ctX0_startAt ad n a1 μ) rfl ⟨Nat.le_of_ble_eq_true rfl, Nat.le_of_ble_eq_true rfl⟩ rfl (Nat.le_of_ble_eq_true rfl) dX0_lotsOf_2 (fun r2 m1 => ?_)
  refine g_iconst (pc := 5) 0 dX0_lotsOf_5 (by decide) ?_
  refine g_istore (pc := 6) [(4, .int 0), (0, .ref (ad 42)), (1, .int a1), (2, .int a2), (3, .int a3)] dX0_lotsOf_6 (by decide) rfl ?_
  exact g_sub [1, 3, 4, 0] rfl (wX0_lotsOf_L8 ad n a2 a3 n 0 m1))
-- StopsByLetters$Sights.at(I)I
abbrev kX1_at : Cfg := (RX1, cX1_at, 2, (some .int), 0)
theorem dX1_at_0 : decode cX1_at 0 = .ok (.iload_n 1, 1) := by decide +kernel
theorem dX1_at_1 : decode cX1_at 1 = .ok (.ifCond .lt 20, 3) := by decide +kernel
theorem dX1_at_4 : decode cX1_at 4 = .ok (.iload_n 1, 1) := by decide +kernel
theorem dX1_at_5 : decode cX1_at 5 = .ok (.aload_n 0, 1) := by decide +kernel
theorem dX1_at_6 : decode cX1_at 6 = .ok (.getfield 15, 3) := by decide +kernel
theorem dX1_at_9 : decode cX1_at 9 = .ok (.if_icmp .ge 12, 3) := by decide +kernel
theorem dX1_at_12 : decode cX1_at 12 = .ok (.aload_n 0, 1) := by decide +kernel
theorem dX1_at_13 : decode cX1_at 13 = .ok (.getfield 9, 3) := by decide +kernel
theorem dX1_at_16 : decode cX1_at 16 = .ok (.iload_n 1, 1) := by decide +kernel
theorem dX1_at_17 : decode cX1_at 17 = .ok (.iaload, 1) := by decide +kernel
theorem dX1_at_18 : decode cX1_at 18 = .ok (.goto 5, 3) := by decide +kernel
theorem dX1_at_21 : decode cX1_at 21 = .ok (.bipush 9, 2) := by decide +kernel
theorem dX1_at_23 : decode cX1_at 23 = .ok (.ireturn, 1) := by decide +kernel
theorem foX1_15 : Fo 1 RX1 TX1 2 1 RX1 15 := ⟨rfl, by decide, rfl, uwX1, rfl, Or.inl (tb_in 161 (by decide +kernel) rfl)⟩
theorem foX1_9 : Fo 1 RX1 TX1 2 0 RX1 9 := ⟨rfl, by decide, rfl, uwX1, rfl, Or.inl (tb_in 160 (by decide +kernel) rfl)⟩
def fX1_at (n : Nat) (a1 : Int32) (μ : Mem) : Option (Int32 × Mem) :=
  if a1 < 0 then some (9, μ) else if (μ.1 40 1) ≤ a1 then some (9, μ) else gd (inb a1 12) (some ((μ.1 41 (Int32.toNatClampNeg a1)), μ))
set_option maxHeartbeats 4000000 in
set_option maxRecDepth 100000 in
theorem ctX1_at (ad : Nat → Nat) (n : Nat) (a1 : Int32) (μ : Mem) : Ct yX1_at kX1_at ad encI [.ref (ad 40), .int a1] μ (fX1_at n a1 μ) := Ct.of (by decide +kernel) rfl (Nat.le_of_ble_eq_true rfl) (by
  show G kX1_at ad encI 0 [(0, .ref (ad 40)), (1, .int a1)] [] μ (fX1_at n a1 μ)
  unfold fX1_at
  refine g_iload_n (pc := 0) 1 dX1_at_0 rfl rfl ?_
  refine g_if_lt (pc := 1) 21 dX1_at_1 rfl ?_ ?_
  · refine g_bipush (pc := 21) 9 dX1_at_21 (by decide) ?_
    exact g_ireturn (pc := 23) dX1_at_23 rfl
  · refine g_iload_n (pc := 4) 1 dX1_at_4 rfl rfl ?_
    refine g_aload_n (pc := 5) 0 dX1_at_5 rfl rfl ?_
    refine g_get (pc := 6) rfl foX1_15 (v := .int (μ.1 40 1)) rfl dX1_at_6 ?_
    refine g_icmp_ge (pc := 9) 21 dX1_at_9 rfl ?_ ?_
    · refine g_bipush (pc := 21) 9 dX1_at_21 (by decide) ?_
      exact g_ireturn (pc := 23) dX1_at_23 rfl
    · refine g_aload_n (pc := 12) 0 dX1_at_12 rfl rfl ?_
      refine g_get (pc := 13) rfl foX1_9 (v := .ref (ad 41)) rfl dX1_at_13 ?_
      refine g_iload_n (pc := 16) 1 dX1_at_16 rfl rfl ?_
      refine g_iald (pc := 17) rfl (by decide) dX1_at_17 ?_
      refine g_goto (pc := 18) 23 dX1_at_18 rfl ?_
      exact g_ireturn (pc := 23) dX1_at_23 rfl)
-- StopsByLetters$Sights.allows(II)Z
abbrev kX1_allows : Cfg := (RX1, cX1_allows, 4, (some .boolean), 1)
theorem dX1_allows_0 : decode cX1_allows 0 = .ok (.aload_n 0, 1) := by decide +kernel
theorem dX1_allows_1 : decode cX1_allows 1 = .ok (.iload_n 1, 1) := by decide +kernel
theorem dX1_allows_2 : decode cX1_allows 2 = .ok (.invokevirtual 19, 3) := by decide +kernel
theorem dX1_allows_5 : decode cX1_allows 5 = .ok (.istore_n 3, 1) := by decide +kernel
theorem dX1_allows_6 : decode cX1_allows 6 = .ok (.iload_n 3, 1) := by decide +kernel
theorem dX1_allows_7 : decode cX1_allows 7 = .ok (.bipush 9, 2) := by decide +kernel
theorem dX1_allows_9 : decode cX1_allows 9 = .ok (.if_icmp .eq 8, 3) := by decide +kernel
theorem dX1_allows_12 : decode cX1_allows 12 = .ok (.iload_n 3, 1) := by decide +kernel
theorem dX1_allows_13 : decode cX1_allows 13 = .ok (.iload_n 2, 1) := by decide +kernel
theorem dX1_allows_14 : decode cX1_allows 14 = .ok (.if_icmp .ne 7, 3) := by decide +kernel
theorem dX1_allows_17 : decode cX1_allows 17 = .ok (.iconst 1, 1) := by decide +kernel
theorem dX1_allows_18 : decode cX1_allows 18 = .ok (.goto 4, 3) := by decide +kernel
theorem dX1_allows_21 : decode cX1_allows 21 = .ok (.iconst 0, 1) := by decide +kernel
theorem dX1_allows_22 : decode cX1_allows 22 = .ok (.ireturn, 1) := by decide +kernel
theorem lnX1_19 : Ln RX1 19 yX1_at := Or.inl (tb_in 617 (by decide +kernel) rfl)
theorem moX1_at : Mv yX1_at kX1_at 1 := ⟨⟨tb_in 620 (by decide +kernel) rfl, tb_in 90 (by decide +kernel) rfl, ⟨by decide, by decide⟩, by decide +kernel⟩, tb_in 619 (by decide +kernel) rfl, tb_in 45 (by decide +kernel) rfl⟩
def fX1_allows (n : Nat) (a1 : Int32) (a2 : Int32) (μ : Mem) : Option (Int32 × Mem) :=
  bd (fX1_at n a1 μ) (fun r2 m1 => if r2 = 9 then some (1, m1) else if r2 = a2 then some (1, m1) else some (0, m1))
set_option maxHeartbeats 4000000 in
set_option maxRecDepth 100000 in
theorem ctX1_allows (ad : Nat → Nat) (n : Nat) (a1 : Int32) (a2 : Int32) (μ : Mem) : Ct yX1_allows kX1_allows ad encI [.ref (ad 40), .int a1, .int a2] μ (fX1_allows n a1 a2 μ) := Ct.of (by decide +kernel) rfl (Nat.le_of_ble_eq_true rfl) (by
  show G kX1_allows ad encI 0 [(0, .ref (ad 40)), (1, .int a1), (2, .int a2)] [] μ (fX1_allows n a1 a2 μ)
  unfold fX1_allows
  refine g_aload_n (pc := 0) 0 dX1_allows_0 rfl rfl ?_
  refine g_iload_n (pc := 1) 1 dX1_allows_1 rfl rfl ?_
  refine g_cVI (pc := 2) (st := []) [.int a1] rfl rfl moX1_at lnX1_19 (ctX1_at ad n a1 μ) rfl ⟨Nat.le_of_ble_eq_true rfl, Nat.le_of_ble_eq_true rfl⟩ rfl (Nat.le_of_ble_eq_true rfl) dX1_allows_2 (fun r2 m1 => ?_)
  refine g_istore_n (pc := 5) [(3, .int r2), (0, .ref (ad 40)), (1, .int a1), (2, .int a2)] dX1_allows_5 rfl (by decide) rfl ?_
  refine g_iload_n (pc := 6) 0 dX1_allows_6 rfl rfl ?_
  refine g_bipush (pc := 7) 9 dX1_allows_7 (by decide) ?_
  refine g_icmp_eq (pc := 9) 17 dX1_allows_9 rfl ?_ ?_
  · refine g_iconst (pc := 17) 1 dX1_allows_17 (by decide) ?_
    refine g_goto (pc := 18) 22 dX1_allows_18 rfl ?_
    exact g_zreturn (pc := 22) (by decide) dX1_allows_22 rfl
  · refine g_iload_n (pc := 12) 0 dX1_allows_12 rfl rfl ?_
    refine g_iload_n (pc := 13) 3 dX1_allows_13 rfl rfl ?_
    refine g_icmp_ne (pc := 14) 21 dX1_allows_14 rfl ?_ ?_
    · refine g_iconst (pc := 21) 0 dX1_allows_21 (by decide) ?_
      exact g_zreturn (pc := 22) (by decide) dX1_allows_22 rfl
    · refine g_iconst (pc := 17) 1 dX1_allows_17 (by decide) ?_
      refine g_goto (pc := 18) 22 dX1_allows_18 rfl ?_
      exact g_zreturn (pc := 22) (by decide) dX1_allows_22 rfl)
-- StopsByLetters$Net.tallyFrom(I)J
abbrev kX0_tallyFrom : Cfg := (RX0, cX0_tallyFrom, 5, (some .long), 1)
theorem dX0_tallyFrom_0 : decode cX0_tallyFrom 0 = .ok (.lconst 0, 1) := by decide +kernel
theorem dX0_tallyFrom_1 : decode cX0_tallyFrom 1 = .ok (.lstore_n 2, 1) := by decide +kernel
theorem dX0_tallyFrom_2 : decode cX0_tallyFrom 2 = .ok (.iconst 0, 1) := by decide +kernel
theorem dX0_tallyFrom_3 : decode cX0_tallyFrom 3 = .ok (.istore 4, 2) := by decide +kernel
theorem dX0_tallyFrom_5 : decode cX0_tallyFrom 5 = .ok (.iload 4, 2) := by decide +kernel
theorem dX0_tallyFrom_7 : decode cX0_tallyFrom 7 = .ok (.aload_n 0, 1) := by decide +kernel
theorem dX0_tallyFrom_8 : decode cX0_tallyFrom 8 = .ok (.getfield 31, 3) := by decide +kernel
theorem dX0_tallyFrom_11 : decode cX0_tallyFrom 11 = .ok (.if_icmp .ge 29, 3) := by decide +kernel
theorem dX0_tallyFrom_14 : decode cX0_tallyFrom 14 = .ok (.aload_n 0, 1) := by decide +kernel
theorem dX0_tallyFrom_15 : decode cX0_tallyFrom 15 = .ok (.iload_n 1, 1) := by decide +kernel
theorem dX0_tallyFrom_16 : decode cX0_tallyFrom 16 = .ok (.iload 4, 2) := by decide +kernel
theorem dX0_tallyFrom_18 : decode cX0_tallyFrom 18 = .ok (.invokevirtual 67, 3) := by decide +kernel
theorem dX0_tallyFrom_21 : decode cX0_tallyFrom 21 = .ok (.ifCond .eq 13, 3) := by decide +kernel
theorem dX0_tallyFrom_24 : decode cX0_tallyFrom 24 = .ok (.lload_n 2, 1) := by decide +kernel
theorem dX0_tallyFrom_25 : decode cX0_tallyFrom 25 = .ok (.aload_n 0, 1) := by decide +kernel
theorem dX0_tallyFrom_26 : decode cX0_tallyFrom 26 = .ok (.getfield 18, 3) := by decide +kernel
theorem dX0_tallyFrom_29 : decode cX0_tallyFrom 29 = .ok (.iload 4, 2) := by decide +kernel
theorem dX0_tallyFrom_31 : decode cX0_tallyFrom 31 = .ok (.laload, 1) := by decide +kernel
theorem dX0_tallyFrom_32 : decode cX0_tallyFrom 32 = .ok (.ladd, 1) := by decide +kernel
theorem dX0_tallyFrom_33 : decode cX0_tallyFrom 33 = .ok (.lstore_n 2, 1) := by decide +kernel
theorem dX0_tallyFrom_34 : decode cX0_tallyFrom 34 = .ok (.iinc 4 1, 3) := by decide +kernel
theorem dX0_tallyFrom_37 : decode cX0_tallyFrom 37 = .ok (.goto (-32), 3) := by decide +kernel
theorem dX0_tallyFrom_40 : decode cX0_tallyFrom 40 = .ok (.lload_n 2, 1) := by decide +kernel
theorem dX0_tallyFrom_41 : decode cX0_tallyFrom 41 = .ok (.lreturn, 1) := by decide +kernel
def fX0_tallyFrom_L5 (n : Nat) (v1 : Int32) : Nat → Int64 → Int32 → Mem → Option (Int64 × Mem)
  | 0, _, _, _ => none
  | F + 1, v2, v4, μ => if (μ.1 42 4) ≤ v4 then some (v2, μ) else bd (fX0_leads n v1 v4 μ) (fun r2 m1 => if r2 = 0 then bnd (v4 + 1) (fun x3 => fX0_tallyFrom_L5 n v1 F v2 x3 m1) else gd (inb v4 8) (bnd (v2 + (m1.2 45 (Int32.toNatClampNeg v4))) (fun x4 => bnd (v4 + 1) (fun x5 => fX0_tallyFrom_L5 n v1 F x4 x5 m1))))
def fX0_tallyFrom (n : Nat) (a1 : Int32) (μ : Mem) : Option (Int64 × Mem) :=
  fX0_tallyFrom_L5 n a1 n 0 0 μ
set_option maxHeartbeats 4000000 in
set_option maxRecDepth 100000 in
theorem wX0_tallyFrom_L5 (ad : Nat → Nat) (n : Nat) (v1 : Int32) : ∀ (F : Nat) (v2 : Int64) (v4 : Int32) (μ : Mem), G kX0_tallyFrom ad encJ 5 [(0, .ref (ad 42)), (1, .int v1), (2, .long v2), (4, .int v4)] [] μ (fX0_tallyFrom_L5 n v1 F v2 v4 μ) := by
  intro F
  induction F with
  | zero =>
    intro v2 v4 μ
    exact g_none
  | succ F ih =>
    intro v2 v4 μ
    rw [fX0_tallyFrom_L5]
    refine g_iload (pc := 5) 3 dX0_tallyFrom_5 rfl ?_
    refine g_aload_n (pc := 7) 0 dX0_tallyFrom_7 rfl rfl ?_
    refine g_get (pc := 8) rfl foX0_31 (v := .int (μ.1 42 4)) rfl dX0_tallyFrom_8 ?_
    refine g_icmp_ge (pc := 11) 40 dX0_tallyFrom_11 rfl ?_ ?_
    · refine g_lload_n (pc := 40) 2 dX0_tallyFrom_40 rfl rfl ?_
      exact g_lreturn (pc := 41) dX0_tallyFrom_41 rfl
    · refine g_aload_n (pc := 14) 0 dX0_tallyFrom_14 rfl rfl ?_
      refine g_iload_n (pc := 15) 1 dX0_tallyFrom_15 rfl rfl ?_
      refine g_iload (pc := 16) 3 dX0_tallyFrom_16 rfl ?_
      refine g_cVI (pc := 18) (st := []) [.int v1, .int v4] rfl rfl moX0_leads lnX0_67 (ctX0_leads ad n v1 v4 μ) rfl ⟨Nat.le_of_ble_eq_true rfl, Nat.le_of_ble_eq_true rfl⟩ rfl (Nat.le_of_ble_eq_true rfl) dX0_tallyFrom_18 (fun r2 m1 => ?_)
      refine g_if_eq (pc := 21) 34 dX0_tallyFrom_21 rfl ?_ ?_
      · refine g_iincB (pc := 34) 3 1 1 (fun x3 => [(4, .int x3), (0, .ref (ad 42)), (1, .int v1), (2, .long v2)]) dX0_tallyFrom_34 rfl (by decide) (by decide) (fun _ => rfl) (fun x3 => ?_)
        refine g_goto (pc := 37) 5 dX0_tallyFrom_37 rfl ?_
        exact g_sub [1, 2, 3, 0] rfl (ih v2 x3 m1)
      · refine g_lload_n (pc := 24) 2 dX0_tallyFrom_24 rfl rfl ?_
        refine g_aload_n (pc := 25) 0 dX0_tallyFrom_25 rfl rfl ?_
        refine g_get (pc := 26) rfl foX0_18 (v := .ref (ad 45)) rfl dX0_tallyFrom_26 ?_
        refine g_iload (pc := 29) 3 dX0_tallyFrom_29 rfl ?_
        refine g_lald (pc := 31) rfl dX0_tallyFrom_31 ?_
        refine g_ladd (pc := 32) dX0_tallyFrom_32 ?_
        refine g_lstore_nB (pc := 33) (fun x4 => [(2, .long x4), (0, .ref (ad 42)), (1, .int v1), (4, .int v4)]) dX0_tallyFrom_33 rfl (by decide) (fun _ => rfl) (fun x4 => ?_)
        refine g_iincB (pc := 34) 3 1 1 (fun x5 => [(4, .int x5), (2, .long x4), (0, .ref (ad 42)), (1, .int v1)]) dX0_tallyFrom_34 rfl (by decide) (by decide) (fun _ => rfl) (fun x5 => ?_)
        refine g_goto (pc := 37) 5 dX0_tallyFrom_37 rfl ?_
        exact g_sub [2, 3, 1, 0] rfl (ih x4 x5 m1)
set_option maxHeartbeats 4000000 in
set_option maxRecDepth 100000 in
theorem ctX0_tallyFrom (ad : Nat → Nat) (n : Nat) (a1 : Int32) (μ : Mem) : Ct yX0_tallyFrom kX0_tallyFrom ad encJ [.ref (ad 42), .int a1] μ (fX0_tallyFrom n a1 μ) := Ct.of (by decide +kernel) rfl (Nat.le_of_ble_eq_true rfl) (by
  show G kX0_tallyFrom ad encJ 0 [(0, .ref (ad 42)), (1, .int a1)] [] μ (fX0_tallyFrom n a1 μ)
  unfold fX0_tallyFrom
  refine g_lconst (pc := 0) 0 dX0_tallyFrom_0 (by decide) ?_
  refine g_lstore_n (pc := 1) [(2, .long 0), (0, .ref (ad 42)), (1, .int a1)] dX0_tallyFrom_1 rfl (by decide) rfl ?_
  refine g_iconst (pc := 2) 0 dX0_tallyFrom_2 (by decide) ?_
  refine g_istore (pc := 3) [(4, .int 0), (2, .long 0), (0, .ref (ad 42)), (1, .int a1)] dX0_tallyFrom_3 (by decide) rfl ?_
  exact g_sub [2, 3, 1, 0] rfl (wX0_tallyFrom_L5 ad n a1 n 0 0 μ))
-- StopsByLetters$Net.fit(LStopsByLetters$Sights;)V
abbrev kX0_fit : Cfg := (RX0, cX0_fit, 4, none, 2)
theorem dX0_fit_0 : decode cX0_fit 0 = .ok (.iconst 0, 1) := by decide +kernel
theorem dX0_fit_1 : decode cX0_fit 1 = .ok (.istore_n 2, 1) := by decide +kernel
theorem dX0_fit_2 : decode cX0_fit 2 = .ok (.iload_n 2, 1) := by decide +kernel
theorem dX0_fit_3 : decode cX0_fit 3 = .ok (.aload_n 0, 1) := by decide +kernel
theorem dX0_fit_4 : decode cX0_fit 4 = .ok (.getfield 31, 3) := by decide +kernel
theorem dX0_fit_7 : decode cX0_fit 7 = .ok (.if_icmp .ge 34, 3) := by decide +kernel
theorem dX0_fit_10 : decode cX0_fit 10 = .ok (.aload_n 0, 1) := by decide +kernel
theorem dX0_fit_11 : decode cX0_fit 11 = .ok (.getfield 18, 3) := by decide +kernel
theorem dX0_fit_14 : decode cX0_fit 14 = .ok (.iload_n 2, 1) := by decide +kernel
theorem dX0_fit_15 : decode cX0_fit 15 = .ok (.aload_n 1, 1) := by decide +kernel
theorem dX0_fit_16 : decode cX0_fit 16 = .ok (.aload_n 1, 1) := by decide +kernel
theorem dX0_fit_17 : decode cX0_fit 17 = .ok (.getfield 75, 3) := by decide +kernel
theorem dX0_fit_20 : decode cX0_fit 20 = .ok (.iconst 1, 1) := by decide +kernel
theorem dX0_fit_21 : decode cX0_fit 21 = .ok (.isub, 1) := by decide +kernel
theorem dX0_fit_22 : decode cX0_fit 22 = .ok (.iload_n 2, 1) := by decide +kernel
theorem dX0_fit_23 : decode cX0_fit 23 = .ok (.invokevirtual 78, 3) := by decide +kernel
theorem dX0_fit_26 : decode cX0_fit 26 = .ok (.ifCond .eq 7, 3) := by decide +kernel
theorem dX0_fit_29 : decode cX0_fit 29 = .ok (.lconst 1, 1) := by decide +kernel
theorem dX0_fit_30 : decode cX0_fit 30 = .ok (.goto 4, 3) := by decide +kernel
theorem dX0_fit_33 : decode cX0_fit 33 = .ok (.lconst 0, 1) := by decide +kernel
theorem dX0_fit_34 : decode cX0_fit 34 = .ok (.lastore, 1) := by decide +kernel
theorem dX0_fit_35 : decode cX0_fit 35 = .ok (.iinc 2 1, 3) := by decide +kernel
theorem dX0_fit_38 : decode cX0_fit 38 = .ok (.goto (-36), 3) := by decide +kernel
theorem dX0_fit_41 : decode cX0_fit 41 = .ok (.aload_n 1, 1) := by decide +kernel
theorem dX0_fit_42 : decode cX0_fit 42 = .ok (.getfield 75, 3) := by decide +kernel
theorem dX0_fit_45 : decode cX0_fit 45 = .ok (.iconst 2, 1) := by decide +kernel
theorem dX0_fit_46 : decode cX0_fit 46 = .ok (.isub, 1) := by decide +kernel
theorem dX0_fit_47 : decode cX0_fit 47 = .ok (.istore_n 2, 1) := by decide +kernel
theorem dX0_fit_48 : decode cX0_fit 48 = .ok (.iload_n 2, 1) := by decide +kernel
theorem dX0_fit_49 : decode cX0_fit 49 = .ok (.ifCond .lt 53, 3) := by decide +kernel
theorem dX0_fit_52 : decode cX0_fit 52 = .ok (.iconst 0, 1) := by decide +kernel
theorem dX0_fit_53 : decode cX0_fit 53 = .ok (.istore_n 3, 1) := by decide +kernel
theorem dX0_fit_54 : decode cX0_fit 54 = .ok (.iload_n 3, 1) := by decide +kernel
theorem dX0_fit_55 : decode cX0_fit 55 = .ok (.aload_n 0, 1) := by decide +kernel
theorem dX0_fit_56 : decode cX0_fit 56 = .ok (.getfield 31, 3) := by decide +kernel
theorem dX0_fit_59 : decode cX0_fit 59 = .ok (.if_icmp .ge 33, 3) := by decide +kernel
theorem dX0_fit_62 : decode cX0_fit 62 = .ok (.aload_n 0, 1) := by decide +kernel
theorem dX0_fit_63 : decode cX0_fit 63 = .ok (.getfield 22, 3) := by decide +kernel
theorem dX0_fit_66 : decode cX0_fit 66 = .ok (.iload_n 3, 1) := by decide +kernel
theorem dX0_fit_67 : decode cX0_fit 67 = .ok (.aload_n 1, 1) := by decide +kernel
theorem dX0_fit_68 : decode cX0_fit 68 = .ok (.iload_n 2, 1) := by decide +kernel
theorem dX0_fit_69 : decode cX0_fit 69 = .ok (.iload_n 3, 1) := by decide +kernel
theorem dX0_fit_70 : decode cX0_fit 70 = .ok (.invokevirtual 78, 3) := by decide +kernel
theorem dX0_fit_73 : decode cX0_fit 73 = .ok (.ifCond .eq 11, 3) := by decide +kernel
theorem dX0_fit_76 : decode cX0_fit 76 = .ok (.aload_n 0, 1) := by decide +kernel
theorem dX0_fit_77 : decode cX0_fit 77 = .ok (.iload_n 3, 1) := by decide +kernel
theorem dX0_fit_78 : decode cX0_fit 78 = .ok (.invokevirtual 81, 3) := by decide +kernel
theorem dX0_fit_81 : decode cX0_fit 81 = .ok (.goto 4, 3) := by decide +kernel
theorem dX0_fit_84 : decode cX0_fit 84 = .ok (.lconst 0, 1) := by decide +kernel
theorem dX0_fit_85 : decode cX0_fit 85 = .ok (.lastore, 1) := by decide +kernel
theorem dX0_fit_86 : decode cX0_fit 86 = .ok (.iinc 3 1, 3) := by decide +kernel
theorem dX0_fit_89 : decode cX0_fit 89 = .ok (.goto (-35), 3) := by decide +kernel
theorem dX0_fit_92 : decode cX0_fit 92 = .ok (.aload_n 0, 1) := by decide +kernel
theorem dX0_fit_93 : decode cX0_fit 93 = .ok (.invokevirtual 64, 3) := by decide +kernel
theorem dX0_fit_96 : decode cX0_fit 96 = .ok (.iinc 2 (-1), 3) := by decide +kernel
theorem dX0_fit_99 : decode cX0_fit 99 = .ok (.goto (-51), 3) := by decide +kernel
theorem dX0_fit_102 : decode cX0_fit 102 = .ok (.return_, 1) := by decide +kernel
theorem foX0_75 : Fo 1 RX1 TX1 2 1 RX0 75 := ⟨rfl, by decide, rfl, uwX1, rfl, Or.inr ⟨RX4, nt_in 162 (by decide +kernel) rfl⟩⟩
theorem lnX0_78 : Ln RX0 78 yX1_allows := Or.inr ⟨RX4, nt_in 613 (by decide +kernel) rfl⟩
theorem moX1_allows : Mv yX1_allows kX1_allows 2 := ⟨⟨tb_in 616 (by decide +kernel) rfl, tb_in 90 (by decide +kernel) rfl, ⟨by decide, by decide⟩, by decide +kernel⟩, tb_in 615 (by decide +kernel) rfl, tb_in 44 (by decide +kernel) rfl⟩
def fX0_fit_L2 (n : Nat) (K1 : Mem → Option (Unit × Mem)) : Nat → Int32 → Mem → Option (Unit × Mem)
  | 0, _, _ => none
  | F + 1, v2, μ => if (μ.1 42 4) ≤ v2 then K1 μ else bd (fX1_allows n ((μ.1 40 1) - 1) v2 μ) (fun r2 m1 => if r2 = 0 then gd (inb v2 8) (bnd (setJ m1 45 (Int32.toNatClampNeg v2) 0) (fun m3 => bnd (v2 + 1) (fun x4 => fX0_fit_L2 n K1 F x4 m3))) else gd (inb v2 8) (bnd (setJ m1 45 (Int32.toNatClampNeg v2) 1) (fun m5 => bnd (v2 + 1) (fun x6 => fX0_fit_L2 n K1 F x6 m5))))
theorem lnX0_81 : Ln RX0 81 yX0_tallyFrom := Or.inl (tb_in 621 (by decide +kernel) rfl)
theorem moX0_tallyFrom : Mv yX0_tallyFrom kX0_tallyFrom 1 := ⟨⟨tb_in 624 (by decide +kernel) rfl, tb_in 91 (by decide +kernel) rfl, ⟨by decide, by decide⟩, by decide +kernel⟩, tb_in 623 (by decide +kernel) rfl, tb_in 46 (by decide +kernel) rfl⟩
def fX0_fit_L54 (n : Nat) (v2 : Int32) (K1 : Mem → Option (Unit × Mem)) : Nat → Int32 → Mem → Option (Unit × Mem)
  | 0, _, _ => none
  | F + 1, v3, μ => if (μ.1 42 4) ≤ v3 then K1 μ else bd (fX1_allows n v2 v3 μ) (fun r10 m9 => if r10 = 0 then gd (inb v3 8) (bnd (setJ m9 46 (Int32.toNatClampNeg v3) 0) (fun m11 => bnd (v3 + 1) (fun x12 => fX0_fit_L54 n v2 K1 F x12 m11))) else bd (fX0_tallyFrom n v3 m9) (fun r14 m13 => gd (inb v3 8) (bnd (setJ m13 46 (Int32.toNatClampNeg v3) r14) (fun m15 => bnd (v3 + 1) (fun x16 => fX0_fit_L54 n v2 K1 F x16 m15)))))
def fX0_fit_L48 (n : Nat) : Nat → Int32 → Mem → Option (Unit × Mem)
  | 0, _, _ => none
  | F + 1, v2, μ => if v2 < 0 then some ((), μ) else fX0_fit_L54 n v2 (fun (m17 : Mem) => bd (fX0_turn n m17) (fun r19 m18 => bnd (v2 + (-1)) (fun x20 => fX0_fit_L48 n F x20 m18))) n 0 μ
def fX0_fit (n : Nat) (μ : Mem) : Option (Unit × Mem) :=
  fX0_fit_L2 n (fun (m7 : Mem) => bnd ((m7.1 40 1) - 2) (fun x8 => fX0_fit_L48 n n x8 m7)) n 0 μ
set_option maxHeartbeats 4000000 in
set_option maxRecDepth 100000 in
theorem wX0_fit_L2 (ad : Nat → Nat) (n : Nat) (K1 : Mem → Option (Unit × Mem)) (hK1 : ∀ (μ : Mem), G kX0_fit ad encV 41 [(0, .ref (ad 42)), (1, .ref (ad 40))] [] μ (K1 μ)) : ∀ (F : Nat) (v2 : Int32) (μ : Mem), G kX0_fit ad encV 2 [(0, .ref (ad 42)), (1, .ref (ad 40)), (2, .int v2)] [] μ (fX0_fit_L2 n K1 F v2 μ) := by
  intro F
  induction F with
  | zero =>
    intro v2 μ
    exact g_none
  | succ F ih =>
    intro v2 μ
    rw [fX0_fit_L2]
    refine g_iload_n (pc := 2) 2 dX0_fit_2 rfl rfl ?_
    refine g_aload_n (pc := 3) 0 dX0_fit_3 rfl rfl ?_
    refine g_get (pc := 4) rfl foX0_31 (v := .int (μ.1 42 4)) rfl dX0_fit_4 ?_
    refine g_icmp_ge (pc := 7) 41 dX0_fit_7 rfl ?_ ?_
    · exact g_sub [0, 1] rfl (hK1 μ)
    · refine g_aload_n (pc := 10) 0 dX0_fit_10 rfl rfl ?_
      refine g_get (pc := 11) rfl foX0_18 (v := .ref (ad 45)) rfl dX0_fit_11 ?_
      refine g_iload_n (pc := 14) 2 dX0_fit_14 rfl rfl ?_
      refine g_aload_n (pc := 15) 1 dX0_fit_15 rfl rfl ?_
      refine g_aload_n (pc := 16) 1 dX0_fit_16 rfl rfl ?_
      refine g_get (pc := 17) rfl foX0_75 (v := .int (μ.1 40 1)) rfl dX0_fit_17 ?_
      refine g_iconst (pc := 20) 1 dX0_fit_20 (by decide) ?_
      refine g_isub (pc := 21) dX0_fit_21 ?_
      refine g_iload_n (pc := 22) 2 dX0_fit_22 rfl rfl ?_
      refine g_cVI (pc := 23) (st := [.int v2, .ref (ad 45)]) [.int ((μ.1 40 1) - 1), .int v2] rfl rfl moX1_allows lnX0_78 (ctX1_allows ad n ((μ.1 40 1) - 1) v2 μ) rfl ⟨Nat.le_of_ble_eq_true rfl, Nat.le_of_ble_eq_true rfl⟩ rfl (Nat.le_of_ble_eq_true rfl) dX0_fit_23 (fun r2 m1 => ?_)
      refine g_if_eq (pc := 26) 33 dX0_fit_26 rfl ?_ ?_
      · refine g_lconst (pc := 33) 0 dX0_fit_33 (by decide) ?_
        refine g_last (pc := 34) rfl dX0_fit_34 (fun m3 => ?_)
        refine g_iincB (pc := 35) 2 1 1 (fun x4 => [(2, .int x4), (0, .ref (ad 42)), (1, .ref (ad 40))]) dX0_fit_35 rfl (by decide) (by decide) (fun _ => rfl) (fun x4 => ?_)
        refine g_goto (pc := 38) 2 dX0_fit_38 rfl ?_
        exact g_sub [1, 2, 0] rfl (ih x4 m3)
      · refine g_lconst (pc := 29) 1 dX0_fit_29 (by decide) ?_
        refine g_goto (pc := 30) 34 dX0_fit_30 rfl ?_
        refine g_last (pc := 34) rfl dX0_fit_34 (fun m5 => ?_)
        refine g_iincB (pc := 35) 2 1 1 (fun x6 => [(2, .int x6), (0, .ref (ad 42)), (1, .ref (ad 40))]) dX0_fit_35 rfl (by decide) (by decide) (fun _ => rfl) (fun x6 => ?_)
        refine g_goto (pc := 38) 2 dX0_fit_38 rfl ?_
        exact g_sub [1, 2, 0] rfl (ih x6 m5)
set_option maxHeartbeats 4000000 in
set_option maxRecDepth 100000 in
theorem wX0_fit_L54 (ad : Nat → Nat) (n : Nat) (v2 : Int32) (K1 : Mem → Option (Unit × Mem)) (hK1 : ∀ (μ : Mem), G kX0_fit ad encV 92 [(0, .ref (ad 42)), (1, .ref (ad 40)), (2, .int v2)] [] μ (K1 μ)) : ∀ (F : Nat) (v3 : Int32) (μ : Mem), G kX0_fit ad encV 54 [(0, .ref (ad 42)), (1, .ref (ad 40)), (2, .int v2), (3, .int v3)] [] μ (fX0_fit_L54 n v2 K1 F v3 μ) := by
  intro F
  induction F with
  | zero =>
    intro v3 μ
    exact g_none
  | succ F ih =>
    intro v3 μ
    rw [fX0_fit_L54]
    refine g_iload_n (pc := 54) 3 dX0_fit_54 rfl rfl ?_
    refine g_aload_n (pc := 55) 0 dX0_fit_55 rfl rfl ?_
    refine g_get (pc := 56) rfl foX0_31 (v := .int (μ.1 42 4)) rfl dX0_fit_56 ?_
    refine g_icmp_ge (pc := 59) 92 dX0_fit_59 rfl ?_ ?_
    · exact g_sub [0, 1, 2] rfl (hK1 μ)
    · refine g_aload_n (pc := 62) 0 dX0_fit_62 rfl rfl ?_
      refine g_get (pc := 63) rfl foX0_22 (v := .ref (ad 46)) rfl dX0_fit_63 ?_
      refine g_iload_n (pc := 66) 3 dX0_fit_66 rfl rfl ?_
      refine g_aload_n (pc := 67) 1 dX0_fit_67 rfl rfl ?_
      refine g_iload_n (pc := 68) 2 dX0_fit_68 rfl rfl ?_
      refine g_iload_n (pc := 69) 3 dX0_fit_69 rfl rfl ?_
      refine g_cVI (pc := 70) (st := [.int v3, .ref (ad 46)]) [.int v2, .int v3] rfl rfl moX1_allows lnX0_78 (ctX1_allows ad n v2 v3 μ) rfl ⟨Nat.le_of_ble_eq_true rfl, Nat.le_of_ble_eq_true rfl⟩ rfl (Nat.le_of_ble_eq_true rfl) dX0_fit_70 (fun r10 m9 => ?_)
      refine g_if_eq (pc := 73) 84 dX0_fit_73 rfl ?_ ?_
      · refine g_lconst (pc := 84) 0 dX0_fit_84 (by decide) ?_
        refine g_last (pc := 85) rfl dX0_fit_85 (fun m11 => ?_)
        refine g_iincB (pc := 86) 3 1 1 (fun x12 => [(3, .int x12), (0, .ref (ad 42)), (1, .ref (ad 40)), (2, .int v2)]) dX0_fit_86 rfl (by decide) (by decide) (fun _ => rfl) (fun x12 => ?_)
        refine g_goto (pc := 89) 54 dX0_fit_89 rfl ?_
        exact g_sub [1, 2, 3, 0] rfl (ih x12 m11)
      · refine g_aload_n (pc := 76) 0 dX0_fit_76 rfl rfl ?_
        refine g_iload_n (pc := 77) 3 dX0_fit_77 rfl rfl ?_
        refine g_cVJ (pc := 78) (st := [.int v3, .ref (ad 46)]) [.int v3] rfl rfl moX0_tallyFrom lnX0_81 (ctX0_tallyFrom ad n v3 m9) rfl ⟨Nat.le_of_ble_eq_true rfl, Nat.le_of_ble_eq_true rfl⟩ rfl (Nat.le_of_ble_eq_true rfl) dX0_fit_78 (fun r14 m13 => ?_)
        refine g_goto (pc := 81) 85 dX0_fit_81 rfl ?_
        refine g_last (pc := 85) rfl dX0_fit_85 (fun m15 => ?_)
        refine g_iincB (pc := 86) 3 1 1 (fun x16 => [(3, .int x16), (0, .ref (ad 42)), (1, .ref (ad 40)), (2, .int v2)]) dX0_fit_86 rfl (by decide) (by decide) (fun _ => rfl) (fun x16 => ?_)
        refine g_goto (pc := 89) 54 dX0_fit_89 rfl ?_
        exact g_sub [1, 2, 3, 0] rfl (ih x16 m15)
set_option maxHeartbeats 4000000 in
set_option maxRecDepth 100000 in
theorem wX0_fit_L48 (ad : Nat → Nat) (n : Nat) : ∀ (F : Nat) (v2 : Int32) (μ : Mem), G kX0_fit ad encV 48 [(0, .ref (ad 42)), (1, .ref (ad 40)), (2, .int v2)] [] μ (fX0_fit_L48 n F v2 μ) := by
  intro F
  induction F with
  | zero =>
    intro v2 μ
    exact g_none
  | succ F ih =>
    intro v2 μ
    rw [fX0_fit_L48]
    refine g_iload_n (pc := 48) 2 dX0_fit_48 rfl rfl ?_
    refine g_if_lt (pc := 49) 102 dX0_fit_49 rfl ?_ ?_
    · exact g_return (pc := 102) dX0_fit_102 rfl
    · refine g_iconst (pc := 52) 0 dX0_fit_52 (by decide) ?_
      refine g_istore_n (pc := 53) [(3, .int 0), (0, .ref (ad 42)), (1, .ref (ad 40)), (2, .int v2)] dX0_fit_53 rfl (by decide) rfl ?_
      refine g_sub [1, 2, 3, 0] rfl (wX0_fit_L54 ad n v2 _ (fun m17 => ?_) n 0 μ)
      refine g_aload_n (pc := 92) 0 dX0_fit_92 rfl rfl ?_
      refine g_cVV (pc := 93) (st := []) [] rfl rfl moX0_turn lnX0_64 (ctX0_turn ad n m17) rfl ⟨Nat.le_of_ble_eq_true rfl, Nat.le_of_ble_eq_true rfl⟩ rfl (Nat.le_of_ble_eq_true rfl) dX0_fit_93 (fun r19 m18 => ?_)
      refine g_iincB (pc := 96) 2 (-1) (-1) (fun x20 => [(2, .int x20), (0, .ref (ad 42)), (1, .ref (ad 40))]) dX0_fit_96 rfl (by decide) (by decide) (fun _ => rfl) (fun x20 => ?_)
      refine g_goto (pc := 99) 48 dX0_fit_99 rfl ?_
      exact g_sub [1, 2, 0] rfl (ih x20 m18)
set_option maxHeartbeats 4000000 in
set_option maxRecDepth 100000 in
theorem ctX0_fit (ad : Nat → Nat) (n : Nat) (μ : Mem) : Ct yX0_fit kX0_fit ad encV [.ref (ad 42), .ref (ad 40)] μ (fX0_fit n μ) := Ct.of (by decide +kernel) rfl (Nat.le_of_ble_eq_true rfl) (by
  show G kX0_fit ad encV 0 [(0, .ref (ad 42)), (1, .ref (ad 40))] [] μ (fX0_fit n μ)
  unfold fX0_fit
  refine g_iconst (pc := 0) 0 dX0_fit_0 (by decide) ?_
  refine g_istore_n (pc := 1) [(2, .int 0), (0, .ref (ad 42)), (1, .ref (ad 40))] dX0_fit_1 rfl (by decide) rfl ?_
  refine g_sub [1, 2, 0] rfl (wX0_fit_L2 ad n _ (fun m7 => ?_) n 0 μ)
  refine g_aload_n (pc := 41) 1 dX0_fit_41 rfl rfl ?_
  refine g_get (pc := 42) rfl foX0_75 (v := .int (m7.1 40 1)) rfl dX0_fit_42 ?_
  refine g_iconst (pc := 45) 2 dX0_fit_45 (by decide) ?_
  refine g_isub (pc := 46) dX0_fit_46 ?_
  refine g_istore_nB (pc := 47) (fun x8 => [(2, .int x8), (0, .ref (ad 42)), (1, .ref (ad 40))]) dX0_fit_47 rfl (by decide) (fun _ => rfl) (fun x8 => ?_)
  exact g_sub [1, 2, 0] rfl (wX0_fit_L48 ad n n x8 m7))
-- StopsByLetters$Net.fittingStations()I
abbrev kX0_fittingStations : Cfg := (RX0, cX0_fittingStations, 3, (some .int), 0)
theorem dX0_fittingStations_0 : decode cX0_fittingStations 0 = .ok (.iconst 0, 1) := by decide +kernel
theorem dX0_fittingStations_1 : decode cX0_fittingStations 1 = .ok (.istore_n 1, 1) := by decide +kernel
theorem dX0_fittingStations_2 : decode cX0_fittingStations 2 = .ok (.iconst 0, 1) := by decide +kernel
theorem dX0_fittingStations_3 : decode cX0_fittingStations 3 = .ok (.istore_n 2, 1) := by decide +kernel
theorem dX0_fittingStations_4 : decode cX0_fittingStations 4 = .ok (.iload_n 2, 1) := by decide +kernel
theorem dX0_fittingStations_5 : decode cX0_fittingStations 5 = .ok (.aload_n 0, 1) := by decide +kernel
theorem dX0_fittingStations_6 : decode cX0_fittingStations 6 = .ok (.getfield 31, 3) := by decide +kernel
theorem dX0_fittingStations_9 : decode cX0_fittingStations 9 = .ok (.if_icmp .ge 26, 3) := by decide +kernel
theorem dX0_fittingStations_12 : decode cX0_fittingStations 12 = .ok (.aload_n 0, 1) := by decide +kernel
theorem dX0_fittingStations_13 : decode cX0_fittingStations 13 = .ok (.getfield 18, 3) := by decide +kernel
theorem dX0_fittingStations_16 : decode cX0_fittingStations 16 = .ok (.iload_n 2, 1) := by decide +kernel
theorem dX0_fittingStations_17 : decode cX0_fittingStations 17 = .ok (.laload, 1) := by decide +kernel
theorem dX0_fittingStations_18 : decode cX0_fittingStations 18 = .ok (.lconst 0, 1) := by decide +kernel
theorem dX0_fittingStations_19 : decode cX0_fittingStations 19 = .ok (.lcmp, 1) := by decide +kernel
theorem dX0_fittingStations_20 : decode cX0_fittingStations 20 = .ok (.ifCond .le 9, 3) := by decide +kernel
theorem dX0_fittingStations_23 : decode cX0_fittingStations 23 = .ok (.iload_n 1, 1) := by decide +kernel
theorem dX0_fittingStations_24 : decode cX0_fittingStations 24 = .ok (.iconst 1, 1) := by decide +kernel
theorem dX0_fittingStations_25 : decode cX0_fittingStations 25 = .ok (.iload_n 2, 1) := by decide +kernel
theorem dX0_fittingStations_26 : decode cX0_fittingStations 26 = .ok (.ishl, 1) := by decide +kernel
theorem dX0_fittingStations_27 : decode cX0_fittingStations 27 = .ok (.ior, 1) := by decide +kernel
theorem dX0_fittingStations_28 : decode cX0_fittingStations 28 = .ok (.istore_n 1, 1) := by decide +kernel
theorem dX0_fittingStations_29 : decode cX0_fittingStations 29 = .ok (.iinc 2 1, 3) := by decide +kernel
theorem dX0_fittingStations_32 : decode cX0_fittingStations 32 = .ok (.goto (-28), 3) := by decide +kernel
theorem dX0_fittingStations_35 : decode cX0_fittingStations 35 = .ok (.iload_n 1, 1) := by decide +kernel
theorem dX0_fittingStations_36 : decode cX0_fittingStations 36 = .ok (.ireturn, 1) := by decide +kernel
def fX0_fittingStations_L4 (n : Nat) : Nat → Int32 → Int32 → Mem → Option (Int32 × Mem)
  | 0, _, _, _ => none
  | F + 1, v1, v2, μ => if (μ.1 42 4) ≤ v2 then some (v1, μ) else gd (inb v2 8) (if (lg_cmp (μ.2 45 (Int32.toNatClampNeg v2)) 0) ≤ 0 then bnd (v2 + 1) (fun x1 => fX0_fittingStations_L4 n F v1 x1 μ) else bnd (v1 ||| (jshl 1 v2)) (fun x2 => bnd (v2 + 1) (fun x3 => fX0_fittingStations_L4 n F x2 x3 μ)))
def fX0_fittingStations (n : Nat) (μ : Mem) : Option (Int32 × Mem) :=
  fX0_fittingStations_L4 n n 0 0 μ
set_option maxHeartbeats 4000000 in
set_option maxRecDepth 100000 in
theorem wX0_fittingStations_L4 (ad : Nat → Nat) (n : Nat) : ∀ (F : Nat) (v1 : Int32) (v2 : Int32) (μ : Mem), G kX0_fittingStations ad encI 4 [(0, .ref (ad 42)), (1, .int v1), (2, .int v2)] [] μ (fX0_fittingStations_L4 n F v1 v2 μ) := by
  intro F
  induction F with
  | zero =>
    intro v1 v2 μ
    exact g_none
  | succ F ih =>
    intro v1 v2 μ
    rw [fX0_fittingStations_L4]
    refine g_iload_n (pc := 4) 2 dX0_fittingStations_4 rfl rfl ?_
    refine g_aload_n (pc := 5) 0 dX0_fittingStations_5 rfl rfl ?_
    refine g_get (pc := 6) rfl foX0_31 (v := .int (μ.1 42 4)) rfl dX0_fittingStations_6 ?_
    refine g_icmp_ge (pc := 9) 35 dX0_fittingStations_9 rfl ?_ ?_
    · refine g_iload_n (pc := 35) 1 dX0_fittingStations_35 rfl rfl ?_
      exact g_ireturn (pc := 36) dX0_fittingStations_36 rfl
    · refine g_aload_n (pc := 12) 0 dX0_fittingStations_12 rfl rfl ?_
      refine g_get (pc := 13) rfl foX0_18 (v := .ref (ad 45)) rfl dX0_fittingStations_13 ?_
      refine g_iload_n (pc := 16) 2 dX0_fittingStations_16 rfl rfl ?_
      refine g_lald (pc := 17) rfl dX0_fittingStations_17 ?_
      refine g_lconst (pc := 18) 0 dX0_fittingStations_18 (by decide) ?_
      refine g_lcmp (pc := 19) dX0_fittingStations_19 ?_
      refine g_if_le (pc := 20) 29 dX0_fittingStations_20 rfl ?_ ?_
      · refine g_iincB (pc := 29) 2 1 1 (fun x1 => [(2, .int x1), (0, .ref (ad 42)), (1, .int v1)]) dX0_fittingStations_29 rfl (by decide) (by decide) (fun _ => rfl) (fun x1 => ?_)
        refine g_goto (pc := 32) 4 dX0_fittingStations_32 rfl ?_
        exact g_sub [1, 2, 0] rfl (ih v1 x1 μ)
      · refine g_iload_n (pc := 23) 1 dX0_fittingStations_23 rfl rfl ?_
        refine g_iconst (pc := 24) 1 dX0_fittingStations_24 (by decide) ?_
        refine g_iload_n (pc := 25) 2 dX0_fittingStations_25 rfl rfl ?_
        refine g_ishl' (pc := 26) dX0_fittingStations_26 ?_
        refine g_ior (pc := 27) dX0_fittingStations_27 ?_
        refine g_istore_nB (pc := 28) (fun x2 => [(1, .int x2), (0, .ref (ad 42)), (2, .int v2)]) dX0_fittingStations_28 rfl (by decide) (fun _ => rfl) (fun x2 => ?_)
        refine g_iincB (pc := 29) 2 1 1 (fun x3 => [(2, .int x3), (1, .int x2), (0, .ref (ad 42))]) dX0_fittingStations_29 rfl (by decide) (by decide) (fun _ => rfl) (fun x3 => ?_)
        refine g_goto (pc := 32) 4 dX0_fittingStations_32 rfl ?_
        exact g_sub [2, 1, 0] rfl (ih x2 x3 μ)
set_option maxHeartbeats 4000000 in
set_option maxRecDepth 100000 in
theorem ctX0_fittingStations (ad : Nat → Nat) (n : Nat) (μ : Mem) : Ct yX0_fittingStations kX0_fittingStations ad encI [.ref (ad 42)] μ (fX0_fittingStations n μ) := Ct.of (by decide +kernel) rfl (Nat.le_of_ble_eq_true rfl) (by
  show G kX0_fittingStations ad encI 0 [(0, .ref (ad 42))] [] μ (fX0_fittingStations n μ)
  unfold fX0_fittingStations
  refine g_iconst (pc := 0) 0 dX0_fittingStations_0 (by decide) ?_
  refine g_istore_n (pc := 1) [(1, .int 0), (0, .ref (ad 42))] dX0_fittingStations_1 rfl (by decide) rfl ?_
  refine g_iconst (pc := 2) 0 dX0_fittingStations_2 (by decide) ?_
  refine g_istore_n (pc := 3) [(2, .int 0), (1, .int 0), (0, .ref (ad 42))] dX0_fittingStations_3 rfl (by decide) rfl ?_
  exact g_sub [2, 1, 0] rfl (wX0_fittingStations_L4 ad n n 0 0 μ))
-- StopsByLetters$Net.fittingWays()J
abbrev kX0_fittingWays : Cfg := (RX0, cX0_fittingWays, 4, (some .long), 0)
theorem dX0_fittingWays_0 : decode cX0_fittingWays 0 = .ok (.lconst 0, 1) := by decide +kernel
theorem dX0_fittingWays_1 : decode cX0_fittingWays 1 = .ok (.lstore_n 1, 1) := by decide +kernel
theorem dX0_fittingWays_2 : decode cX0_fittingWays 2 = .ok (.iconst 0, 1) := by decide +kernel
theorem dX0_fittingWays_3 : decode cX0_fittingWays 3 = .ok (.istore_n 3, 1) := by decide +kernel
theorem dX0_fittingWays_4 : decode cX0_fittingWays 4 = .ok (.iload_n 3, 1) := by decide +kernel
theorem dX0_fittingWays_5 : decode cX0_fittingWays 5 = .ok (.aload_n 0, 1) := by decide +kernel
theorem dX0_fittingWays_6 : decode cX0_fittingWays 6 = .ok (.getfield 31, 3) := by decide +kernel
theorem dX0_fittingWays_9 : decode cX0_fittingWays 9 = .ok (.if_icmp .ge 18, 3) := by decide +kernel
theorem dX0_fittingWays_12 : decode cX0_fittingWays 12 = .ok (.lload_n 1, 1) := by decide +kernel
theorem dX0_fittingWays_13 : decode cX0_fittingWays 13 = .ok (.aload_n 0, 1) := by decide +kernel
theorem dX0_fittingWays_14 : decode cX0_fittingWays 14 = .ok (.getfield 18, 3) := by decide +kernel
theorem dX0_fittingWays_17 : decode cX0_fittingWays 17 = .ok (.iload_n 3, 1) := by decide +kernel
theorem dX0_fittingWays_18 : decode cX0_fittingWays 18 = .ok (.laload, 1) := by decide +kernel
theorem dX0_fittingWays_19 : decode cX0_fittingWays 19 = .ok (.ladd, 1) := by decide +kernel
theorem dX0_fittingWays_20 : decode cX0_fittingWays 20 = .ok (.lstore_n 1, 1) := by decide +kernel
theorem dX0_fittingWays_21 : decode cX0_fittingWays 21 = .ok (.iinc 3 1, 3) := by decide +kernel
theorem dX0_fittingWays_24 : decode cX0_fittingWays 24 = .ok (.goto (-20), 3) := by decide +kernel
theorem dX0_fittingWays_27 : decode cX0_fittingWays 27 = .ok (.lload_n 1, 1) := by decide +kernel
theorem dX0_fittingWays_28 : decode cX0_fittingWays 28 = .ok (.lreturn, 1) := by decide +kernel
def fX0_fittingWays_L4 (n : Nat) : Nat → Int64 → Int32 → Mem → Option (Int64 × Mem)
  | 0, _, _, _ => none
  | F + 1, v1, v3, μ => if (μ.1 42 4) ≤ v3 then some (v1, μ) else gd (inb v3 8) (bnd (v1 + (μ.2 45 (Int32.toNatClampNeg v3))) (fun x1 => bnd (v3 + 1) (fun x2 => fX0_fittingWays_L4 n F x1 x2 μ)))
def fX0_fittingWays (n : Nat) (μ : Mem) : Option (Int64 × Mem) :=
  fX0_fittingWays_L4 n n 0 0 μ
set_option maxHeartbeats 4000000 in
set_option maxRecDepth 100000 in
theorem wX0_fittingWays_L4 (ad : Nat → Nat) (n : Nat) : ∀ (F : Nat) (v1 : Int64) (v3 : Int32) (μ : Mem), G kX0_fittingWays ad encJ 4 [(0, .ref (ad 42)), (1, .long v1), (3, .int v3)] [] μ (fX0_fittingWays_L4 n F v1 v3 μ) := by
  intro F
  induction F with
  | zero =>
    intro v1 v3 μ
    exact g_none
  | succ F ih =>
    intro v1 v3 μ
    rw [fX0_fittingWays_L4]
    refine g_iload_n (pc := 4) 2 dX0_fittingWays_4 rfl rfl ?_
    refine g_aload_n (pc := 5) 0 dX0_fittingWays_5 rfl rfl ?_
    refine g_get (pc := 6) rfl foX0_31 (v := .int (μ.1 42 4)) rfl dX0_fittingWays_6 ?_
    refine g_icmp_ge (pc := 9) 27 dX0_fittingWays_9 rfl ?_ ?_
    · refine g_lload_n (pc := 27) 1 dX0_fittingWays_27 rfl rfl ?_
      exact g_lreturn (pc := 28) dX0_fittingWays_28 rfl
    · refine g_lload_n (pc := 12) 1 dX0_fittingWays_12 rfl rfl ?_
      refine g_aload_n (pc := 13) 0 dX0_fittingWays_13 rfl rfl ?_
      refine g_get (pc := 14) rfl foX0_18 (v := .ref (ad 45)) rfl dX0_fittingWays_14 ?_
      refine g_iload_n (pc := 17) 2 dX0_fittingWays_17 rfl rfl ?_
      refine g_lald (pc := 18) rfl dX0_fittingWays_18 ?_
      refine g_ladd (pc := 19) dX0_fittingWays_19 ?_
      refine g_lstore_nB (pc := 20) (fun x1 => [(1, .long x1), (0, .ref (ad 42)), (3, .int v3)]) dX0_fittingWays_20 rfl (by decide) (fun _ => rfl) (fun x1 => ?_)
      refine g_iincB (pc := 21) 2 1 1 (fun x2 => [(3, .int x2), (1, .long x1), (0, .ref (ad 42))]) dX0_fittingWays_21 rfl (by decide) (by decide) (fun _ => rfl) (fun x2 => ?_)
      refine g_goto (pc := 24) 4 dX0_fittingWays_24 rfl ?_
      exact g_sub [2, 1, 0] rfl (ih x1 x2 μ)
set_option maxHeartbeats 4000000 in
set_option maxRecDepth 100000 in
theorem ctX0_fittingWays (ad : Nat → Nat) (n : Nat) (μ : Mem) : Ct yX0_fittingWays kX0_fittingWays ad encJ [.ref (ad 42)] μ (fX0_fittingWays n μ) := Ct.of (by decide +kernel) rfl (Nat.le_of_ble_eq_true rfl) (by
  show G kX0_fittingWays ad encJ 0 [(0, .ref (ad 42))] [] μ (fX0_fittingWays n μ)
  unfold fX0_fittingWays
  refine g_lconst (pc := 0) 0 dX0_fittingWays_0 (by decide) ?_
  refine g_lstore_n (pc := 1) [(1, .long 0), (0, .ref (ad 42))] dX0_fittingWays_1 rfl (by decide) rfl ?_
  refine g_iconst (pc := 2) 0 dX0_fittingWays_2 (by decide) ?_
  refine g_istore_n (pc := 3) [(3, .int 0), (1, .long 0), (0, .ref (ad 42))] dX0_fittingWays_3 rfl (by decide) rfl ?_
  exact g_sub [2, 1, 0] rfl (wX0_fittingWays_L4 ad n n 0 0 μ))
-- StopsByLetters$Net.firstNoRide(LStopsByLetters$Sights;)I
abbrev kX0_firstNoRide : Cfg := (RX0, cX0_firstNoRide, 4, (some .int), 1)
theorem dX0_firstNoRide_0 : decode cX0_firstNoRide 0 = .ok (.iconst 0, 1) := by decide +kernel
theorem dX0_firstNoRide_1 : decode cX0_firstNoRide 1 = .ok (.istore_n 2, 1) := by decide +kernel
theorem dX0_firstNoRide_2 : decode cX0_firstNoRide 2 = .ok (.iload_n 2, 1) := by decide +kernel
theorem dX0_firstNoRide_3 : decode cX0_firstNoRide 3 = .ok (.aload_n 1, 1) := by decide +kernel
theorem dX0_firstNoRide_4 : decode cX0_firstNoRide 4 = .ok (.getfield 75, 3) := by decide +kernel
theorem dX0_firstNoRide_7 : decode cX0_firstNoRide 7 = .ok (.if_icmp .ge 46, 3) := by decide +kernel
theorem dX0_firstNoRide_10 : decode cX0_firstNoRide 10 = .ok (.aload_n 1, 1) := by decide +kernel
theorem dX0_firstNoRide_11 : decode cX0_firstNoRide 11 = .ok (.iload_n 2, 1) := by decide +kernel
theorem dX0_firstNoRide_12 : decode cX0_firstNoRide 12 = .ok (.invokevirtual 84, 3) := by decide +kernel
theorem dX0_firstNoRide_15 : decode cX0_firstNoRide 15 = .ok (.istore_n 3, 1) := by decide +kernel
theorem dX0_firstNoRide_16 : decode cX0_firstNoRide 16 = .ok (.iload_n 3, 1) := by decide +kernel
theorem dX0_firstNoRide_17 : decode cX0_firstNoRide 17 = .ok (.aload_n 0, 1) := by decide +kernel
theorem dX0_firstNoRide_18 : decode cX0_firstNoRide 18 = .ok (.getfield 31, 3) := by decide +kernel
theorem dX0_firstNoRide_21 : decode cX0_firstNoRide 21 = .ok (.if_icmp .lt 5, 3) := by decide +kernel
theorem dX0_firstNoRide_24 : decode cX0_firstNoRide 24 = .ok (.iload_n 2, 1) := by decide +kernel
theorem dX0_firstNoRide_25 : decode cX0_firstNoRide 25 = .ok (.ireturn, 1) := by decide +kernel
theorem dX0_firstNoRide_26 : decode cX0_firstNoRide 26 = .ok (.iload_n 2, 1) := by decide +kernel
theorem dX0_firstNoRide_27 : decode cX0_firstNoRide 27 = .ok (.ifCond .le 20, 3) := by decide +kernel
theorem dX0_firstNoRide_30 : decode cX0_firstNoRide 30 = .ok (.aload_n 0, 1) := by decide +kernel
theorem dX0_firstNoRide_31 : decode cX0_firstNoRide 31 = .ok (.aload_n 1, 1) := by decide +kernel
theorem dX0_firstNoRide_32 : decode cX0_firstNoRide 32 = .ok (.iload_n 2, 1) := by decide +kernel
theorem dX0_firstNoRide_33 : decode cX0_firstNoRide 33 = .ok (.iconst 1, 1) := by decide +kernel
theorem dX0_firstNoRide_34 : decode cX0_firstNoRide 34 = .ok (.isub, 1) := by decide +kernel
theorem dX0_firstNoRide_35 : decode cX0_firstNoRide 35 = .ok (.invokevirtual 84, 3) := by decide +kernel
theorem dX0_firstNoRide_38 : decode cX0_firstNoRide 38 = .ok (.iload_n 3, 1) := by decide +kernel
theorem dX0_firstNoRide_39 : decode cX0_firstNoRide 39 = .ok (.invokevirtual 67, 3) := by decide +kernel
theorem dX0_firstNoRide_42 : decode cX0_firstNoRide 42 = .ok (.ifCond .ne 5, 3) := by decide +kernel
theorem dX0_firstNoRide_45 : decode cX0_firstNoRide 45 = .ok (.iload_n 2, 1) := by decide +kernel
theorem dX0_firstNoRide_46 : decode cX0_firstNoRide 46 = .ok (.ireturn, 1) := by decide +kernel
theorem dX0_firstNoRide_47 : decode cX0_firstNoRide 47 = .ok (.iinc 2 1, 3) := by decide +kernel
theorem dX0_firstNoRide_50 : decode cX0_firstNoRide 50 = .ok (.goto (-48), 3) := by decide +kernel
theorem dX0_firstNoRide_53 : decode cX0_firstNoRide 53 = .ok (.bipush (-9), 2) := by decide +kernel
theorem dX0_firstNoRide_55 : decode cX0_firstNoRide 55 = .ok (.ireturn, 1) := by decide +kernel
theorem lnX0_84 : Ln RX0 84 yX1_at := Or.inr ⟨RX4, nt_in 654 (by decide +kernel) rfl⟩
def fX0_firstNoRide_L2 (n : Nat) : Nat → Int32 → Mem → Option (Int32 × Mem)
  | 0, _, _ => none
  | F + 1, v2, μ => if (μ.1 40 1) ≤ v2 then some ((-9), μ) else bd (fX1_at n v2 μ) (fun r2 m1 => if r2 < (m1.1 42 4) then if v2 ≤ 0 then bnd (v2 + 1) (fun x3 => fX0_firstNoRide_L2 n F x3 m1) else bd (fX1_at n (v2 - 1) m1) (fun r5 m4 => bd (fX0_leads n r5 r2 m4) (fun r7 m6 => if r7 = 0 then some (v2, m6) else bnd (v2 + 1) (fun x8 => fX0_firstNoRide_L2 n F x8 m6))) else some (v2, m1))
def fX0_firstNoRide (n : Nat) (μ : Mem) : Option (Int32 × Mem) :=
  fX0_firstNoRide_L2 n n 0 μ
set_option maxHeartbeats 4000000 in
set_option maxRecDepth 100000 in
theorem wX0_firstNoRide_L2 (ad : Nat → Nat) (n : Nat) : ∀ (F : Nat) (v2 : Int32) (μ : Mem), G kX0_firstNoRide ad encI 2 [(0, .ref (ad 42)), (1, .ref (ad 40)), (2, .int v2)] [] μ (fX0_firstNoRide_L2 n F v2 μ) := by
  intro F
  induction F with
  | zero =>
    intro v2 μ
    exact g_none
  | succ F ih =>
    intro v2 μ
    rw [fX0_firstNoRide_L2]
    refine g_iload_n (pc := 2) 2 dX0_firstNoRide_2 rfl rfl ?_
    refine g_aload_n (pc := 3) 1 dX0_firstNoRide_3 rfl rfl ?_
    refine g_get (pc := 4) rfl foX0_75 (v := .int (μ.1 40 1)) rfl dX0_firstNoRide_4 ?_
    refine g_icmp_ge (pc := 7) 53 dX0_firstNoRide_7 rfl ?_ ?_
    · refine g_bipush (pc := 53) (-9) dX0_firstNoRide_53 (by decide) ?_
      exact g_ireturn (pc := 55) dX0_firstNoRide_55 rfl
    · refine g_aload_n (pc := 10) 1 dX0_firstNoRide_10 rfl rfl ?_
      refine g_iload_n (pc := 11) 2 dX0_firstNoRide_11 rfl rfl ?_
      refine g_cVI (pc := 12) (st := []) [.int v2] rfl rfl moX1_at lnX0_84 (ctX1_at ad n v2 μ) rfl ⟨Nat.le_of_ble_eq_true rfl, Nat.le_of_ble_eq_true rfl⟩ rfl (Nat.le_of_ble_eq_true rfl) dX0_firstNoRide_12 (fun r2 m1 => ?_)
      refine g_istore_n (pc := 15) [(3, .int r2), (0, .ref (ad 42)), (1, .ref (ad 40)), (2, .int v2)] dX0_firstNoRide_15 rfl (by decide) rfl ?_
      refine g_iload_n (pc := 16) 0 dX0_firstNoRide_16 rfl rfl ?_
      refine g_aload_n (pc := 17) 1 dX0_firstNoRide_17 rfl rfl ?_
      refine g_get (pc := 18) rfl foX0_31 (v := .int (m1.1 42 4)) rfl dX0_firstNoRide_18 ?_
      refine g_icmp_lt (pc := 21) 26 dX0_firstNoRide_21 rfl ?_ ?_
      · refine g_iload_n (pc := 26) 3 dX0_firstNoRide_26 rfl rfl ?_
        refine g_if_le (pc := 27) 47 dX0_firstNoRide_27 rfl ?_ ?_
        · refine g_iincB (pc := 47) 3 1 1 (fun x3 => [(2, .int x3), (3, .int r2), (0, .ref (ad 42)), (1, .ref (ad 40))]) dX0_firstNoRide_47 rfl (by decide) (by decide) (fun _ => rfl) (fun x3 => ?_)
          refine g_goto (pc := 50) 2 dX0_firstNoRide_50 rfl ?_
          exact g_sub [2, 3, 0] rfl (ih x3 m1)
        · refine g_aload_n (pc := 30) 1 dX0_firstNoRide_30 rfl rfl ?_
          refine g_aload_n (pc := 31) 2 dX0_firstNoRide_31 rfl rfl ?_
          refine g_iload_n (pc := 32) 3 dX0_firstNoRide_32 rfl rfl ?_
          refine g_iconst (pc := 33) 1 dX0_firstNoRide_33 (by decide) ?_
          refine g_isub (pc := 34) dX0_firstNoRide_34 ?_
          refine g_cVI (pc := 35) (st := [.ref (ad 42)]) [.int (v2 - 1)] rfl rfl moX1_at lnX0_84 (ctX1_at ad n (v2 - 1) m1) rfl ⟨Nat.le_of_ble_eq_true rfl, Nat.le_of_ble_eq_true rfl⟩ rfl (Nat.le_of_ble_eq_true rfl) dX0_firstNoRide_35 (fun r5 m4 => ?_)
          refine g_iload_n (pc := 38) 0 dX0_firstNoRide_38 rfl rfl ?_
          refine g_cVI (pc := 39) (st := []) [.int r5, .int r2] rfl rfl moX0_leads lnX0_67 (ctX0_leads ad n r5 r2 m4) rfl ⟨Nat.le_of_ble_eq_true rfl, Nat.le_of_ble_eq_true rfl⟩ rfl (Nat.le_of_ble_eq_true rfl) dX0_firstNoRide_39 (fun r7 m6 => ?_)
          refine g_if_ne (pc := 42) 47 dX0_firstNoRide_42 rfl ?_ ?_
          · refine g_iincB (pc := 47) 3 1 1 (fun x8 => [(2, .int x8), (3, .int r2), (0, .ref (ad 42)), (1, .ref (ad 40))]) dX0_firstNoRide_47 rfl (by decide) (by decide) (fun _ => rfl) (fun x8 => ?_)
            refine g_goto (pc := 50) 2 dX0_firstNoRide_50 rfl ?_
            exact g_sub [2, 3, 0] rfl (ih x8 m6)
          · refine g_iload_n (pc := 45) 3 dX0_firstNoRide_45 rfl rfl ?_
            exact g_ireturn (pc := 46) dX0_firstNoRide_46 rfl
      · refine g_iload_n (pc := 24) 3 dX0_firstNoRide_24 rfl rfl ?_
        exact g_ireturn (pc := 25) dX0_firstNoRide_25 rfl
set_option maxHeartbeats 4000000 in
set_option maxRecDepth 100000 in
theorem ctX0_firstNoRide (ad : Nat → Nat) (n : Nat) (μ : Mem) : Ct yX0_firstNoRide kX0_firstNoRide ad encI [.ref (ad 42), .ref (ad 40)] μ (fX0_firstNoRide n μ) := Ct.of (by decide +kernel) rfl (Nat.le_of_ble_eq_true rfl) (by
  show G kX0_firstNoRide ad encI 0 [(0, .ref (ad 42)), (1, .ref (ad 40))] [] μ (fX0_firstNoRide n μ)
  unfold fX0_firstNoRide
  refine g_iconst (pc := 0) 0 dX0_firstNoRide_0 (by decide) ?_
  refine g_istore_n (pc := 1) [(2, .int 0), (0, .ref (ad 42)), (1, .ref (ad 40))] dX0_firstNoRide_1 rfl (by decide) rfl ?_
  exact g_sub [1, 2, 0] rfl (wX0_firstNoRide_L2 ad n n 0 μ))
-- StopsByLetters$Net.rideOf(II)I
abbrev kX0_rideOf : Cfg := (RX0, cX0_rideOf, 5, (some .int), 1)
theorem dX0_rideOf_0 : decode cX0_rideOf 0 = .ok (.iconst 0, 1) := by decide +kernel
theorem dX0_rideOf_1 : decode cX0_rideOf 1 = .ok (.istore_n 3, 1) := by decide +kernel
theorem dX0_rideOf_2 : decode cX0_rideOf 2 = .ok (.iconst 0, 1) := by decide +kernel
theorem dX0_rideOf_3 : decode cX0_rideOf 3 = .ok (.istore 4, 2) := by decide +kernel
theorem dX0_rideOf_5 : decode cX0_rideOf 5 = .ok (.iload 4, 2) := by decide +kernel
theorem dX0_rideOf_7 : decode cX0_rideOf 7 = .ok (.aload_n 0, 1) := by decide +kernel
theorem dX0_rideOf_8 : decode cX0_rideOf 8 = .ok (.getfield 31, 3) := by decide +kernel
theorem dX0_rideOf_11 : decode cX0_rideOf 11 = .ok (.if_icmp .ge 33, 3) := by decide +kernel
theorem dX0_rideOf_14 : decode cX0_rideOf 14 = .ok (.aload_n 0, 1) := by decide +kernel
theorem dX0_rideOf_15 : decode cX0_rideOf 15 = .ok (.iload_n 1, 1) := by decide +kernel
theorem dX0_rideOf_16 : decode cX0_rideOf 16 = .ok (.iload 4, 2) := by decide +kernel
theorem dX0_rideOf_18 : decode cX0_rideOf 18 = .ok (.invokevirtual 67, 3) := by decide +kernel
theorem dX0_rideOf_21 : decode cX0_rideOf 21 = .ok (.ifCond .ne 6, 3) := by decide +kernel
theorem dX0_rideOf_24 : decode cX0_rideOf 24 = .ok (.goto 14, 3) := by decide +kernel
theorem dX0_rideOf_27 : decode cX0_rideOf 27 = .ok (.iload_n 3, 1) := by decide +kernel
theorem dX0_rideOf_28 : decode cX0_rideOf 28 = .ok (.iload_n 2, 1) := by decide +kernel
theorem dX0_rideOf_29 : decode cX0_rideOf 29 = .ok (.if_icmp .ne 6, 3) := by decide +kernel
theorem dX0_rideOf_32 : decode cX0_rideOf 32 = .ok (.iload 4, 2) := by decide +kernel
theorem dX0_rideOf_34 : decode cX0_rideOf 34 = .ok (.ireturn, 1) := by decide +kernel
theorem dX0_rideOf_35 : decode cX0_rideOf 35 = .ok (.iinc 3 1, 3) := by decide +kernel
theorem dX0_rideOf_38 : decode cX0_rideOf 38 = .ok (.iinc 4 1, 3) := by decide +kernel
theorem dX0_rideOf_41 : decode cX0_rideOf 41 = .ok (.goto (-36), 3) := by decide +kernel
theorem dX0_rideOf_44 : decode cX0_rideOf 44 = .ok (.iload_n 1, 1) := by decide +kernel
theorem dX0_rideOf_45 : decode cX0_rideOf 45 = .ok (.ireturn, 1) := by decide +kernel
def fX0_rideOf_L5 (n : Nat) (v1 : Int32) (v2 : Int32) : Nat → Int32 → Int32 → Mem → Option (Int32 × Mem)
  | 0, _, _, _ => none
  | F + 1, v3, v4, μ => if (μ.1 42 4) ≤ v4 then some (v1, μ) else bd (fX0_leads n v1 v4 μ) (fun r2 m1 => if r2 = 0 then bnd (v4 + 1) (fun x5 => fX0_rideOf_L5 n v1 v2 F v3 x5 m1) else if v3 = v2 then some (v4, m1) else bnd (v3 + 1) (fun x3 => bnd (v4 + 1) (fun x4 => fX0_rideOf_L5 n v1 v2 F x3 x4 m1)))
def fX0_rideOf (n : Nat) (a1 : Int32) (a2 : Int32) (μ : Mem) : Option (Int32 × Mem) :=
  fX0_rideOf_L5 n a1 a2 n 0 0 μ
set_option maxHeartbeats 4000000 in
set_option maxRecDepth 100000 in
theorem wX0_rideOf_L5 (ad : Nat → Nat) (n : Nat) (v1 : Int32) (v2 : Int32) : ∀ (F : Nat) (v3 : Int32) (v4 : Int32) (μ : Mem), G kX0_rideOf ad encI 5 [(0, .ref (ad 42)), (1, .int v1), (2, .int v2), (3, .int v3), (4, .int v4)] [] μ (fX0_rideOf_L5 n v1 v2 F v3 v4 μ) := by
  intro F
  induction F with
  | zero =>
    intro v3 v4 μ
    exact g_none
  | succ F ih =>
    intro v3 v4 μ
    rw [fX0_rideOf_L5]
    refine g_iload (pc := 5) 4 dX0_rideOf_5 rfl ?_
    refine g_aload_n (pc := 7) 0 dX0_rideOf_7 rfl rfl ?_
    refine g_get (pc := 8) rfl foX0_31 (v := .int (μ.1 42 4)) rfl dX0_rideOf_8 ?_
    refine g_icmp_ge (pc := 11) 44 dX0_rideOf_11 rfl ?_ ?_
    · refine g_iload_n (pc := 44) 1 dX0_rideOf_44 rfl rfl ?_
      exact g_ireturn (pc := 45) dX0_rideOf_45 rfl
    · refine g_aload_n (pc := 14) 0 dX0_rideOf_14 rfl rfl ?_
      refine g_iload_n (pc := 15) 1 dX0_rideOf_15 rfl rfl ?_
      refine g_iload (pc := 16) 4 dX0_rideOf_16 rfl ?_
      refine g_cVI (pc := 18) (st := []) [.int v1, .int v4] rfl rfl moX0_leads lnX0_67 (ctX0_leads ad n v1 v4 μ) rfl ⟨Nat.le_of_ble_eq_true rfl, Nat.le_of_ble_eq_true rfl⟩ rfl (Nat.le_of_ble_eq_true rfl) dX0_rideOf_18 (fun r2 m1 => ?_)
      refine g_if_ne (pc := 21) 27 dX0_rideOf_21 rfl ?_ ?_
      · refine g_iload_n (pc := 27) 3 dX0_rideOf_27 rfl rfl ?_
        refine g_iload_n (pc := 28) 2 dX0_rideOf_28 rfl rfl ?_
        refine g_icmp_ne (pc := 29) 35 dX0_rideOf_29 rfl ?_ ?_
        · refine g_iincB (pc := 35) 3 1 1 (fun x3 => [(3, .int x3), (0, .ref (ad 42)), (1, .int v1), (2, .int v2), (4, .int v4)]) dX0_rideOf_35 rfl (by decide) (by decide) (fun _ => rfl) (fun x3 => ?_)
          refine g_iincB (pc := 38) 4 1 1 (fun x4 => [(4, .int x4), (3, .int x3), (0, .ref (ad 42)), (1, .int v1), (2, .int v2)]) dX0_rideOf_38 rfl (by decide) (by decide) (fun _ => rfl) (fun x4 => ?_)
          refine g_goto (pc := 41) 5 dX0_rideOf_41 rfl ?_
          exact g_sub [2, 3, 4, 1, 0] rfl (ih x3 x4 m1)
        · refine g_iload (pc := 32) 4 dX0_rideOf_32 rfl ?_
          exact g_ireturn (pc := 34) dX0_rideOf_34 rfl
      · refine g_goto (pc := 24) 38 dX0_rideOf_24 rfl ?_
        refine g_iincB (pc := 38) 4 1 1 (fun x5 => [(4, .int x5), (0, .ref (ad 42)), (1, .int v1), (2, .int v2), (3, .int v3)]) dX0_rideOf_38 rfl (by decide) (by decide) (fun _ => rfl) (fun x5 => ?_)
        refine g_goto (pc := 41) 5 dX0_rideOf_41 rfl ?_
        exact g_sub [1, 2, 3, 4, 0] rfl (ih v3 x5 m1)
set_option maxHeartbeats 4000000 in
set_option maxRecDepth 100000 in
theorem ctX0_rideOf (ad : Nat → Nat) (n : Nat) (a1 : Int32) (a2 : Int32) (μ : Mem) : Ct yX0_rideOf kX0_rideOf ad encI [.ref (ad 42), .int a1, .int a2] μ (fX0_rideOf n a1 a2 μ) := Ct.of (by decide +kernel) rfl (Nat.le_of_ble_eq_true rfl) (by
  show G kX0_rideOf ad encI 0 [(0, .ref (ad 42)), (1, .int a1), (2, .int a2)] [] μ (fX0_rideOf n a1 a2 μ)
  unfold fX0_rideOf
  refine g_iconst (pc := 0) 0 dX0_rideOf_0 (by decide) ?_
  refine g_istore_n (pc := 1) [(3, .int 0), (0, .ref (ad 42)), (1, .int a1), (2, .int a2)] dX0_rideOf_1 rfl (by decide) rfl ?_
  refine g_iconst (pc := 2) 0 dX0_rideOf_2 (by decide) ?_
  refine g_istore (pc := 3) [(4, .int 0), (3, .int 0), (0, .ref (ad 42)), (1, .int a1), (2, .int a2)] dX0_rideOf_3 (by decide) rfl ?_
  exact g_sub [2, 3, 4, 1, 0] rfl (wX0_rideOf_L5 ad n a1 a2 n 0 0 μ))
-- StopsByLetters$Net.drawn(III)I
abbrev kX0_drawn : Cfg := (RX0, cX0_drawn, 8, (some .int), 2)
theorem dX0_drawn_0 : decode cX0_drawn 0 = .ok (.iload_n 1, 1) := by decide +kernel
theorem dX0_drawn_1 : decode cX0_drawn 1 = .ok (.istore 4, 2) := by decide +kernel
theorem dX0_drawn_3 : decode cX0_drawn 3 = .ok (.iload_n 3, 1) := by decide +kernel
theorem dX0_drawn_4 : decode cX0_drawn 4 = .ok (.istore 5, 2) := by decide +kernel
theorem dX0_drawn_6 : decode cX0_drawn 6 = .ok (.iconst 0, 1) := by decide +kernel
theorem dX0_drawn_7 : decode cX0_drawn 7 = .ok (.istore 6, 2) := by decide +kernel
theorem dX0_drawn_9 : decode cX0_drawn 9 = .ok (.iload 6, 2) := by decide +kernel
theorem dX0_drawn_11 : decode cX0_drawn 11 = .ok (.iload_n 2, 1) := by decide +kernel
theorem dX0_drawn_12 : decode cX0_drawn 12 = .ok (.if_icmp .ge 60, 3) := by decide +kernel
theorem dX0_drawn_15 : decode cX0_drawn 15 = .ok (.aload_n 0, 1) := by decide +kernel
theorem dX0_drawn_16 : decode cX0_drawn 16 = .ok (.getfield 9, 3) := by decide +kernel
theorem dX0_drawn_19 : decode cX0_drawn 19 = .ok (.iload 4, 2) := by decide +kernel
theorem dX0_drawn_21 : decode cX0_drawn 21 = .ok (.iaload, 1) := by decide +kernel
theorem dX0_drawn_22 : decode cX0_drawn 22 = .ok (.invokestatic 51, 3) := by decide +kernel
theorem dX0_drawn_25 : decode cX0_drawn 25 = .ok (.istore 7, 2) := by decide +kernel
theorem dX0_drawn_27 : decode cX0_drawn 27 = .ok (.iload 7, 2) := by decide +kernel
theorem dX0_drawn_29 : decode cX0_drawn 29 = .ok (.iconst 1, 1) := by decide +kernel
theorem dX0_drawn_30 : decode cX0_drawn 30 = .ok (.if_icmp .ge 6, 3) := by decide +kernel
theorem dX0_drawn_33 : decode cX0_drawn 33 = .ok (.iload 4, 2) := by decide +kernel
theorem dX0_drawn_35 : decode cX0_drawn 35 = .ok (.ireturn, 1) := by decide +kernel
theorem dX0_drawn_36 : decode cX0_drawn 36 = .ok (.iload 5, 2) := by decide +kernel
theorem dX0_drawn_38 : decode cX0_drawn 38 = .ok (.ldc 87, 2) := by decide +kernel
theorem dX0_drawn_40 : decode cX0_drawn 40 = .ok (.imul, 1) := by decide +kernel
theorem dX0_drawn_41 : decode cX0_drawn 41 = .ok (.ldc 88, 2) := by decide +kernel
theorem dX0_drawn_43 : decode cX0_drawn 43 = .ok (.iadd, 1) := by decide +kernel
theorem dX0_drawn_44 : decode cX0_drawn 44 = .ok (.istore 5, 2) := by decide +kernel
theorem dX0_drawn_46 : decode cX0_drawn 46 = .ok (.aload_n 0, 1) := by decide +kernel
theorem dX0_drawn_47 : decode cX0_drawn 47 = .ok (.iload 4, 2) := by decide +kernel
theorem dX0_drawn_49 : decode cX0_drawn 49 = .ok (.iload 5, 2) := by decide +kernel
theorem dX0_drawn_51 : decode cX0_drawn 51 = .ok (.ldc 89, 2) := by decide +kernel
theorem dX0_drawn_53 : decode cX0_drawn 53 = .ok (.iand, 1) := by decide +kernel
theorem dX0_drawn_54 : decode cX0_drawn 54 = .ok (.sipush 256, 3) := by decide +kernel
theorem dX0_drawn_57 : decode cX0_drawn 57 = .ok (.idiv, 1) := by decide +kernel
theorem dX0_drawn_58 : decode cX0_drawn 58 = .ok (.iload 7, 2) := by decide +kernel
theorem dX0_drawn_60 : decode cX0_drawn 60 = .ok (.irem, 1) := by decide +kernel
theorem dX0_drawn_61 : decode cX0_drawn 61 = .ok (.invokevirtual 90, 3) := by decide +kernel
theorem dX0_drawn_64 : decode cX0_drawn 64 = .ok (.istore 4, 2) := by decide +kernel
theorem dX0_drawn_66 : decode cX0_drawn 66 = .ok (.iinc 6 1, 3) := by decide +kernel
theorem dX0_drawn_69 : decode cX0_drawn 69 = .ok (.goto (-60), 3) := by decide +kernel
theorem dX0_drawn_72 : decode cX0_drawn 72 = .ok (.iload 4, 2) := by decide +kernel
theorem dX0_drawn_74 : decode cX0_drawn 74 = .ok (.ireturn, 1) := by decide +kernel
theorem cwX0_87 : Cond.constant RX0 87 (1664525 : Int32) ∈ TB := tb_in 663 (by decide +kernel) rfl
theorem cwX0_88 : Cond.constant RX0 88 (1013904223 : Int32) ∈ TB := tb_in 664 (by decide +kernel) rfl
theorem cwX0_89 : Cond.constant RX0 89 (2147483647 : Int32) ∈ TB := tb_in 665 (by decide +kernel) rfl
theorem lnX0_90 : Ln RX0 90 yX0_rideOf := Or.inl (tb_in 666 (by decide +kernel) rfl)
theorem moX0_rideOf : Mv yX0_rideOf kX0_rideOf 2 := ⟨⟨tb_in 669 (by decide +kernel) rfl, tb_in 91 (by decide +kernel) rfl, ⟨by decide, by decide⟩, by decide +kernel⟩, tb_in 668 (by decide +kernel) rfl, tb_in 53 (by decide +kernel) rfl⟩
def fX0_drawn_L9 (n : Nat) (v2 : Int32) : Nat → Int32 → Int32 → Int32 → Mem → Option (Int32 × Mem)
  | 0, _, _, _, _ => none
  | F + 1, v4, v5, v6, μ => if v2 ≤ v6 then some (v4, μ) else gd (inb v4 8) (bd (fJ6_bitCount_0f7a4 n (μ.1 43 (Int32.toNatClampNeg v4)) μ) (fun r2 m1 => if 1 ≤ r2 then bnd ((v5 * 1664525) + 1013904223) (fun x3 => gd (nz r2) (bd (fX0_rideOf n v4 (jrem ((x3 &&& 2147483647) / 256) r2) m1) (fun r5 m4 => bnd (v6 + 1) (fun x6 => fX0_drawn_L9 n v2 F r5 x3 x6 m4)))) else some (v4, m1)))
def fX0_drawn (n : Nat) (a1 : Int32) (a2 : Int32) (a3 : Int32) (μ : Mem) : Option (Int32 × Mem) :=
  fX0_drawn_L9 n a2 n a1 a3 0 μ
set_option maxHeartbeats 4000000 in
set_option maxRecDepth 100000 in
theorem wX0_drawn_L9 (ad : Nat → Nat) (n : Nat) (v2 : Int32) : ∀ (F : Nat) (v4 : Int32) (v5 : Int32) (v6 : Int32) (μ : Mem), G kX0_drawn ad encI 9 [(0, .ref (ad 42)), (2, .int v2), (4, .int v4), (5, .int v5), (6, .int v6)] [] μ (fX0_drawn_L9 n v2 F v4 v5 v6 μ) := by
  intro F
  induction F with
  | zero =>
    intro v4 v5 v6 μ
    exact g_none
  | succ F ih =>
    intro v4 v5 v6 μ
    rw [fX0_drawn_L9]
    refine g_iload (pc := 9) 4 dX0_drawn_9 rfl ?_
    refine g_iload_n (pc := 11) 1 dX0_drawn_11 rfl rfl ?_
    refine g_icmp_ge (pc := 12) 72 dX0_drawn_12 rfl ?_ ?_
    · refine g_iload (pc := 72) 2 dX0_drawn_72 rfl ?_
      exact g_ireturn (pc := 74) dX0_drawn_74 rfl
    · refine g_aload_n (pc := 15) 0 dX0_drawn_15 rfl rfl ?_
      refine g_get (pc := 16) rfl foX0_9 (v := .ref (ad 43)) rfl dX0_drawn_16 ?_
      refine g_iload (pc := 19) 2 dX0_drawn_19 rfl ?_
      refine g_iald (pc := 21) rfl (by decide) dX0_drawn_21 ?_
      refine g_cSI (pc := 22) (st := []) [.int (μ.1 43 (Int32.toNatClampNeg v4))] moJ6_bitCount_0f7a4 lnX0_51 (ctJ6_bitCount_0f7a4 ad n (μ.1 43 (Int32.toNatClampNeg v4)) μ) rfl ⟨Nat.le_of_ble_eq_true rfl, Nat.le_of_ble_eq_true rfl⟩ rfl (Nat.le_of_ble_eq_true rfl) dX0_drawn_22 (fun r2 m1 => ?_)
      refine g_istore (pc := 25) [(7, .int r2), (0, .ref (ad 42)), (2, .int v2), (4, .int v4), (5, .int v5), (6, .int v6)] dX0_drawn_25 (by decide) rfl ?_
      refine g_iload (pc := 27) 0 dX0_drawn_27 rfl ?_
      refine g_iconst (pc := 29) 1 dX0_drawn_29 (by decide) ?_
      refine g_icmp_ge (pc := 30) 36 dX0_drawn_30 rfl ?_ ?_
      · refine g_iload (pc := 36) 4 dX0_drawn_36 rfl ?_
        refine g_ldc (pc := 38) dX0_drawn_38 cwX0_87 ?_
        refine g_imul (pc := 40) dX0_drawn_40 ?_
        refine g_ldc (pc := 41) dX0_drawn_41 cwX0_88 ?_
        refine g_iadd (pc := 43) dX0_drawn_43 ?_
        refine g_istoreB (pc := 44) (fun x3 => [(5, .int x3), (7, .int r2), (0, .ref (ad 42)), (2, .int v2), (4, .int v4), (6, .int v6)]) dX0_drawn_44 (by decide) (fun _ => rfl) (fun x3 => ?_)
        refine g_aload_n (pc := 46) 2 dX0_drawn_46 rfl rfl ?_
        refine g_iload (pc := 47) 4 dX0_drawn_47 rfl ?_
        refine g_iload (pc := 49) 0 dX0_drawn_49 rfl ?_
        refine g_ldc (pc := 51) dX0_drawn_51 cwX0_89 ?_
        refine g_iand (pc := 53) dX0_drawn_53 ?_
        refine g_sipush (pc := 54) 256 dX0_drawn_54 (by decide) ?_
        refine g_idiv (pc := 57) dX0_drawn_57 (by decide) ?_
        refine g_iload (pc := 58) 1 dX0_drawn_58 rfl ?_
        refine g_iremG (pc := 60) dX0_drawn_60 ?_
        refine g_cVI (pc := 61) (st := []) [.int v4, .int (jrem ((x3 &&& 2147483647) / 256) r2)] rfl rfl moX0_rideOf lnX0_90 (ctX0_rideOf ad n v4 (jrem ((x3 &&& 2147483647) / 256) r2) m1) rfl ⟨Nat.le_of_ble_eq_true rfl, Nat.le_of_ble_eq_true rfl⟩ rfl (Nat.le_of_ble_eq_true rfl) dX0_drawn_61 (fun r5 m4 => ?_)
        refine g_istore (pc := 64) [(4, .int r5), (5, .int x3), (7, .int r2), (0, .ref (ad 42)), (2, .int v2), (6, .int v6)] dX0_drawn_64 (by decide) rfl ?_
        refine g_iincB (pc := 66) 5 1 1 (fun x6 => [(6, .int x6), (4, .int r5), (5, .int x3), (7, .int r2), (0, .ref (ad 42)), (2, .int v2)]) dX0_drawn_66 rfl (by decide) (by decide) (fun _ => rfl) (fun x6 => ?_)
        refine g_goto (pc := 69) 9 dX0_drawn_69 rfl ?_
        exact g_sub [4, 5, 1, 2, 0] rfl (ih r5 x3 x6 m4)
      · refine g_iload (pc := 33) 3 dX0_drawn_33 rfl ?_
        exact g_ireturn (pc := 35) dX0_drawn_35 rfl
set_option maxHeartbeats 4000000 in
set_option maxRecDepth 100000 in
theorem ctX0_drawn (ad : Nat → Nat) (n : Nat) (a1 : Int32) (a2 : Int32) (a3 : Int32) (μ : Mem) : Ct yX0_drawn kX0_drawn ad encI [.ref (ad 42), .int a1, .int a2, .int a3] μ (fX0_drawn n a1 a2 a3 μ) := Ct.of (by decide +kernel) rfl (Nat.le_of_ble_eq_true rfl) (by
  show G kX0_drawn ad encI 0 [(0, .ref (ad 42)), (1, .int a1), (2, .int a2), (3, .int a3)] [] μ (fX0_drawn n a1 a2 a3 μ)
  unfold fX0_drawn
  refine g_iload_n (pc := 0) 1 dX0_drawn_0 rfl rfl ?_
  refine g_istore (pc := 1) [(4, .int a1), (0, .ref (ad 42)), (1, .int a1), (2, .int a2), (3, .int a3)] dX0_drawn_1 (by decide) rfl ?_
  refine g_iload_n (pc := 3) 4 dX0_drawn_3 rfl rfl ?_
  refine g_istore (pc := 4) [(5, .int a3), (4, .int a1), (0, .ref (ad 42)), (1, .int a1), (2, .int a2), (3, .int a3)] dX0_drawn_4 (by decide) rfl ?_
  refine g_iconst (pc := 6) 0 dX0_drawn_6 (by decide) ?_
  refine g_istore (pc := 7) [(6, .int 0), (5, .int a3), (4, .int a1), (0, .ref (ad 42)), (1, .int a1), (2, .int a2), (3, .int a3)] dX0_drawn_7 (by decide) rfl ?_
  exact g_sub [3, 5, 2, 1, 0] rfl (wX0_drawn_L9 ad n a2 n a1 a3 0 μ))
