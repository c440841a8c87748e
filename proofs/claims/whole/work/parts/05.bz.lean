/-! ===== kindOf: the text's index ===== -/
def RJ0 : String := "java/lang/String"
def RJ1 : String := "java/lang/StringLatin1"
abbrev cJ0_indexOf_0f7a4 : ByteArray := prog_11_method_79_code
def yJ0_indexOf_0f7a4 : MethodName := ⟨RJ0, "indexOf", "(I)I"⟩
abbrev kJ0_indexOf_0f7a4 : Cfg := (RJ0, cJ0_indexOf_0f7a4, 2, (some .int), 3)
theorem dJ0_indexOf_0f7a4_0 : decode cJ0_indexOf_0f7a4 0 = .ok (.aload_n 0, 1) := by decide +kernel
theorem dJ0_indexOf_0f7a4_1 : decode cJ0_indexOf_0f7a4 1 = .ok (.iload_n 1, 1) := by decide +kernel
theorem dJ0_indexOf_0f7a4_2 : decode cJ0_indexOf_0f7a4 2 = .ok (.iconst 0, 1) := by decide +kernel
theorem dJ0_indexOf_0f7a4_3 : decode cJ0_indexOf_0f7a4 3 = .ok (.invokevirtual 633, 3) := by decide +kernel
theorem dJ0_indexOf_0f7a4_6 : decode cJ0_indexOf_0f7a4 6 = .ok (.ireturn, 1) := by decide +kernel
theorem moJ0_indexOf_0f7a4 : Mv yJ0_indexOf_0f7a4 kJ0_indexOf_0f7a4 1 := ⟨⟨tb_in 255 (by decide +kernel) rfl, tb_in 93 (by decide +kernel) rfl, ⟨by decide, by decide⟩, by decide +kernel⟩, tb_in 253 (by decide +kernel) rfl, tb_in 254 (by decide +kernel) rfl⟩
abbrev cJ0_indexOf_7cf53 : ByteArray := prog_11_method_80_code
def yJ0_indexOf_7cf53 : MethodName := ⟨RJ0, "indexOf", "(II)I"⟩
abbrev kJ0_indexOf_7cf53 : Cfg := (RJ0, cJ0_indexOf_7cf53, 3, (some .int), 2)
theorem dJ0_indexOf_7cf53_0 : decode cJ0_indexOf_7cf53 0 = .ok (.aload_n 0, 1) := by decide +kernel
theorem dJ0_indexOf_7cf53_1 : decode cJ0_indexOf_7cf53 1 = .ok (.invokevirtual 492, 3) := by decide +kernel
theorem dJ0_indexOf_7cf53_4 : decode cJ0_indexOf_7cf53 4 = .ok (.ifCond .eq 19, 3) := by decide +kernel
theorem dJ0_indexOf_7cf53_7 : decode cJ0_indexOf_7cf53 7 = .ok (.aload_n 0, 1) := by decide +kernel
theorem dJ0_indexOf_7cf53_8 : decode cJ0_indexOf_7cf53 8 = .ok (.getfield 9, 3) := by decide +kernel
theorem dJ0_indexOf_7cf53_11 : decode cJ0_indexOf_7cf53 11 = .ok (.iload_n 1, 1) := by decide +kernel
theorem dJ0_indexOf_7cf53_12 : decode cJ0_indexOf_7cf53 12 = .ok (.iload_n 2, 1) := by decide +kernel
theorem dJ0_indexOf_7cf53_13 : decode cJ0_indexOf_7cf53 13 = .ok (.aload_n 0, 1) := by decide +kernel
theorem dJ0_indexOf_7cf53_14 : decode cJ0_indexOf_7cf53 14 = .ok (.invokevirtual 505, 3) := by decide +kernel
theorem dJ0_indexOf_7cf53_17 : decode cJ0_indexOf_7cf53 17 = .ok (.invokestatic 637, 3) := by decide +kernel
theorem dJ0_indexOf_7cf53_20 : decode cJ0_indexOf_7cf53 20 = .ok (.goto 16, 3) := by decide +kernel
theorem dJ0_indexOf_7cf53_23 : decode cJ0_indexOf_7cf53 23 = .ok (.aload_n 0, 1) := by decide +kernel
theorem dJ0_indexOf_7cf53_24 : decode cJ0_indexOf_7cf53 24 = .ok (.getfield 9, 3) := by decide +kernel
theorem dJ0_indexOf_7cf53_27 : decode cJ0_indexOf_7cf53 27 = .ok (.iload_n 1, 1) := by decide +kernel
theorem dJ0_indexOf_7cf53_28 : decode cJ0_indexOf_7cf53 28 = .ok (.iload_n 2, 1) := by decide +kernel
theorem dJ0_indexOf_7cf53_29 : decode cJ0_indexOf_7cf53 29 = .ok (.aload_n 0, 1) := by decide +kernel
theorem dJ0_indexOf_7cf53_30 : decode cJ0_indexOf_7cf53 30 = .ok (.invokevirtual 505, 3) := by decide +kernel
theorem dJ0_indexOf_7cf53_33 : decode cJ0_indexOf_7cf53 33 = .ok (.invokestatic 640, 3) := by decide +kernel
theorem dJ0_indexOf_7cf53_36 : decode cJ0_indexOf_7cf53 36 = .ok (.ireturn, 1) := by decide +kernel
theorem moJ0_indexOf_7cf53 : Mv yJ0_indexOf_7cf53 kJ0_indexOf_7cf53 2 := ⟨⟨tb_in 259 (by decide +kernel) rfl, tb_in 93 (by decide +kernel) rfl, ⟨by decide, by decide⟩, by decide +kernel⟩, tb_in 257 (by decide +kernel) rfl, tb_in 258 (by decide +kernel) rfl⟩
abbrev cJ0_isLatin1_aae02 : ByteArray := prog_11_method_154_code
def yJ0_isLatin1_aae02 : MethodName := ⟨RJ0, "isLatin1", "()Z"⟩
abbrev kJ0_isLatin1_aae02 : Cfg := (RJ0, cJ0_isLatin1_aae02, 1, (some .boolean), 0)
theorem dJ0_isLatin1_aae02_0 : decode cJ0_isLatin1_aae02 0 = .ok (.getstatic 38, 3) := by decide +kernel
theorem dJ0_isLatin1_aae02_3 : decode cJ0_isLatin1_aae02 3 = .ok (.ifCond .eq 14, 3) := by decide +kernel
theorem dJ0_isLatin1_aae02_6 : decode cJ0_isLatin1_aae02 6 = .ok (.aload_n 0, 1) := by decide +kernel
theorem dJ0_isLatin1_aae02_7 : decode cJ0_isLatin1_aae02 7 = .ok (.getfield 15, 3) := by decide +kernel
theorem dJ0_isLatin1_aae02_10 : decode cJ0_isLatin1_aae02 10 = .ok (.ifCond .ne 7, 3) := by decide +kernel
theorem dJ0_isLatin1_aae02_13 : decode cJ0_isLatin1_aae02 13 = .ok (.iconst 1, 1) := by decide +kernel
theorem dJ0_isLatin1_aae02_14 : decode cJ0_isLatin1_aae02 14 = .ok (.goto 4, 3) := by decide +kernel
theorem dJ0_isLatin1_aae02_17 : decode cJ0_isLatin1_aae02 17 = .ok (.iconst 0, 1) := by decide +kernel
theorem dJ0_isLatin1_aae02_18 : decode cJ0_isLatin1_aae02 18 = .ok (.ireturn, 1) := by decide +kernel
theorem moJ0_isLatin1_aae02 : Mv yJ0_isLatin1_aae02 kJ0_isLatin1_aae02 0 := ⟨⟨tb_in 263 (by decide +kernel) rfl, tb_in 93 (by decide +kernel) rfl, ⟨by decide, by decide⟩, by decide +kernel⟩, tb_in 261 (by decide +kernel) rfl, tb_in 262 (by decide +kernel) rfl⟩
abbrev cJ0_length_8abf5 : ByteArray := prog_11_method_54_code
def yJ0_length_8abf5 : MethodName := ⟨RJ0, "length", "()I"⟩
abbrev kJ0_length_8abf5 : Cfg := (RJ0, cJ0_length_8abf5, 1, (some .int), 1)
theorem dJ0_length_8abf5_0 : decode cJ0_length_8abf5 0 = .ok (.aload_n 0, 1) := by decide +kernel
theorem dJ0_length_8abf5_1 : decode cJ0_length_8abf5 1 = .ok (.getfield 9, 3) := by decide +kernel
theorem dJ0_length_8abf5_4 : decode cJ0_length_8abf5 4 = .ok (.arraylength, 1) := by decide +kernel
theorem dJ0_length_8abf5_5 : decode cJ0_length_8abf5 5 = .ok (.aload_n 0, 1) := by decide +kernel
theorem dJ0_length_8abf5_6 : decode cJ0_length_8abf5 6 = .ok (.invokevirtual 335, 3) := by decide +kernel
theorem dJ0_length_8abf5_9 : decode cJ0_length_8abf5 9 = .ok (.ishr, 1) := by decide +kernel
theorem dJ0_length_8abf5_10 : decode cJ0_length_8abf5 10 = .ok (.ireturn, 1) := by decide +kernel
theorem moJ0_length_8abf5 : Mv yJ0_length_8abf5 kJ0_length_8abf5 0 := ⟨⟨tb_in 269 (by decide +kernel) rfl, tb_in 93 (by decide +kernel) rfl, ⟨by decide, by decide⟩, by decide +kernel⟩, tb_in 267 (by decide +kernel) rfl, tb_in 268 (by decide +kernel) rfl⟩
abbrev cJ0_coder_7d493 : ByteArray := prog_11_method_152_code
def yJ0_coder_7d493 : MethodName := ⟨RJ0, "coder", "()B"⟩
abbrev kJ0_coder_7d493 : Cfg := (RJ0, cJ0_coder_7d493, 1, (some .byte), 0)
theorem dJ0_coder_7d493_0 : decode cJ0_coder_7d493 0 = .ok (.getstatic 38, 3) := by decide +kernel
theorem dJ0_coder_7d493_3 : decode cJ0_coder_7d493 3 = .ok (.ifCond .eq 10, 3) := by decide +kernel
theorem dJ0_coder_7d493_6 : decode cJ0_coder_7d493 6 = .ok (.aload_n 0, 1) := by decide +kernel
theorem dJ0_coder_7d493_7 : decode cJ0_coder_7d493 7 = .ok (.getfield 15, 3) := by decide +kernel
theorem dJ0_coder_7d493_10 : decode cJ0_coder_7d493 10 = .ok (.goto 4, 3) := by decide +kernel
theorem dJ0_coder_7d493_13 : decode cJ0_coder_7d493 13 = .ok (.iconst 1, 1) := by decide +kernel
theorem dJ0_coder_7d493_14 : decode cJ0_coder_7d493 14 = .ok (.ireturn, 1) := by decide +kernel
theorem moJ0_coder_7d493 : Mv yJ0_coder_7d493 kJ0_coder_7d493 0 := ⟨⟨tb_in 273 (by decide +kernel) rfl, tb_in 93 (by decide +kernel) rfl, ⟨by decide, by decide⟩, by decide +kernel⟩, tb_in 271 (by decide +kernel) rfl, tb_in 272 (by decide +kernel) rfl⟩
abbrev cJ1_indexOf_4cfef : ByteArray := prog_12_method_22_code
def yJ1_indexOf_4cfef : MethodName := ⟨RJ1, "indexOf", "([BIII)I"⟩
abbrev kJ1_indexOf_4cfef : Cfg := (RJ1, cJ1_indexOf_4cfef, 4, (some .int), 1)
theorem dJ1_indexOf_4cfef_0 : decode cJ1_indexOf_4cfef 0 = .ok (.iload_n 1, 1) := by decide +kernel
theorem dJ1_indexOf_4cfef_1 : decode cJ1_indexOf_4cfef 1 = .ok (.invokestatic 88, 3) := by decide +kernel
theorem dJ1_indexOf_4cfef_4 : decode cJ1_indexOf_4cfef 4 = .ok (.ifCond .ne 5, 3) := by decide +kernel
theorem dJ1_indexOf_4cfef_7 : decode cJ1_indexOf_4cfef 7 = .ok (.iconst (-1), 1) := by decide +kernel
theorem dJ1_indexOf_4cfef_8 : decode cJ1_indexOf_4cfef 8 = .ok (.ireturn, 1) := by decide +kernel
theorem dJ1_indexOf_4cfef_9 : decode cJ1_indexOf_4cfef 9 = .ok (.iload_n 2, 1) := by decide +kernel
theorem dJ1_indexOf_4cfef_10 : decode cJ1_indexOf_4cfef 10 = .ok (.iconst 0, 1) := by decide +kernel
theorem dJ1_indexOf_4cfef_11 : decode cJ1_indexOf_4cfef 11 = .ok (.invokestatic 92, 3) := by decide +kernel
theorem dJ1_indexOf_4cfef_14 : decode cJ1_indexOf_4cfef 14 = .ok (.istore_n 2, 1) := by decide +kernel
theorem dJ1_indexOf_4cfef_15 : decode cJ1_indexOf_4cfef 15 = .ok (.iload_n 3, 1) := by decide +kernel
theorem dJ1_indexOf_4cfef_16 : decode cJ1_indexOf_4cfef 16 = .ok (.aload_n 0, 1) := by decide +kernel
theorem dJ1_indexOf_4cfef_17 : decode cJ1_indexOf_4cfef 17 = .ok (.arraylength, 1) := by decide +kernel
theorem dJ1_indexOf_4cfef_18 : decode cJ1_indexOf_4cfef 18 = .ok (.invokestatic 38, 3) := by decide +kernel
theorem dJ1_indexOf_4cfef_21 : decode cJ1_indexOf_4cfef 21 = .ok (.istore_n 3, 1) := by decide +kernel
theorem dJ1_indexOf_4cfef_22 : decode cJ1_indexOf_4cfef 22 = .ok (.iload_n 2, 1) := by decide +kernel
theorem dJ1_indexOf_4cfef_23 : decode cJ1_indexOf_4cfef 23 = .ok (.iload_n 3, 1) := by decide +kernel
theorem dJ1_indexOf_4cfef_24 : decode cJ1_indexOf_4cfef 24 = .ok (.if_icmp .lt 5, 3) := by decide +kernel
theorem dJ1_indexOf_4cfef_27 : decode cJ1_indexOf_4cfef 27 = .ok (.iconst (-1), 1) := by decide +kernel
theorem dJ1_indexOf_4cfef_28 : decode cJ1_indexOf_4cfef 28 = .ok (.ireturn, 1) := by decide +kernel
theorem dJ1_indexOf_4cfef_29 : decode cJ1_indexOf_4cfef 29 = .ok (.aload_n 0, 1) := by decide +kernel
theorem dJ1_indexOf_4cfef_30 : decode cJ1_indexOf_4cfef 30 = .ok (.iload_n 1, 1) := by decide +kernel
theorem dJ1_indexOf_4cfef_31 : decode cJ1_indexOf_4cfef 31 = .ok (.iload_n 2, 1) := by decide +kernel
theorem dJ1_indexOf_4cfef_32 : decode cJ1_indexOf_4cfef 32 = .ok (.iload_n 3, 1) := by decide +kernel
theorem dJ1_indexOf_4cfef_33 : decode cJ1_indexOf_4cfef 33 = .ok (.invokestatic 95, 3) := by decide +kernel
theorem dJ1_indexOf_4cfef_36 : decode cJ1_indexOf_4cfef 36 = .ok (.ireturn, 1) := by decide +kernel
theorem moJ1_indexOf_4cfef : Ms yJ1_indexOf_4cfef kJ1_indexOf_4cfef 4 := ⟨⟨tb_in 276 (by decide +kernel) rfl, tb_in 94 (by decide +kernel) rfl, ⟨by decide, by decide⟩, by decide +kernel⟩, tb_in 275 (by decide +kernel) rfl⟩
abbrev cJ1_canEncode_9a6ad : ByteArray := prog_12_method_4_code
def yJ1_canEncode_9a6ad : MethodName := ⟨RJ1, "canEncode", "(I)Z"⟩
abbrev kJ1_canEncode_9a6ad : Cfg := (RJ1, cJ1_canEncode_9a6ad, 1, (some .boolean), 0)
theorem dJ1_canEncode_9a6ad_0 : decode cJ1_canEncode_9a6ad 0 = .ok (.iload_n 0, 1) := by decide +kernel
theorem dJ1_canEncode_9a6ad_1 : decode cJ1_canEncode_9a6ad 1 = .ok (.ifCond .lt 14, 3) := by decide +kernel
theorem dJ1_canEncode_9a6ad_4 : decode cJ1_canEncode_9a6ad 4 = .ok (.iload_n 0, 1) := by decide +kernel
theorem dJ1_canEncode_9a6ad_5 : decode cJ1_canEncode_9a6ad 5 = .ok (.sipush 255, 3) := by decide +kernel
theorem dJ1_canEncode_9a6ad_8 : decode cJ1_canEncode_9a6ad 8 = .ok (.if_icmp .gt 7, 3) := by decide +kernel
theorem dJ1_canEncode_9a6ad_11 : decode cJ1_canEncode_9a6ad 11 = .ok (.iconst 1, 1) := by decide +kernel
theorem dJ1_canEncode_9a6ad_12 : decode cJ1_canEncode_9a6ad 12 = .ok (.goto 4, 3) := by decide +kernel
theorem dJ1_canEncode_9a6ad_15 : decode cJ1_canEncode_9a6ad 15 = .ok (.iconst 0, 1) := by decide +kernel
theorem dJ1_canEncode_9a6ad_16 : decode cJ1_canEncode_9a6ad 16 = .ok (.ireturn, 1) := by decide +kernel
theorem moJ1_canEncode_9a6ad : Ms yJ1_canEncode_9a6ad kJ1_canEncode_9a6ad 1 := ⟨⟨tb_in 279 (by decide +kernel) rfl, tb_in 94 (by decide +kernel) rfl, ⟨by decide, by decide⟩, by decide +kernel⟩, tb_in 278 (by decide +kernel) rfl⟩
abbrev cJ1_indexOfChar_4cfef : ByteArray := prog_12_method_23_code
def yJ1_indexOfChar_4cfef : MethodName := ⟨RJ1, "indexOfChar", "([BIII)I"⟩
abbrev kJ1_indexOfChar_4cfef : Cfg := (RJ1, cJ1_indexOfChar_4cfef, 6, (some .int), 0)
theorem dJ1_indexOfChar_4cfef_0 : decode cJ1_indexOfChar_4cfef 0 = .ok (.iload_n 1, 1) := by decide +kernel
theorem dJ1_indexOfChar_4cfef_1 : decode cJ1_indexOfChar_4cfef 1 = .ok (.i2b, 1) := by decide +kernel
theorem dJ1_indexOfChar_4cfef_2 : decode cJ1_indexOfChar_4cfef 2 = .ok (.istore 4, 2) := by decide +kernel
theorem dJ1_indexOfChar_4cfef_4 : decode cJ1_indexOfChar_4cfef 4 = .ok (.iload_n 2, 1) := by decide +kernel
theorem dJ1_indexOfChar_4cfef_5 : decode cJ1_indexOfChar_4cfef 5 = .ok (.istore 5, 2) := by decide +kernel
theorem dJ1_indexOfChar_4cfef_7 : decode cJ1_indexOfChar_4cfef 7 = .ok (.iload 5, 2) := by decide +kernel
theorem dJ1_indexOfChar_4cfef_9 : decode cJ1_indexOfChar_4cfef 9 = .ok (.iload_n 3, 1) := by decide +kernel
theorem dJ1_indexOfChar_4cfef_10 : decode cJ1_indexOfChar_4cfef 10 = .ok (.if_icmp .ge 21, 3) := by decide +kernel
theorem dJ1_indexOfChar_4cfef_13 : decode cJ1_indexOfChar_4cfef 13 = .ok (.aload_n 0, 1) := by decide +kernel
theorem dJ1_indexOfChar_4cfef_14 : decode cJ1_indexOfChar_4cfef 14 = .ok (.iload 5, 2) := by decide +kernel
theorem dJ1_indexOfChar_4cfef_16 : decode cJ1_indexOfChar_4cfef 16 = .ok (.baload, 1) := by decide +kernel
theorem dJ1_indexOfChar_4cfef_17 : decode cJ1_indexOfChar_4cfef 17 = .ok (.iload 4, 2) := by decide +kernel
theorem dJ1_indexOfChar_4cfef_19 : decode cJ1_indexOfChar_4cfef 19 = .ok (.if_icmp .ne 6, 3) := by decide +kernel
theorem dJ1_indexOfChar_4cfef_22 : decode cJ1_indexOfChar_4cfef 22 = .ok (.iload 5, 2) := by decide +kernel
theorem dJ1_indexOfChar_4cfef_24 : decode cJ1_indexOfChar_4cfef 24 = .ok (.ireturn, 1) := by decide +kernel
theorem dJ1_indexOfChar_4cfef_25 : decode cJ1_indexOfChar_4cfef 25 = .ok (.iinc 5 1, 3) := by decide +kernel
theorem dJ1_indexOfChar_4cfef_28 : decode cJ1_indexOfChar_4cfef 28 = .ok (.goto (-21), 3) := by decide +kernel
theorem dJ1_indexOfChar_4cfef_31 : decode cJ1_indexOfChar_4cfef 31 = .ok (.iconst (-1), 1) := by decide +kernel
theorem dJ1_indexOfChar_4cfef_32 : decode cJ1_indexOfChar_4cfef 32 = .ok (.ireturn, 1) := by decide +kernel
theorem moJ1_indexOfChar_4cfef : Ms yJ1_indexOfChar_4cfef kJ1_indexOfChar_4cfef 4 := ⟨⟨tb_in 288 (by decide +kernel) rfl, tb_in 94 (by decide +kernel) rfl, ⟨by decide, by decide⟩, by decide +kernel⟩, tb_in 287 (by decide +kernel) rfl⟩
theorem dX2_kindOf_0 : decode cX2_kindOf 0 = .ok (.iload_n 0, 1) := by decide +kernel
theorem dX2_kindOf_1 : decode cX2_kindOf 1 = .ok (.ifCond .lt 20, 3) := by decide +kernel
theorem dX2_kindOf_4 : decode cX2_kindOf 4 = .ok (.iload_n 0, 1) := by decide +kernel
theorem dX2_kindOf_5 : decode cX2_kindOf 5 = .ok (.sipush 255, 3) := by decide +kernel
theorem dX2_kindOf_8 : decode cX2_kindOf 8 = .ok (.if_icmp .gt 13, 3) := by decide +kernel
theorem dX2_kindOf_11 : decode cX2_kindOf 11 = .ok (.ldc 33, 2) := by decide +kernel
theorem dX2_kindOf_13 : decode cX2_kindOf 13 = .ok (.iload_n 0, 1) := by decide +kernel
theorem dX2_kindOf_14 : decode cX2_kindOf 14 = .ok (.i2c, 1) := by decide +kernel
theorem dX2_kindOf_15 : decode cX2_kindOf 15 = .ok (.invokevirtual 35, 3) := by decide +kernel
theorem dX2_kindOf_18 : decode cX2_kindOf 18 = .ok (.goto 4, 3) := by decide +kernel
theorem dX2_kindOf_21 : decode cX2_kindOf 21 = .ok (.iconst (-1), 1) := by decide +kernel
theorem dX2_kindOf_22 : decode cX2_kindOf 22 = .ok (.ireturn, 1) := by decide +kernel
abbrev kX2_kindOf : Cfg := (RX2, cX2_kindOf, 1, (some .int), 6)
def kix (c : Int32) : Int32 := if c = 115 then 0 else if c = 102 then 1 else if c = 118 then 2 else if c = 106 then 3 else if c = 101 then 4 else if c = 108 then 5 else -1
def fX2_kindOf (n : Nat) (a0 : Int32) (μ : Mem) : Option (Int32 × Mem) := if a0 < 0 then some (-1, μ) else if 255 < a0 then some (-1, μ) else some (kix a0, μ)
abbrev jbt : List (List Int32) := [[115, 102, 118, 106, 101, 108]]
def NF : Nat → Prop := fun _ => False
def JX (A : Nat → Prop) (adK adV : Nat → Nat) (U : State) (H : Heap) : Prop := va_Z "java/lang/String" "COMPACT_STRINGS" "Z" (.int 1) A U H ∧ vk_S 1 [6] jbt adK adV A U H
theorem JX.narrow {A B : Nat → Prop} {adK adV : Nat → Nat} {U : State} {H : Heap} (h : JX A adK adV U H) (hAB : ∀ q, B q → A q) : JX B adK adV U H := ⟨h.1.narrow hAB, h.2.narrow hAB⟩
theorem JX.go {A : Nat → Prop} {adK adV : Nat → Nat} {s U : State} {H : Heap} {locs : List Loc} (h : JX A adK adV s s.heap) (hS : va_S A s.heap H locs) (hU : U.heap = H) (hW : s.WarmedH U.vm) : JX A adK adV U U.heap := by
  rw [hU]
  exact ⟨va_Z.moved hW.alike (h.1.kept hS.2.1), vk_S.moved hW.alike (h.2.kept hS.2.1)⟩
/-- nothing is written; the answer is v -/
def Qn (v : Int32) : Array Value → State → Outcome → State → Prop := fun _ st oc t => oc = .returned (some (.int v)) ∧ va_F NF st t
def Jt (y : MethodName) (C : Cfg) (adK adV : Nat → Nat) (av : List Value) (v : Int32) : Prop := ∀ l : Launch, Met l y (.code y C.2.1 C.2.2.1 C.2.2.2.1 :: TB) (rmd C.2.2.2.2) (va_Pc av (fun U => JX NF adK adV U U.heap)) (Qn v) 0 0 NF
def Jc (C : Cfg) (adK adV : Nat → Nat) (p : Program) (R : Room) (s : State) (m : MethodId) (args : Array Value) (meth : Method) (c : Code) : Prop :=
  p.tables.exec = Jvm.exec ∧ c.code = C.2.1 ∧ c.maxLocals = C.2.2.1 ∧ s.vm.findClass C.1 = some m.cls ∧ (∀ w ∈ TB, w.before args s = true) ∧ JX NF adK adV s s.heap ∧ meth.sig.returnType = C.2.2.2.1 ∧ meth.locks = false ∧ R = rmd C.2.2.2.2
def JG (C : Cfg) (adK adV : Nat → Nat) (v : Int32) (L : List (Nat × Value)) : Prop :=
  ∀ (p : Program) (l : Launch) (e : Env) (R : Room) (s : State) (m : MethodId) (args : Array Value) (below : List Frame) (meth : Method) (c : Code) (H : Heap) (locs : List Loc) (ls : Array Slot), Jc C adK adV p R s m args meth c → va_S NF s.heap H locs → lv_has ls C.2.2.1 L → W p l e R s m args below meth c H locs 0 0 (MQ below (Qn v) args s 0 0 NF) (F0 m 0 ls [])
theorem Jt.of {y : MethodName} {C : Cfg} {adK adV : Nat → Nat} {av : List Value} {v : Int32} (hy : plainFor y = true) (hc : y.cls = C.1) (hn : (lg_sl av).length ≤ C.2.2.1) (h : JG C adK adV v (lv_args 0 av)) : Jt y C adK adV av v := by
  intro l
  refine met_ofWF (cc := C.2.1) (maxL := C.2.2.1) (ret := C.2.2.2.1) hy rfl ?_
  intro p e s m args below meth c s₁ B hml hv
  obtain ⟨rfl, hT⟩ := hv
  have hts := atoms_spec (ws := (Cond.code y C.2.1 C.2.2.1 C.2.2.2.1 :: TB)) B.pre
  have hown : s.vm.findClass C.1 = some m.cls := by rw [← hc]; exact findClass_of_methodNamed B.named
  have hl := lv_entry av (n := C.2.2.1) hn
  rw [lg_entry_eq]
  exact h p l e _ s m _ below meth c s.heap [] _ ⟨B.exec, B.bytes, hml, hown, fun w hw => hts w (List.mem_cons_of_mem _ hw), hT, B.returns, B.notSynchronized, rfl⟩ va_S.rf hl
section JB
variable {p : Program} {l : Launch} {e : Env} {R : Room} {s : State} {m : MethodId} {args : Array Value} {below : List Frame} {meth : Method} {c : Code} {H : Heap} {locs : List Loc} {Q : State → Prop} {pc : Nat} {ls : Array Slot} {adK adV : Nat → Nat} {A : Nat → Prop}
theorem jblind {av : List Value} : FrameBlind (va_Pc av (fun U => JX NF adK adV U U.heap)) := fun a U g mk q => ⟨q.1, q.2⟩
theorem j_back {v : Int32} {a : Array Value} {st1 st2 : List Value} (hS : va_S A s.heap H locs) (hr : va_Run p l e R s m args below meth c H locs 0 0 0 0 (F0 m pc ls st1) st2 (Qn v a) NF)
    (kk : ∀ (H1 : Heap) (locs1 : List Loc), (∀ q, q < H.size → H1[q]? = H[q]?) → va_S A s.heap H1 locs1 → W p l e R s m args below meth c H1 locs1 0 0 Q (F0 m (pc + 3) ls (.int v :: st2))) : W p l e R s m args below meth c H locs 0 0 Q (F0 m pc ls st1) := by
  intro T hT X
  obtain ⟨w, st₀, t, T', L', h0, X', hL, e1, e2, ⟨hv, hz, hk⟩, stp⟩ := hr T hT X
  cases hv
  rw [h0] at hz hk
  have hq : ∀ q, q < H.size → T'.heap[q]? = H[q]? := fun q h => by rw [e1]; exact hk q h (fun z => z)
  obtain ⟨t2, a1, b1⟩ := kk T'.heap (locs ++ L') hq ⟨Nat.le_trans hS.1 (by rw [e1]; exact hz), fun q h1 h2 => (hq q (Nat.lt_of_lt_of_le h1 hS.1)).trans (hS.2.1 q h1 h2), fun q hq' => by
    rcases List.mem_append.mp hq' with h | h
    · exact hS.2.2 q h
    · exact (hL q h).elim⟩ T' rfl X'
  exact ⟨t2, stp t2 a1, b1⟩
theorem j_callV {y : MethodName} {C' : Cfg} {own : String} {cc : ByteArray} {nL i n d : Nat} {v : Int32} {As st st1 : List Value} (hx : p.tables.exec = Jvm.exec) (hb : c.code = cc) (hml : c.maxLocals = nL) (hown : s.vm.findClass own = some m.cls) (hts : ∀ w ∈ TB, w.before args s = true) (hR : R = rmd d) (hE : JX A adK adV s s.heap) (hS : va_S A s.heap H locs) (hls : ls.size = nL) (hM : Mv y C' n) (hcl : y.cls = "java/lang/String") (hL : Cond.methodLink own i y ∈ TB) (hj : Jt y C' adK adV (.ref (adK 0) :: As) v) (hn : As.length = n) (hdep : C'.2.2.2.2 + 1 ≤ d ∧ C'.2.2.1 ≤ 20) (hst : st1 = As.reverse ++ .ref (adK 0) :: st) (hW : (st.map fun v => v.category).sum ≤ 8) (hd : decode cc pc = .ok (.invokevirtual i, 3))
    (kk : ∀ (H1 : Heap) (locs1 : List Loc), (∀ q, q < H.size → H1[q]? = H[q]?) → va_S A s.heap H1 locs1 → W p l e R s m args below meth c H1 locs1 0 0 Q (F0 m (pc + 3) ls (.int v :: st))) : W p l e R s m args below meth c H locs 0 0 Q (F0 m pc ls st1) := by
  obtain ⟨⟨M1, M2, M3, M4⟩, M5, M6⟩ := hM
  have hroom : (rmd C'.2.2.2.2).frames + 1 ≤ R.frames ∧ 8 + (C'.2.2.1 + 11) + (rmd C'.2.2.2.2).locals ≤ R.locals := by rw [hR]; simp only [rmd]; omega
  have hpre : PreV s H y.cls (adK 0) (va_Pc (.ref (adK 0) :: As) (fun U => JX NF adK adV U U.heap)) As := ⟨jblind, by rw [hcl]; exact vk_recv hE.2 (i := 0) (by decide) hS, fun U hU hW => ⟨rfl, (hE.go hS hU hW).narrow (fun _ z => z.elim)⟩⟩
  subst hst
  exact j_back hS (va_runV (p := p) ⟨hx, hb, hml, hown, hts⟩ (hj l) ⟨⟨rfl, rfl, hroom.1, hroom.2, pay_in hts (tb_good M1), List.mem_cons_self, hts _ M1, hts _ M2, M3, mo_len M4, hts _ hL⟩, hts _ M5, hts _ M6⟩ hpre rfl hn hls rfl (lv_room hW) hd ⟨Nat.zero_le _, Nat.zero_le _⟩) kk
theorem j_callS {y : MethodName} {C' : Cfg} {own : String} {cc : ByteArray} {nL i n d : Nat} {v : Int32} {As st st1 : List Value} (hx : p.tables.exec = Jvm.exec) (hb : c.code = cc) (hml : c.maxLocals = nL) (hown : s.vm.findClass own = some m.cls) (hts : ∀ w ∈ TB, w.before args s = true) (hR : R = rmd d) (hE : JX A adK adV s s.heap) (hS : va_S A s.heap H locs) (hls : ls.size = nL) (hM : Ms y C' n) (hL : Cond.methodLink own i y ∈ TB) (hj : Jt y C' adK adV As v) (hn : As.length = n) (hdep : C'.2.2.2.2 + 1 ≤ d ∧ C'.2.2.1 ≤ 20) (hst : st1 = As.reverse ++ st) (hW : (st.map fun v => v.category).sum ≤ 8) (hd : decode cc pc = .ok (.invokestatic i, 3))
    (kk : ∀ (H1 : Heap) (locs1 : List Loc), (∀ q, q < H.size → H1[q]? = H[q]?) → va_S A s.heap H1 locs1 → W p l e R s m args below meth c H1 locs1 0 0 Q (F0 m (pc + 3) ls (.int v :: st))) : W p l e R s m args below meth c H locs 0 0 Q (F0 m pc ls st1) := by
  obtain ⟨⟨M1, M2, M3, M4⟩, M5⟩ := hM
  have hroom : (rmd C'.2.2.2.2).frames + 1 ≤ R.frames ∧ 8 + (C'.2.2.1 + 11) + (rmd C'.2.2.2.2).locals ≤ R.locals := by rw [hR]; simp only [rmd]; omega
  have hpre : PreS s H (va_Pc As (fun U => JX NF adK adV U U.heap)) As := ⟨jblind, fun U hU hW => ⟨rfl, (hE.go hS hU hW).narrow (fun _ z => z.elim)⟩⟩
  subst hst
  exact j_back hS (va_runS (p := p) ⟨hx, hb, hml, hown, hts⟩ (hj l) ⟨⟨rfl, rfl, hroom.1, hroom.2, pay_in hts (tb_good M1), List.mem_cons_self, hts _ M1, hts _ M2, M3, mo_len M4, hts _ hL⟩, hts _ M5⟩ hpre rfl hn hls rfl (lv_room hW) hd ⟨Nat.zero_le _, Nat.zero_le _⟩) kk
end JB
section JM
variable {adK adV : Nat → Nat}
set_option maxHeartbeats 4000000 in
set_option maxRecDepth 100000 in
theorem jt_isLatin1 : Jt yJ0_isLatin1_aae02 kJ0_isLatin1_aae02 adK adV [.ref (adK 0)] 1 := Jt.of (by decide +kernel) rfl (Nat.le_of_ble_eq_true rfl) (by
  show JG _ _ _ _ [(0, .ref (adK 0))]
  intro p l e R s m args below meth c H locs ls hc hS hl
  obtain ⟨hx, hb, hml, hown, hts, hE, hr, hlk, hR⟩ := hc
  refine va_gets hx hb hE.1 hS hown (hts _ (tb_in 264 (by decide +kernel) rfl)) (fun _ h => h) dJ0_isLatin1_aae02_0 ?_
  refine lv_if_eq (tgt := 17) hx hb dJ0_isLatin1_aae02_3 (by decide) (fun q => absurd q (by decide)) (fun _ => ?_)
  refine lv_aload_n hx hb dJ0_isLatin1_aae02_6 rfl (lv_at hl 0 rfl) ?_
  refine vk_getf hx hb (hE.2.1 0 (by decide)).2.1 hS hown (hts _ (tb_in 1026 (by decide +kernel) rfl)) (fun _ h => h) dJ0_isLatin1_aae02_7 ?_
  refine lv_if_ne (tgt := 17) hx hb dJ0_isLatin1_aae02_10 (by decide) (fun q => absurd rfl q) (fun _ => ?_)
  refine lv_iconst (v := 1) hx hb dJ0_isLatin1_aae02_13 (by decide) ?_
  refine lv_goto (tgt := 18) hx hb dJ0_isLatin1_aae02_14 (by decide) ?_
  exact W.zret (ty := .boolean) hx hb hr rfl (fun t ht hW => ⟨rfl, hS.F ht⟩) hS.2.2 dJ0_isLatin1_aae02_18 hlk)
set_option maxHeartbeats 4000000 in
set_option maxRecDepth 100000 in
theorem jt_coder : Jt yJ0_coder_7d493 kJ0_coder_7d493 adK adV [.ref (adK 0)] 0 := Jt.of (by decide +kernel) rfl (Nat.le_of_ble_eq_true rfl) (by
  show JG _ _ _ _ [(0, .ref (adK 0))]
  intro p l e R s m args below meth c H locs ls hc hS hl
  obtain ⟨hx, hb, hml, hown, hts, hE, hr, hlk, hR⟩ := hc
  refine va_gets hx hb hE.1 hS hown (hts _ (tb_in 264 (by decide +kernel) rfl)) (fun _ h => h) dJ0_coder_7d493_0 ?_
  refine lv_if_eq (tgt := 13) hx hb dJ0_coder_7d493_3 (by decide) (fun q => absurd q (by decide)) (fun _ => ?_)
  refine lv_aload_n hx hb dJ0_coder_7d493_6 rfl (lv_at hl 0 rfl) ?_
  refine vk_getf hx hb (hE.2.1 0 (by decide)).2.1 hS hown (hts _ (tb_in 1026 (by decide +kernel) rfl)) (fun _ h => h) dJ0_coder_7d493_7 ?_
  refine lv_goto (tgt := 14) hx hb dJ0_coder_7d493_10 (by decide) ?_
  exact W.zret (ty := .byte) hx hb hr rfl (fun t ht hW => ⟨rfl, hS.F ht⟩) hS.2.2 dJ0_coder_7d493_14 hlk)
set_option maxHeartbeats 4000000 in
set_option maxRecDepth 100000 in
theorem jt_length : Jt yJ0_length_8abf5 kJ0_length_8abf5 adK adV [.ref (adK 0)] 6 := Jt.of (by decide +kernel) rfl (Nat.le_of_ble_eq_true rfl) (by
  show JG _ _ _ _ [(0, .ref (adK 0))]
  intro p l e R s m args below meth c H locs ls hc hS hl
  obtain ⟨hx, hb, hml, hown, hts, hE, hr, hlk, hR⟩ := hc
  refine lv_aload_n hx hb dJ0_length_8abf5_0 rfl (lv_at hl 0 rfl) ?_
  refine vk_getf hx hb (hE.2.1 0 (by decide)).2.2.1 hS hown (hts _ (tb_in 1027 (by decide +kernel) rfl)) (fun _ h => h) dJ0_length_8abf5_1 ?_
  refine va_tlen (v := 6) hx hb (hE.2.1 0 (by decide)).2.2.2 hS rfl dJ0_length_8abf5_4 ?_
  refine lv_aload_n hx hb dJ0_length_8abf5_5 rfl (lv_at hl 0 rfl) ?_
  refine j_callV (As := []) hx hb hml hown hts hR hE hS hl.1 moJ0_coder_7d493 rfl (tb_in 270 (by decide +kernel) rfl) jt_coder rfl (by decide) rfl (by decide) dJ0_length_8abf5_6 (fun H locs _ hS => ?_)
  refine lv_ishr hx hb dJ0_length_8abf5_9 ?_
  exact W.iret hx hb hr (fun t ht hW => ⟨rfl, hS.F ht⟩) hS.2.2 dJ0_length_8abf5_10 hlk)
set_option maxHeartbeats 4000000 in
set_option maxRecDepth 100000 in
theorem jt_canEncode {z : Nat} (h : z < 256) : Jt yJ1_canEncode_9a6ad kJ1_canEncode_9a6ad adK adV [.int (nI z)] 1 := Jt.of (by decide +kernel) rfl (Nat.le_of_ble_eq_true rfl) (by
  show JG _ _ _ _ [(0, .int (nI z))]
  intro p l e R s m args below meth c H locs ls hc hS hl
  obtain ⟨hx, hb, hml, hown, hts, hE, hr, hlk, hR⟩ := hc
  refine lv_iload_n hx hb dJ1_canEncode_9a6ad_0 rfl (lv_at hl 0 rfl) ?_
  refine lv_if_lt (tgt := 15) hx hb dJ1_canEncode_9a6ad_1 (by decide) (fun q => absurd q (nI_nlt (b := 0) (Nat.zero_le _) (by omega))) (fun _ => ?_)
  refine lv_iload_n hx hb dJ1_canEncode_9a6ad_4 rfl (lv_at hl 0 rfl) ?_
  refine lv_sipush (v := 255) hx hb dJ1_canEncode_9a6ad_5 (by decide) ?_
  refine lv_icmp_gt (tgt := 15) hx hb dJ1_canEncode_9a6ad_8 (by decide) (fun q => absurd q (nI_nlt (a := 255) (b := z) (by omega) (by omega))) (fun _ => ?_)
  refine lv_iconst (v := 1) hx hb dJ1_canEncode_9a6ad_11 (by decide) ?_
  refine lv_goto (tgt := 16) hx hb dJ1_canEncode_9a6ad_12 (by decide) ?_
  exact W.zret (ty := .boolean) hx hb hr rfl (fun t ht hW => ⟨rfl, hS.F ht⟩) hS.2.2 dJ1_canEncode_9a6ad_16 hlk)
/-- the place of a letter in a list -/
def sk : List Int32 → Nat → Int32 → Int32
  | [], _, _ => -1
  | b :: l, k, x => if b = x then nI k else sk l (k + 1) x
theorem sk_kix : ∀ z, z < 256 → sk [115, 102, 118, 106, 101, 108] 0 ((nI z).toInt8.toInt32) = kix (nI z) := by decide +kernel
theorem i2c_id : ∀ z, z < 256 → ((nI z).toUInt32 % 65536).toInt32 = nI z := by decide +kernel
set_option maxHeartbeats 4000000 in
set_option maxRecDepth 100000 in
theorem jt_ixc {z : Nat} : Jt yJ1_indexOfChar_4cfef kJ1_indexOfChar_4cfef adK adV [.ref (adV 0), .int (nI z), .int 0, .int 6] (sk [115, 102, 118, 106, 101, 108] 0 ((nI z).toInt8.toInt32)) := Jt.of (by decide +kernel) rfl (Nat.le_of_ble_eq_true rfl) (by
  show JG _ _ _ _ [(0, .ref (adV 0)), (1, .int (nI z)), (2, .int 0), (3, .int 6)]
  intro p l e R s m args below meth c H locs ls hc hS hl
  obtain ⟨hx, hb, hml, hown, hts, hE, hr, hlk, hR⟩ := hc
  have hT := (hE.2.1 0 (by decide)).2.2.2
  generalize ex : (nI z).toInt8.toInt32 = x at hS ⊢
  refine lv_iload_n hx hb dJ1_indexOfChar_4cfef_0 rfl (lv_at hl 1 rfl) ?_
  refine lv_i2b hx hb dJ1_indexOfChar_4cfef_1 ex ?_
  refine lv_istore (lv' := [(4, .int x), (0, .ref (adV 0)), (1, .int (nI z)), (2, .int 0), (3, .int 6)]) hx hb dJ1_indexOfChar_4cfef_2 hl (by decide) rfl (fun ls hl => ?_)
  refine lv_iload_n hx hb dJ1_indexOfChar_4cfef_4 rfl (lv_at hl 3 rfl) ?_
  refine lv_istore (lv' := [(5, .int 0), (4, .int x), (0, .ref (adV 0)), (1, .int (nI z)), (2, .int 0), (3, .int 6)]) hx hb dJ1_indexOfChar_4cfef_5 hl (by decide) rfl (fun ls hl => ?_)
  refine lv_iload hx hb dJ1_indexOfChar_4cfef_7 (lv_at hl 0 rfl) ?_
  refine lv_iload_n hx hb dJ1_indexOfChar_4cfef_9 rfl (lv_at hl 5 rfl) ?_
  refine lv_icmp_ge (tgt := 31) hx hb dJ1_indexOfChar_4cfef_10 (by decide) (fun q => absurd q (by decide)) (fun _ => ?_)
  refine lv_aload_n hx hb dJ1_indexOfChar_4cfef_13 rfl (lv_at hl 2 rfl) ?_
  refine lv_iload hx hb dJ1_indexOfChar_4cfef_14 (lv_at hl 0 rfl) ?_
  refine va_tb (v := .int 115) hx hb hT hS (show vp_in (nI 0) 6 from vp_in_nI (by decide) (by decide)) rfl dJ1_indexOfChar_4cfef_16 ?_
  refine lv_iload hx hb dJ1_indexOfChar_4cfef_17 (lv_at hl 1 rfl) ?_
  refine lv_icmp_ne (tgt := 25) hx hb dJ1_indexOfChar_4cfef_19 (by decide) (fun h0 => ?_) (fun h0 => ?_)
  rotate_left
  · skip
    refine lv_iload hx hb dJ1_indexOfChar_4cfef_22 (lv_at hl 0 rfl) ?_
    rw [show sk [115, 102, 118, 106, 101, 108] 0 x = nI 0 by rw [sk, if_pos h0]]
    exact W.iret hx hb hr (fun t ht hW => ⟨rfl, hS.F ht⟩) hS.2.2 dJ1_indexOfChar_4cfef_24 hlk
  refine lv_iinc (v := 1) (lv' := [(5, .int 1), (4, .int x), (0, .ref (adV 0)), (1, .int (nI z)), (2, .int 0), (3, .int 6)]) hx hb dJ1_indexOfChar_4cfef_25 hl (k := 0) rfl (by decide) (by decide) rfl (fun ls hl => ?_)
  refine lv_goto (tgt := 7) hx hb dJ1_indexOfChar_4cfef_28 (by decide) ?_
  refine lv_iload hx hb dJ1_indexOfChar_4cfef_7 (lv_at hl 0 rfl) ?_
  refine lv_iload_n hx hb dJ1_indexOfChar_4cfef_9 rfl (lv_at hl 5 rfl) ?_
  refine lv_icmp_ge (tgt := 31) hx hb dJ1_indexOfChar_4cfef_10 (by decide) (fun q => absurd q (by decide)) (fun _ => ?_)
  refine lv_aload_n hx hb dJ1_indexOfChar_4cfef_13 rfl (lv_at hl 2 rfl) ?_
  refine lv_iload hx hb dJ1_indexOfChar_4cfef_14 (lv_at hl 0 rfl) ?_
  refine va_tb (v := .int 102) hx hb hT hS (show vp_in (nI 1) 6 from vp_in_nI (by decide) (by decide)) rfl dJ1_indexOfChar_4cfef_16 ?_
  refine lv_iload hx hb dJ1_indexOfChar_4cfef_17 (lv_at hl 1 rfl) ?_
  refine lv_icmp_ne (tgt := 25) hx hb dJ1_indexOfChar_4cfef_19 (by decide) (fun h1 => ?_) (fun h1 => ?_)
  rotate_left
  · skip
    refine lv_iload hx hb dJ1_indexOfChar_4cfef_22 (lv_at hl 0 rfl) ?_
    rw [show sk [115, 102, 118, 106, 101, 108] 0 x = nI 1 by rw [sk, if_neg h0, sk, if_pos h1]]
    exact W.iret hx hb hr (fun t ht hW => ⟨rfl, hS.F ht⟩) hS.2.2 dJ1_indexOfChar_4cfef_24 hlk
  refine lv_iinc (v := 2) (lv' := [(5, .int 2), (4, .int x), (0, .ref (adV 0)), (1, .int (nI z)), (2, .int 0), (3, .int 6)]) hx hb dJ1_indexOfChar_4cfef_25 hl (k := 0) rfl (by decide) (by decide) rfl (fun ls hl => ?_)
  refine lv_goto (tgt := 7) hx hb dJ1_indexOfChar_4cfef_28 (by decide) ?_
  refine lv_iload hx hb dJ1_indexOfChar_4cfef_7 (lv_at hl 0 rfl) ?_
  refine lv_iload_n hx hb dJ1_indexOfChar_4cfef_9 rfl (lv_at hl 5 rfl) ?_
  refine lv_icmp_ge (tgt := 31) hx hb dJ1_indexOfChar_4cfef_10 (by decide) (fun q => absurd q (by decide)) (fun _ => ?_)
  refine lv_aload_n hx hb dJ1_indexOfChar_4cfef_13 rfl (lv_at hl 2 rfl) ?_
  refine lv_iload hx hb dJ1_indexOfChar_4cfef_14 (lv_at hl 0 rfl) ?_
  refine va_tb (v := .int 118) hx hb hT hS (show vp_in (nI 2) 6 from vp_in_nI (by decide) (by decide)) rfl dJ1_indexOfChar_4cfef_16 ?_
  refine lv_iload hx hb dJ1_indexOfChar_4cfef_17 (lv_at hl 1 rfl) ?_
  refine lv_icmp_ne (tgt := 25) hx hb dJ1_indexOfChar_4cfef_19 (by decide) (fun h2 => ?_) (fun h2 => ?_)
  rotate_left
  · skip
    refine lv_iload hx hb dJ1_indexOfChar_4cfef_22 (lv_at hl 0 rfl) ?_
    rw [show sk [115, 102, 118, 106, 101, 108] 0 x = nI 2 by rw [sk, if_neg h0, sk, if_neg h1, sk, if_pos h2]]
    exact W.iret hx hb hr (fun t ht hW => ⟨rfl, hS.F ht⟩) hS.2.2 dJ1_indexOfChar_4cfef_24 hlk
  refine lv_iinc (v := 3) (lv' := [(5, .int 3), (4, .int x), (0, .ref (adV 0)), (1, .int (nI z)), (2, .int 0), (3, .int 6)]) hx hb dJ1_indexOfChar_4cfef_25 hl (k := 0) rfl (by decide) (by decide) rfl (fun ls hl => ?_)
  refine lv_goto (tgt := 7) hx hb dJ1_indexOfChar_4cfef_28 (by decide) ?_
  refine lv_iload hx hb dJ1_indexOfChar_4cfef_7 (lv_at hl 0 rfl) ?_
  refine lv_iload_n hx hb dJ1_indexOfChar_4cfef_9 rfl (lv_at hl 5 rfl) ?_
  refine lv_icmp_ge (tgt := 31) hx hb dJ1_indexOfChar_4cfef_10 (by decide) (fun q => absurd q (by decide)) (fun _ => ?_)
  refine lv_aload_n hx hb dJ1_indexOfChar_4cfef_13 rfl (lv_at hl 2 rfl) ?_
  refine lv_iload hx hb dJ1_indexOfChar_4cfef_14 (lv_at hl 0 rfl) ?_
  refine va_tb (v := .int 106) hx hb hT hS (show vp_in (nI 3) 6 from vp_in_nI (by decide) (by decide)) rfl dJ1_indexOfChar_4cfef_16 ?_
  refine lv_iload hx hb dJ1_indexOfChar_4cfef_17 (lv_at hl 1 rfl) ?_
  refine lv_icmp_ne (tgt := 25) hx hb dJ1_indexOfChar_4cfef_19 (by decide) (fun h3 => ?_) (fun h3 => ?_)
  rotate_left
  · skip
    refine lv_iload hx hb dJ1_indexOfChar_4cfef_22 (lv_at hl 0 rfl) ?_
    rw [show sk [115, 102, 118, 106, 101, 108] 0 x = nI 3 by rw [sk, if_neg h0, sk, if_neg h1, sk, if_neg h2, sk, if_pos h3]]
    exact W.iret hx hb hr (fun t ht hW => ⟨rfl, hS.F ht⟩) hS.2.2 dJ1_indexOfChar_4cfef_24 hlk
  refine lv_iinc (v := 4) (lv' := [(5, .int 4), (4, .int x), (0, .ref (adV 0)), (1, .int (nI z)), (2, .int 0), (3, .int 6)]) hx hb dJ1_indexOfChar_4cfef_25 hl (k := 0) rfl (by decide) (by decide) rfl (fun ls hl => ?_)
  refine lv_goto (tgt := 7) hx hb dJ1_indexOfChar_4cfef_28 (by decide) ?_
  refine lv_iload hx hb dJ1_indexOfChar_4cfef_7 (lv_at hl 0 rfl) ?_
  refine lv_iload_n hx hb dJ1_indexOfChar_4cfef_9 rfl (lv_at hl 5 rfl) ?_
  refine lv_icmp_ge (tgt := 31) hx hb dJ1_indexOfChar_4cfef_10 (by decide) (fun q => absurd q (by decide)) (fun _ => ?_)
  refine lv_aload_n hx hb dJ1_indexOfChar_4cfef_13 rfl (lv_at hl 2 rfl) ?_
  refine lv_iload hx hb dJ1_indexOfChar_4cfef_14 (lv_at hl 0 rfl) ?_
  refine va_tb (v := .int 101) hx hb hT hS (show vp_in (nI 4) 6 from vp_in_nI (by decide) (by decide)) rfl dJ1_indexOfChar_4cfef_16 ?_
  refine lv_iload hx hb dJ1_indexOfChar_4cfef_17 (lv_at hl 1 rfl) ?_
  refine lv_icmp_ne (tgt := 25) hx hb dJ1_indexOfChar_4cfef_19 (by decide) (fun h4 => ?_) (fun h4 => ?_)
  rotate_left
  · skip
    refine lv_iload hx hb dJ1_indexOfChar_4cfef_22 (lv_at hl 0 rfl) ?_
    rw [show sk [115, 102, 118, 106, 101, 108] 0 x = nI 4 by rw [sk, if_neg h0, sk, if_neg h1, sk, if_neg h2, sk, if_neg h3, sk, if_pos h4]]
    exact W.iret hx hb hr (fun t ht hW => ⟨rfl, hS.F ht⟩) hS.2.2 dJ1_indexOfChar_4cfef_24 hlk
  refine lv_iinc (v := 5) (lv' := [(5, .int 5), (4, .int x), (0, .ref (adV 0)), (1, .int (nI z)), (2, .int 0), (3, .int 6)]) hx hb dJ1_indexOfChar_4cfef_25 hl (k := 0) rfl (by decide) (by decide) rfl (fun ls hl => ?_)
  refine lv_goto (tgt := 7) hx hb dJ1_indexOfChar_4cfef_28 (by decide) ?_
  refine lv_iload hx hb dJ1_indexOfChar_4cfef_7 (lv_at hl 0 rfl) ?_
  refine lv_iload_n hx hb dJ1_indexOfChar_4cfef_9 rfl (lv_at hl 5 rfl) ?_
  refine lv_icmp_ge (tgt := 31) hx hb dJ1_indexOfChar_4cfef_10 (by decide) (fun q => absurd q (by decide)) (fun _ => ?_)
  refine lv_aload_n hx hb dJ1_indexOfChar_4cfef_13 rfl (lv_at hl 2 rfl) ?_
  refine lv_iload hx hb dJ1_indexOfChar_4cfef_14 (lv_at hl 0 rfl) ?_
  refine va_tb (v := .int 108) hx hb hT hS (show vp_in (nI 5) 6 from vp_in_nI (by decide) (by decide)) rfl dJ1_indexOfChar_4cfef_16 ?_
  refine lv_iload hx hb dJ1_indexOfChar_4cfef_17 (lv_at hl 1 rfl) ?_
  refine lv_icmp_ne (tgt := 25) hx hb dJ1_indexOfChar_4cfef_19 (by decide) (fun h5 => ?_) (fun h5 => ?_)
  rotate_left
  · skip
    refine lv_iload hx hb dJ1_indexOfChar_4cfef_22 (lv_at hl 0 rfl) ?_
    rw [show sk [115, 102, 118, 106, 101, 108] 0 x = nI 5 by rw [sk, if_neg h0, sk, if_neg h1, sk, if_neg h2, sk, if_neg h3, sk, if_neg h4, sk, if_pos h5]]
    exact W.iret hx hb hr (fun t ht hW => ⟨rfl, hS.F ht⟩) hS.2.2 dJ1_indexOfChar_4cfef_24 hlk
  refine lv_iinc (v := 6) (lv' := [(5, .int 6), (4, .int x), (0, .ref (adV 0)), (1, .int (nI z)), (2, .int 0), (3, .int 6)]) hx hb dJ1_indexOfChar_4cfef_25 hl (k := 0) rfl (by decide) (by decide) rfl (fun ls hl => ?_)
  refine lv_goto (tgt := 7) hx hb dJ1_indexOfChar_4cfef_28 (by decide) ?_
  refine lv_iload hx hb dJ1_indexOfChar_4cfef_7 (lv_at hl 0 rfl) ?_
  refine lv_iload_n hx hb dJ1_indexOfChar_4cfef_9 rfl (lv_at hl 5 rfl) ?_
  refine lv_icmp_ge (tgt := 31) hx hb dJ1_indexOfChar_4cfef_10 (by decide) (fun _ => ?_) (fun q => absurd q (by decide))
  refine lv_iconst (v := -1) hx hb dJ1_indexOfChar_4cfef_31 (by decide) ?_
  rw [show sk [115, 102, 118, 106, 101, 108] 0 x = -1 by rw [sk, if_neg h0, sk, if_neg h1, sk, if_neg h2, sk, if_neg h3, sk, if_neg h4, sk, if_neg h5, sk]]
  exact W.iret hx hb hr (fun t ht hW => ⟨rfl, hS.F ht⟩) hS.2.2 dJ1_indexOfChar_4cfef_32 hlk)
set_option maxHeartbeats 4000000 in
set_option maxRecDepth 100000 in
theorem jt_ixl {z : Nat} (h : z < 256) : Jt yJ1_indexOf_4cfef kJ1_indexOf_4cfef adK adV [.ref (adV 0), .int (nI z), .int 0, .int 6] (kix (nI z)) := Jt.of (by decide +kernel) rfl (Nat.le_of_ble_eq_true rfl) (by
  show JG _ _ _ _ [(0, .ref (adV 0)), (1, .int (nI z)), (2, .int 0), (3, .int 6)]
  intro p l e R s m args below meth c H locs ls hc hS hl
  obtain ⟨hx, hb, hml, hown, hts, hE, hr, hlk, hR⟩ := hc
  have hT := (hE.2.1 0 (by decide)).2.2.2
  have hfr : 1 ≤ R.frames ∧ 39 ≤ R.locals := by rw [hR]; decide
  refine lv_iload_n hx hb dJ1_indexOf_4cfef_0 rfl (lv_at hl 1 rfl) ?_
  refine j_callS (As := [.int (nI z)]) hx hb hml hown hts hR hE hS hl.1 moJ1_canEncode_9a6ad (tb_in 277 (by decide +kernel) rfl) (jt_canEncode h) rfl (by decide) rfl (by decide) dJ1_indexOf_4cfef_1 (fun H locs _ hS => ?_)
  refine lv_if_ne (tgt := 9) hx hb dJ1_indexOf_4cfef_4 (by decide) (fun _ => ?_) (fun q => absurd q (by decide))
  refine lv_iload_n hx hb dJ1_indexOf_4cfef_9 rfl (lv_at hl 2 rfl) ?_
  refine lv_iconst (v := 0) hx hb dJ1_indexOf_4cfef_10 (by decide) ?_
  refine va_mmax hx hb (hml.trans hl.1.symm) hown (hts _ (tb_in 280 (by decide +kernel) rfl)) (hts _ (tb_in 281 (by decide +kernel) rfl)) (hts _ (tb_in 95 (by decide +kernel) rfl)) (hts _ (tb_in 282 (by decide +kernel) rfl)) hfr.1 (by have := hfr.2; simp only [List.map_nil, List.sum_nil]; omega) (Nat.zero_le _) (Nat.zero_le _) dJ1_indexOf_4cfef_11 ?_
  rw [if_neg (show ¬ (0 : Int32) < 0 by decide)]
  refine lv_istore_n (lv' := [(2, .int 0), (0, .ref (adV 0)), (1, .int (nI z)), (3, .int 6)]) hx hb dJ1_indexOf_4cfef_14 rfl hl (by decide) rfl (fun ls hl => ?_)
  refine lv_iload_n hx hb dJ1_indexOf_4cfef_15 rfl (lv_at hl 3 rfl) ?_
  refine lv_aload_n hx hb dJ1_indexOf_4cfef_16 rfl (lv_at hl 1 rfl) ?_
  refine va_tlen (v := 6) hx hb hT hS rfl dJ1_indexOf_4cfef_17 ?_
  refine va_mmin hx hb (hml.trans hl.1.symm) hown (hts _ (tb_in 283 (by decide +kernel) rfl)) (hts _ (tb_in 284 (by decide +kernel) rfl)) (hts _ (tb_in 95 (by decide +kernel) rfl)) (hts _ (tb_in 285 (by decide +kernel) rfl)) hfr.1 (by have := hfr.2; simp only [List.map_nil, List.sum_nil]; omega) (Nat.zero_le _) (Nat.zero_le _) dJ1_indexOf_4cfef_18 ?_
  rw [if_neg (show ¬ (6 : Int32) < 6 by decide)]
  refine lv_istore_n (lv' := [(3, .int 6), (2, .int 0), (0, .ref (adV 0)), (1, .int (nI z))]) hx hb dJ1_indexOf_4cfef_21 rfl hl (by decide) rfl (fun ls hl => ?_)
  refine lv_iload_n hx hb dJ1_indexOf_4cfef_22 rfl (lv_at hl 1 rfl) ?_
  refine lv_iload_n hx hb dJ1_indexOf_4cfef_23 rfl (lv_at hl 0 rfl) ?_
  refine lv_icmp_lt (tgt := 29) hx hb dJ1_indexOf_4cfef_24 (by decide) (fun _ => ?_) (fun q => absurd (show (0 : Int32) < 6 by decide) q)
  refine lv_aload_n hx hb dJ1_indexOf_4cfef_29 rfl (lv_at hl 2 rfl) ?_
  refine lv_iload_n hx hb dJ1_indexOf_4cfef_30 rfl (lv_at hl 3 rfl) ?_
  refine lv_iload_n hx hb dJ1_indexOf_4cfef_31 rfl (lv_at hl 1 rfl) ?_
  refine lv_iload_n hx hb dJ1_indexOf_4cfef_32 rfl (lv_at hl 0 rfl) ?_
  refine j_callS (As := [.ref (adV 0), .int (nI z), .int 0, .int 6]) hx hb hml hown hts hR hE hS hl.1 moJ1_indexOfChar_4cfef (tb_in 286 (by decide +kernel) rfl) (jt_ixc (z := z)) rfl (by decide) rfl (by decide) dJ1_indexOf_4cfef_33 (fun H locs _ hS => ?_)
  rw [sk_kix z h]
  exact W.iret hx hb hr (fun t ht hW => ⟨rfl, hS.F ht⟩) hS.2.2 dJ1_indexOf_4cfef_36 hlk)
set_option maxHeartbeats 4000000 in
set_option maxRecDepth 100000 in
theorem jt_ix2 {z : Nat} (h : z < 256) : Jt yJ0_indexOf_7cf53 kJ0_indexOf_7cf53 adK adV [.ref (adK 0), .int (nI z), .int 0] (kix (nI z)) := Jt.of (by decide +kernel) rfl (Nat.le_of_ble_eq_true rfl) (by
  show JG _ _ _ _ [(0, .ref (adK 0)), (1, .int (nI z)), (2, .int 0)]
  intro p l e R s m args below meth c H locs ls hc hS hl
  obtain ⟨hx, hb, hml, hown, hts, hE, hr, hlk, hR⟩ := hc
  refine lv_aload_n hx hb dJ0_indexOf_7cf53_0 rfl (lv_at hl 0 rfl) ?_
  refine j_callV (As := []) hx hb hml hown hts hR hE hS hl.1 moJ0_isLatin1_aae02 rfl (tb_in 260 (by decide +kernel) rfl) jt_isLatin1 rfl (by decide) rfl (by decide) dJ0_indexOf_7cf53_1 (fun H locs _ hS => ?_)
  refine lv_if_eq (tgt := 23) hx hb dJ0_indexOf_7cf53_4 (by decide) (fun q => absurd q (by decide)) (fun _ => ?_)
  refine lv_aload_n hx hb dJ0_indexOf_7cf53_7 rfl (lv_at hl 0 rfl) ?_
  refine vk_getf hx hb (hE.2.1 0 (by decide)).2.2.1 hS hown (hts _ (tb_in 1027 (by decide +kernel) rfl)) (fun _ h => h) dJ0_indexOf_7cf53_8 ?_
  refine lv_iload_n hx hb dJ0_indexOf_7cf53_11 rfl (lv_at hl 1 rfl) ?_
  refine lv_iload_n hx hb dJ0_indexOf_7cf53_12 rfl (lv_at hl 2 rfl) ?_
  refine lv_aload_n hx hb dJ0_indexOf_7cf53_13 rfl (lv_at hl 0 rfl) ?_
  refine j_callV (As := []) hx hb hml hown hts hR hE hS hl.1 moJ0_length_8abf5 rfl (tb_in 266 (by decide +kernel) rfl) jt_length rfl (by decide) rfl (Nat.le_of_ble_eq_true rfl) dJ0_indexOf_7cf53_14 (fun H locs _ hS => ?_)
  refine j_callS (As := [.ref (adV 0), .int (nI z), .int 0, .int 6]) hx hb hml hown hts hR hE hS hl.1 moJ1_indexOf_4cfef (tb_in 274 (by decide +kernel) rfl) (jt_ixl h) rfl (by decide) rfl (by decide) dJ0_indexOf_7cf53_17 (fun H locs _ hS => ?_)
  refine lv_goto (tgt := 36) hx hb dJ0_indexOf_7cf53_20 (by decide) ?_
  exact W.iret hx hb hr (fun t ht hW => ⟨rfl, hS.F ht⟩) hS.2.2 dJ0_indexOf_7cf53_36 hlk)
set_option maxHeartbeats 4000000 in
set_option maxRecDepth 100000 in
theorem jt_ix1 {z : Nat} (h : z < 256) : Jt yJ0_indexOf_0f7a4 kJ0_indexOf_0f7a4 adK adV [.ref (adK 0), .int (nI z)] (kix (nI z)) := Jt.of (by decide +kernel) rfl (Nat.le_of_ble_eq_true rfl) (by
  show JG _ _ _ _ [(0, .ref (adK 0)), (1, .int (nI z))]
  intro p l e R s m args below meth c H locs ls hc hS hl
  obtain ⟨hx, hb, hml, hown, hts, hE, hr, hlk, hR⟩ := hc
  refine lv_aload_n hx hb dJ0_indexOf_0f7a4_0 rfl (lv_at hl 0 rfl) ?_
  refine lv_iload_n hx hb dJ0_indexOf_0f7a4_1 rfl (lv_at hl 1 rfl) ?_
  refine lv_iconst (v := 0) hx hb dJ0_indexOf_0f7a4_2 (by decide) ?_
  refine j_callV (As := [.int (nI z), .int 0]) hx hb hml hown hts hR hE hS hl.1 moJ0_indexOf_7cf53 rfl (tb_in 256 (by decide +kernel) rfl) (jt_ix2 h) rfl (by decide) rfl (by decide) dJ0_indexOf_0f7a4_3 (fun H locs _ hS => ?_)
  exact W.iret hx hb hr (fun t ht hW => ⟨rfl, hS.F ht⟩) hS.2.2 dJ0_indexOf_0f7a4_6 hlk)
end JM
set_option maxHeartbeats 4000000 in
set_option maxRecDepth 100000 in
theorem ctX2_kindOf (ad : Nat → Nat) (n : Nat) (a0 : Int32) (μ : Mem) : Ct yX2_kindOf kX2_kindOf ad encI [.int a0] μ (fX2_kindOf n a0 μ) := Ct.of (by decide +kernel) rfl (Nat.le_of_ble_eq_true rfl) (by
  show G kX2_kindOf ad encI 0 [(0, .int a0)] [] μ (fX2_kindOf n a0 μ)
  intro p l e R s m args below meth c H locs D tc ls r ν hc hP hD hS hl hX
  have hx := hc.1
  have hb := hc.2.1
  have hml := hc.2.2.1
  have hown := hc.2.2.2.1
  have hts := hc.2.2.2.2.1
  have hr := hc.2.2.2.2.2.2.1
  have hlk := hc.2.2.2.2.2.2.2.1
  obtain ⟨hR, hZ, adK, adV, hV, hK⟩ := hc.2.2.2.2.2.2.2.2
  have hE : JX (A62 ad) adK adV s s.heap := ⟨hZ, hV⟩
  unfold fX2_kindOf at hX
  refine lv_iload_n hx hb dX2_kindOf_0 rfl (lv_at hl 0 rfl) ?_
  refine lv_if_lt (tgt := 21) hx hb dX2_kindOf_1 (by decide) (fun h0 => ?_) (fun h0 => ?_)
  · rw [if_pos h0] at hX
    cases hX
    refine lv_iconst (v := -1) hx hb dX2_kindOf_21 (by decide) ?_
    exact W.iret hx hb hr (fun t ht hW => ⟨rfl, by rw [ht]; exact hP, hS.F ht⟩) hS.2.2 dX2_kindOf_22 hlk
  · rw [if_neg h0] at hX
    refine lv_iload_n hx hb dX2_kindOf_4 rfl (lv_at hl 0 rfl) ?_
    refine lv_sipush (v := 255) hx hb dX2_kindOf_5 (by decide) ?_
    refine lv_icmp_gt (tgt := 21) hx hb dX2_kindOf_8 (by decide) (fun h1 => ?_) (fun h1 => ?_)
    · rw [if_pos h1] at hX
      cases hX
      refine lv_iconst (v := -1) hx hb dX2_kindOf_21 (by decide) ?_
      exact W.iret hx hb hr (fun t ht hW => ⟨rfl, by rw [ht]; exact hP, hS.F ht⟩) hS.2.2 dX2_kindOf_22 hlk
    · rw [if_neg h1] at hX
      cases hX
      obtain ⟨j, hj, rfl⟩ := nI_of h0
      have h256 : j < 256 := by
        rcases Nat.lt_or_ge j 256 with q | q
        · exact q
        · exact absurd (nI_lt (a := 255) (b := j) (by omega) hj) h1
      refine va_ldcS hx hb hown hK dX2_kindOf_11 ?_
      refine lv_iload_n hx hb dX2_kindOf_13 rfl (lv_at hl 0 rfl) ?_
      refine lv_i2c hx hb dX2_kindOf_14 (i2c_id j h256) ?_
      refine j_callV (As := [.int (nI j)]) hx hb hml hown hts hR hE hS hl.1 moJ0_indexOf_0f7a4 rfl (tb_in 252 (by decide +kernel) rfl) (jt_ix1 h256) rfl (by decide) rfl (by decide) dX2_kindOf_15 (fun H1 locs1 hq hS1 => ?_)
      refine lv_goto (tgt := 22) hx hb dX2_kindOf_18 (by decide) ?_
      exact W.iret hx hb hr (fun t ht hW => ⟨rfl, by rw [ht]; exact hP.kept (fun k x hx => hq x.1 ((hP k x hx).lt)), hS1.F ht⟩) hS1.2.2 dX2_kindOf_22 hlk)
