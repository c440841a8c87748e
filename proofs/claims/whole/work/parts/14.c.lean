/-! ===== the model: a statement, whole ===== -/
def stC (n : Nat) (m9 : Mem) (x11 : Int32) (m12 : Mem) : Option (Int32 × Mem) := gd (inb (m9.1 47 14) 50) (bnd (setI m12 55 (Int32.toNatClampNeg (m9.1 47 14)) x11) (fun m13 => gd (inb (m13.1 47 14) 50) (if 0 ≤ (m13.1 55 (Int32.toNatClampNeg (m13.1 47 14))) then bnd (setI m13 47 13 ((m13.1 47 13) + 1)) (fun m14 => bd (fX5_isNext n 61 m14) (fun r16 m15 => if r16 = 0 then some (0, m15) else bd (fX5_readsName n m15) (fun r18 m17 => if r18 = 0 then some (0, m17) else bd (fX5_isNext n 59 m17) (fun r20 m19 => gd (isB r20) (some (r20, m19)))))) else some (0, m13))))
def stB (n : Nat) (r2 : Int32) (m9 : Mem) : Option (Int32 × Mem) := if r2 = 115 then bd (fX5_next n m9) (fun r28 m27 => bd (fX5_kindOf n r28 m27) (fun r30 m29 => stC n m9 r30 m29)) else bd (fX5_next n m9) (fun r22 m21 => bd (fX5_isIn n r22 48 57 m21) (fun r24 m23 => if r24 = 0 then stC n m9 (-1) m23 else bd (fX5_next n m23) (fun r26 m25 => stC n m9 (r26 - 48) m25)))
def stA (n : Nat) (r2 : Int32) (m4 : Mem) : Option (Int32 × Mem) := gd (inb (m4.1 47 14) 50) (bnd (setI m4 53 (Int32.toNatClampNeg (m4.1 47 14)) r2) (fun m5 => gd (inb (m5.1 47 14) 50) (bnd (setI m5 54 (Int32.toNatClampNeg (m5.1 47 14)) (m5.1 47 13)) (fun m6 => bnd (setI m6 47 13 ((m6.1 47 13) + 1)) (fun m7 => if r2 = 115 then stB n r2 m7 else if r2 = 110 then stB n r2 m7 else bd (fX5_isNext n 59 m7) (fun r32 m31 => gd (isB r32) (some (r32, m31))))))))
theorem st_eq (n : Nat) (μ : Mem) : fX5_statement n μ = bd (fX5_next n μ) (fun r2 m1 => if r2 = 115 then stA n r2 m1 else if r2 = 110 then stA n r2 m1 else if r2 = 114 then stA n r2 m1 else if r2 = 111 then stA n r2 m1 else some (0, m1)) := rfl
section PS2
variable {n : Nat} {μ : Mem} {T : Nat} {ch : Nat → Nat}
/-- a fault at e: the model stands there -/
def FO (T : Nat) (k : Nat) (μ : Mem) (o : Option Nat) (X : Option (Int32 × Mem)) : Prop := ∃ e, e ≤ T ∧ o = some e ∧ Ok (nI 0) (fun ν => LF μ ν ∧ TK k μ ν ∧ ν.1 47 13 = nI e ∧ ν.1 47 14 = nI k) X
theorem p5_stC0 (hk : Lok T ch) {a k : Nat} (ha : a ≤ T) (hkk : k < 50) (h13 : μ.1 47 13 = nI a) (h14 : μ.1 47 14 = nI k) : Ok (nI 0) (fun ν => LF μ ν ∧ TK k μ ν ∧ ν.1 47 13 = nI a ∧ ν.1 47 14 = nI k) (stC n μ (-1) μ) := by
  unfold stC
  rw [h14, inb_nI hkk (by decide), gd_true, nI_clamp (by omega), bnd, setI1_ne (by decide), h14, inb_nI hkk (by decide), gd_true, nI_clamp (by omega), setI1_eq, upd_eq, if_neg (by decide)]
  exact ⟨_, rfl, LF_a (by decide), TK_a, by rw [setI1_ne (by decide)]; exact h13, by rw [setI1_ne (by decide)]; exact h14⟩
theorem au_at {T : Nat} {ch : Nat → Nat} {s p : Nat} (hp : p < T) : au T ch (T - p) s p = match nx s (ch p) with | none => some p | some t => au T ch (T - (p + 1)) t (p + 1) := by
  rw [show T - p = (T - (p + 1)) + 1 by omega, au]
  cases nx s (ch p) <;> rfl
theorem au_end {T : Nat} {ch : Nat → Nat} {s p : Nat} (hp : p = T) (hs : s ≠ 0) : au T ch (T - p) s p = some p := by
  rw [hp, Nat.sub_self, au, if_neg (fun q => hs q.1)]
theorem nI_1z : nI 1 = 1 := rfl
theorem p5_stC1 (hn : 200 ≤ n) (hk : Lok T ch) (hc : LM T ch μ) {a k w : Nat} (ha : a < T) (hkk : k < 50) (hw : w < 256) (h13 : μ.1 47 13 = nI a) (h14 : μ.1 47 14 = nI k) : (∃ q, a + 4 ≤ q ∧ q ≤ a + 12 ∧ q ≤ T ∧ ch (q - 1) = 59 ∧ ch (a + 1) = 61 ∧ (∀ x, a + 2 ≤ x → x < q - 1 → 97 ≤ ch x ∧ ch x ≤ 122) ∧ au T ch (T - (a + 1)) 3 (a + 1) = au T ch (T - q) 0 q ∧ Ok (nI 1) (fun ν => LF μ ν ∧ TK k μ ν ∧ ν.1 47 13 = nI q ∧ ν.1 47 14 = nI k ∧ ν.1 53 = μ.1 53 ∧ ν.1 54 = μ.1 54 ∧ ν.1 55 k = nI w ∧ ν.1 56 k = nI (a + 2) ∧ ν.1 57 k = nI (q - 1)) (stC n μ (nI w) μ)) ∨ FO T k μ (au T ch (T - (a + 1)) 3 (a + 1)) (stC n μ (nI w) μ) := by
  have h96 := hk.1
  unfold FO stC
  rw [h14, inb_nI hkk (by decide), gd_true, nI_clamp (by omega), bnd, setI1_ne (by decide), h14, inb_nI hkk (by decide), gd_true, nI_clamp (by omega), setI1_eq, upd_eq, if_pos (nI_pos' (by omega)), h13, nI_1, bnd]
  generalize hy : setI (setI μ 55 k (nI w)) 47 13 (nI (a + 1)) = y
  have y1 : LF μ y := by rw [← hy]; exact LF_tr (LF_a (by decide)) LF_13
  have y2 : TK k μ y := by rw [← hy]; exact TK_tr TK_a TK_47
  have y3 : y.1 47 13 = nI (a + 1) := by rw [← hy, setI1_eq, upd_eq]
  have y4 : y.1 47 14 = nI k := by rw [← hy, setI1_eq, upd_ne (by decide), setI1_ne (by decide)]; exact h14
  have y5 : y.1 55 k = nI w := by rw [← hy, setI1_ne (by decide), setI1_eq, upd_eq]
  have y6 : ∀ b, b ≠ 47 → b ≠ 55 → y.1 b = μ.1 b := fun b h1 h2 => by rw [← hy, setI1_ne h1, setI1_ne h2]
  have hcy := LM_LF y1 hc
  rw [show (61 : Int32) = nI 61 from rfl, show (59 : Int32) = nI 59 from rfl]
  by_cases h61 : a + 1 < T ∧ ch (a + 1) = 61
  · have hnx : nx 3 (ch (a + 1)) = some 10 := by rw [h61.2]; rfl
    have hau : au T ch (T - (a + 1)) 3 (a + 1) = au T ch (T - (a + 1 + 1)) 10 (a + 1 + 1) := by rw [au_at h61.1, hnx]
    rw [p5_isNext_t hk hcy h61.1 y3 h61.2 (by decide), bd_some, if_neg (by decide)]
    generalize hz : setI y 47 13 (nI (a + 1 + 1)) = z
    have z1 : LF μ z := by rw [← hz]; exact LF_tr y1 LF_13
    have z2 : TK k μ z := by rw [← hz]; exact TK_tr y2 TK_47
    have z3 : z.1 47 13 = nI (a + 1 + 1) := by rw [← hz, setI1_eq, upd_eq]
    have z4 : z.1 47 14 = nI k := by rw [← hz, setI1_eq, upd_ne (by decide)]; exact y4
    have z6 : ∀ b, b ≠ 47 → z.1 b = y.1 b := fun b h1 => by rw [← hz, setI1_ne h1]
    obtain ⟨s2, q2, g1, g2, g3, g4, g5, g6, g7⟩ := p5_readsName hn hk (LM_LF z1 hc) (p := a + 1 + 1) (by omega) hkk z3 z4
    have hend := au_nend (T := T) (ch := ch) (p := a + 1 + 1) (by omega)
    have hL := lrun_le T ch 9 (a + 1 + 1)
    have hin := lrun_in T ch 9 (a + 1 + 1)
    generalize ht : lrun T ch 9 (a + 1 + 1) = t at *
    have hL3 := hL.2.2 (by omega)
    rw [q2, bd_some, hau]
    rcases hend with ⟨e1, e2, e3, e4⟩ | ⟨e1, e2⟩
    · left
      refine ⟨t + 1, by omega, by omega, by omega, by rw [Nat.add_sub_cancel]; exact e3, h61.2, fun x h1 h2 => hin x h1 (by omega), e4, ?_⟩
      rw [if_pos e1, if_neg (by decide), p5_isNext_t hk (LM_LF (LF_tr z1 g1) hc) e2 g3 e3 (by decide), bd_some, show isB (nI 1) = true from rfl, gd_true]
      refine ⟨_, rfl, LF_tr (LF_tr z1 g1) LF_13, TK_tr (TK_tr z2 g2) TK_47, by rw [setI1_eq, upd_eq], by rw [setI1_eq, upd_ne (by decide)]; exact g4, ?_, ?_, ?_, by rw [setI1_ne (by decide)]; exact g5, by rw [setI1_ne (by decide), Nat.add_sub_cancel]; exact g6⟩
      · rw [setI1_ne (by decide), g7 53 (by decide) (by decide) (by decide), z6 53 (by decide), y6 53 (by decide) (by decide)]
      · rw [setI1_ne (by decide), g7 54 (by decide) (by decide) (by decide), z6 54 (by decide), y6 54 (by decide) (by decide)]
      · rw [setI1_ne (by decide), g7 55 (by decide) (by decide) (by decide), z6 55 (by decide)]; exact y5
    · right
      refine ⟨t, hL3, e2, ?_⟩
      by_cases hpt : a + 1 + 1 < t
      · rw [if_pos hpt, if_neg (by decide), p5_isNext_f hk (LM_LF (LF_tr z1 g1) hc) hL3 g3 (fun q => e1 ⟨hpt, q.1, q.2⟩) (by decide), bd_some, show isB (nI 0) = true from rfl, gd_true]
        exact ⟨_, rfl, LF_tr z1 g1, TK_tr z2 g2, g3, g4⟩
      · rw [if_neg hpt, if_pos (show nI 0 = 0 from rfl)]
        exact ⟨_, rfl, LF_tr z1 g1, TK_tr z2 g2, g3, g4⟩
  · right
    rw [p5_isNext_f hk hcy (by omega) y3 h61 (by decide), bd_some, if_pos (show nI 0 = 0 from rfl)]
    refine ⟨a + 1, by omega, ?_, _, rfl, y1, y2, y3, y4⟩
    by_cases hT : a + 1 < T
    · have : nx 3 (ch (a + 1)) = none := by
        unfold nx
        rw [if_neg (by decide), if_neg (by decide), if_neg (by decide), if_pos rfl, if_neg (fun q => h61 ⟨hT, q⟩)]
      rw [au_at hT, this]
    · exact au_end (by omega) (by decide)
/-- a statement from p to q -/
def SP (T : Nat) (ch : Nat → Nat) (p q : Nat) : Prop := p < q ∧ q ≤ T ∧ ch (q - 1) = 59 ∧ au T ch (T - p) 0 p = au T ch (T - q) 0 q ∧ (((ch p = 114 ∨ ch p = 111) ∧ q = p + 2) ∨ (((ch p = 115 ∧ kn (ch (p + 1)) < 6) ∨ (ch p = 110 ∧ 48 ≤ ch (p + 1) ∧ ch (p + 1) ≤ 57)) ∧ ch (p + 2) = 61 ∧ p + 5 ≤ q ∧ q ≤ p + 13 ∧ ∀ x, p + 3 ≤ x → x < q - 1 → 97 ≤ ch x ∧ ch x ≤ 122))
/-- what the tables say of it -/
def TB1 (ch : Nat → Nat) (p q k : Nat) (ν : Mem) : Prop := ν.1 53 k = nI (ch p) ∧ ν.1 54 k = nI p ∧ (ch p = 115 → ν.1 55 k = nI (kn (ch (p + 1)))) ∧ (ch p = 110 → ν.1 55 k = nI (ch (p + 1) - 48)) ∧ (ch p = 115 ∨ ch p = 110 → ν.1 56 k = nI (p + 3) ∧ ν.1 57 k = nI (q - 1))
theorem p5_stmt (hn : 200 ≤ n) (hk : Lok T ch) (hc : LM T ch μ) {p k : Nat} (hp : p < T ∨ (T = 0 ∧ p = 0)) (hkk : k < 50) (h13 : μ.1 47 13 = nI p) (h14 : μ.1 47 14 = nI k) : (∃ q, SP T ch p q ∧ Ok (nI 1) (fun ν => LF μ ν ∧ TK k μ ν ∧ ν.1 47 13 = nI q ∧ ν.1 47 14 = nI k ∧ TB1 ch p q k ν) (fX5_statement n μ)) ∨ FO T k μ (au T ch (T - p) 0 p) (fX5_statement n μ) := by
  have h96 := hk.1
  rw [st_eq, p5_next hk hc (by omega) h13, bd_some]
  have hcase : ∀ c, c < 256 → (nxv T ch p = nI c ↔ p < T ∧ ch p = c) := fun c h => nxv_eq hk h
  have c115 : nxv T ch p = 115 ↔ p < T ∧ ch p = 115 := hcase 115 (by decide)
  have c110 : nxv T ch p = 110 ↔ p < T ∧ ch p = 110 := hcase 110 (by decide)
  have c114 : nxv T ch p = 114 ↔ p < T ∧ ch p = 114 := hcase 114 (by decide)
  have c111 : nxv T ch p = 111 ↔ p < T ∧ ch p = 111 := hcase 111 (by decide)
  -- behind the first letter
  have hA : ∀ (P : Option (Int32 × Mem) → Prop), p < T → (∀ y, LF μ y → TK k μ y → y.1 47 13 = nI (p + 1) → y.1 47 14 = nI k → y.1 53 k = nI (ch p) → y.1 54 k = nI p → P (if nxv T ch p = 115 then stB n (nxv T ch p) y else if nxv T ch p = 110 then stB n (nxv T ch p) y else bd (fX5_isNext n 59 y) (fun r32 m31 => gd (isB r32) (some (r32, m31))))) → P (stA n (nxv T ch p) μ) := by
    intro P hpT hy
    unfold stA
    rw [h14, inb_nI hkk (by decide), gd_true, nI_clamp (by omega), bnd, setI1_ne (by decide), h14, inb_nI hkk (by decide), gd_true, nI_clamp (by omega), h13, bnd, setI1_ne (by decide), setI1_ne (by decide), h13, nI_1, bnd]
    refine hy _ (LF_tr (LF_tr (LF_a (by decide)) (LF_a (by decide))) LF_13) (TK_tr (TK_tr TK_a TK_a) TK_47) (by rw [setI1_eq, upd_eq]) (by rw [setI1_eq, upd_ne (by decide), setI1_ne (by decide), setI1_ne (by decide)]; exact h14) ?_ (by rw [setI1_ne (by decide), setI1_eq, upd_eq])
    rw [setI1_ne (by decide), setI1_ne (by decide), setI1_eq, upd_eq]
    unfold nxv
    rw [if_pos hpT]
  -- a fault behind the first letter, or a name
  have wrap : ∀ (w : Nat) (y : Mem) (X : Option (Int32 × Mem)), LF μ y → TK k μ y → X = stC n y (nI w) y → p + 1 < T → w < 256 → y.1 47 13 = nI (p + 1) → y.1 47 14 = nI k → y.1 53 k = nI (ch p) → y.1 54 k = nI p → (ch p = 115 ∧ kn (ch (p + 1)) < 6 ∧ w = kn (ch (p + 1)) ∨ ch p = 110 ∧ (48 ≤ ch (p + 1) ∧ ch (p + 1) ≤ 57) ∧ w = ch (p + 1) - 48) → au T ch (T - p) 0 p = au T ch (T - (p + 1 + 1)) 3 (p + 1 + 1) → (∃ q, SP T ch p q ∧ Ok (nI 1) (fun ν => LF μ ν ∧ TK k μ ν ∧ ν.1 47 13 = nI q ∧ ν.1 47 14 = nI k ∧ TB1 ch p q k ν) X) ∨ FO T k μ (au T ch (T - p) 0 p) X := by
    intro w y X l1 l2 hX hT hw y13 y14 y53 y54 hwc hau
    subst hX
    rw [hau]
    rcases p5_stC1 hn hk (LM_LF l1 hc) hT hkk hw y13 y14 with ⟨q, b1, b2, b3, b4, b5, b6, b7, s2, q2, g1, g2, g3, g4, g5, g6, g7, g8, g9⟩ | ⟨e, f1, f2, s2, q2, g1, g2, g3, g4⟩
    · left
      refine ⟨q, ⟨by omega, b3, b4, hau.trans b7, Or.inr ⟨?_, b5, by omega, by omega, b6⟩⟩, s2, q2, LF_tr l1 g1, TK_tr l2 g2, g3, g4, by rw [g5]; exact y53, by rw [g6]; exact y54, fun h => ?_, fun h => ?_, fun _ => ⟨g8, g9⟩⟩
      · rcases hwc with ⟨u1, u2, -⟩ | ⟨u1, u2, -⟩
        · exact Or.inl ⟨u1, u2⟩
        · exact Or.inr ⟨u1, u2⟩
      · rw [g7]
        rcases hwc with ⟨u1, u2, u3⟩ | ⟨u1, u2, u3⟩
        · rw [u3]
        · omega
      · rw [g7]
        rcases hwc with ⟨u1, u2, u3⟩ | ⟨u1, u2, u3⟩
        · omega
        · rw [u3]
    · right
      exact ⟨e, f1, f2, s2, q2, LF_tr l1 g1, TK_tr l2 g2, g3, g4⟩
  have fail1 : ∀ (y : Mem) (X : Option (Int32 × Mem)) (s : Nat), LF μ y → TK k μ y → X = stC n y (-1) y → p < T → nx 0 (ch p) = some s → s ≠ 0 → (p + 1 < T → nx s (ch (p + 1)) = none) → y.1 47 13 = nI (p + 1) → y.1 47 14 = nI k → FO T k μ (au T ch (T - p) 0 p) X := by
    intro y X s l1 l2 hX hpT hs hs0 hno y13 y14
    subst hX
    obtain ⟨s2, q2, g1, g2, g3, g4⟩ := p5_stC0 (n := n) hk (a := p + 1) (by omega) hkk y13 y14
    refine ⟨p + 1, by omega, ?_, s2, q2, LF_tr l1 g1, TK_tr l2 g2, g3, g4⟩
    rw [au_at hpT, hs]
    by_cases hT : p + 1 < T
    · show au T ch (T - (p + 1)) s (p + 1) = _
      rw [au_at hT, hno hT]
    · exact au_end (by omega) hs0
  by_cases h1 : p < T ∧ ch p = 115
  · rw [if_pos (c115.mpr h1)]
    refine hA (fun X => (∃ q, SP T ch p q ∧ Ok (nI 1) (fun ν => LF μ ν ∧ TK k μ ν ∧ ν.1 47 13 = nI q ∧ ν.1 47 14 = nI k ∧ TB1 ch p q k ν) X) ∨ FO T k μ (au T ch (T - p) 0 p) X) h1.1 (fun y l1 l2 y13 y14 y53 y54 => ?_)
    have hs : nx 0 (ch p) = some 1 := by rw [h1.2]; rfl
    rw [if_pos (c115.mpr h1)]
    unfold stB
    rw [if_pos (c115.mpr h1), p5_next hk (LM_LF l1 hc) (by omega) y13, bd_some]
    by_cases hT : p + 1 < T
    · have hch := hk.2 (p + 1) hT
      rw [show nxv T ch (p + 1) = nI (ch (p + 1)) by unfold nxv; rw [if_pos hT], p5_kindOf hch, bd_some]
      unfold kni
      by_cases hkn : kn (ch (p + 1)) < 6
      · rw [if_pos hkn]
        refine wrap _ y _ l1 l2 rfl hT (by omega) y13 y14 y53 y54 (Or.inl ⟨h1.2, hkn, rfl⟩) ?_
        rw [au_at h1.1, hs]
        show au T ch (T - (p + 1)) 1 (p + 1) = _
        have : nx 1 (ch (p + 1)) = some 3 := by
          unfold nx
          rw [if_neg (by decide), if_pos rfl, if_pos hkn]
        rw [au_at hT, this]
      · rw [if_neg hkn]
        right
        refine fail1 y _ 1 l1 l2 rfl h1.1 hs (by decide) (fun _ => ?_) y13 y14
        unfold nx
        rw [if_neg (by decide), if_pos rfl, if_neg hkn]
    · have hm : fX5_kindOf n (-1) y = some (-1, y) := by
        unfold fX5_kindOf
        simp only [bnd]
        rw [if_neg (by decide), if_neg (by decide), if_neg (by decide), if_neg (by decide), if_neg (by decide), if_neg (by decide)]
      rw [show nxv T ch (p + 1) = -1 by unfold nxv; rw [if_neg hT], hm, bd_some]
      right
      exact fail1 y _ 1 l1 l2 rfl h1.1 hs (by decide) (fun q => absurd q hT) y13 y14
  · rw [if_neg (fun q => h1 (c115.mp q))]
    by_cases h2 : p < T ∧ ch p = 110
    · rw [if_pos (c110.mpr h2)]
      refine hA (fun X => (∃ q, SP T ch p q ∧ Ok (nI 1) (fun ν => LF μ ν ∧ TK k μ ν ∧ ν.1 47 13 = nI q ∧ ν.1 47 14 = nI k ∧ TB1 ch p q k ν) X) ∨ FO T k μ (au T ch (T - p) 0 p) X) h2.1 (fun y l1 l2 y13 y14 y53 y54 => ?_)
      have hs : nx 0 (ch p) = some 2 := by rw [h2.2]; rfl
      rw [if_neg (fun q => h1 (c115.mp q)), if_pos (c110.mpr h2)]
      unfold stB
      rw [if_neg (fun q => h1 (c115.mp q)), p5_next hk (LM_LF l1 hc) (by omega) y13, bd_some, show (48 : Int32) = nI 48 from rfl, show (57 : Int32) = nI 57 from rfl, p5_isInN hk (by decide) (by decide), bd_some]
      by_cases hd : p + 1 < T ∧ 48 ≤ ch (p + 1) ∧ ch (p + 1) ≤ 57
      · rw [if_pos hd, if_neg (by decide), p5_next hk (LM_LF l1 hc) (by omega) y13, bd_some, show nxv T ch (p + 1) = nI (ch (p + 1)) by unfold nxv; rw [if_pos hd.1], pk_sub hd.2.1]
        refine wrap _ y _ l1 l2 rfl hd.1 (by omega) y13 y14 y53 y54 (Or.inr ⟨h2.2, hd.2, rfl⟩) ?_
        rw [au_at h2.1, hs]
        show au T ch (T - (p + 1)) 2 (p + 1) = _
        have : nx 2 (ch (p + 1)) = some 3 := by
          unfold nx
          rw [if_neg (by decide), if_neg (by decide), if_pos rfl, if_pos hd.2]
        rw [au_at hd.1, this]
      · rw [if_neg hd, if_pos (show nI 0 = 0 from rfl)]
        right
        refine fail1 y _ 2 l1 l2 rfl h2.1 hs (by decide) (fun hT => ?_) y13 y14
        unfold nx
        rw [if_neg (by decide), if_neg (by decide), if_pos rfl, if_neg (fun q => hd ⟨hT, q⟩)]
    · rw [if_neg (fun q => h2 (c110.mp q))]
      have hro : p < T ∧ (ch p = 114 ∨ ch p = 111) → (∃ q, SP T ch p q ∧ Ok (nI 1) (fun ν => LF μ ν ∧ TK k μ ν ∧ ν.1 47 13 = nI q ∧ ν.1 47 14 = nI k ∧ TB1 ch p q k ν) (stA n (nxv T ch p) μ)) ∨ FO T k μ (au T ch (T - p) 0 p) (stA n (nxv T ch p) μ) := by
        intro h3
        refine hA (fun X => (∃ q, SP T ch p q ∧ Ok (nI 1) (fun ν => LF μ ν ∧ TK k μ ν ∧ ν.1 47 13 = nI q ∧ ν.1 47 14 = nI k ∧ TB1 ch p q k ν) X) ∨ FO T k μ (au T ch (T - p) 0 p) X) h3.1 (fun y l1 l2 y13 y14 y53 y54 => ?_)
        have hs : nx 0 (ch p) = some 4 := by
          unfold nx
          rw [if_pos rfl, if_neg (by omega), if_neg (by omega), if_pos h3.2]
        rw [if_neg (fun q => h1 (c115.mp q)), if_neg (fun q => h2 (c110.mp q)), show (59 : Int32) = nI 59 from rfl]
        by_cases h59 : p + 1 < T ∧ ch (p + 1) = 59
        · left
          rw [p5_isNext_t hk (LM_LF l1 hc) h59.1 y13 h59.2 (by decide), bd_some, show isB (nI 1) = true from rfl, gd_true]
          have hau : au T ch (T - p) 0 p = au T ch (T - (p + 2)) 0 (p + 2) := by
            rw [au_at h3.1, hs]
            show au T ch (T - (p + 1)) 4 (p + 1) = _
            have : nx 4 (ch (p + 1)) = some 0 := by rw [h59.2]; rfl
            rw [au_at h59.1, this]
          refine ⟨p + 2, ⟨by omega, by omega, h59.2, hau, Or.inl ⟨h3.2, rfl⟩⟩, _, rfl, LF_tr l1 LF_13, TK_tr l2 TK_47, by rw [setI1_eq, upd_eq], by rw [setI1_eq, upd_ne (by decide)]; exact y14, by rw [setI1_ne (by decide)]; exact y53, by rw [setI1_ne (by decide)]; exact y54, fun h => by omega, fun h => by omega, fun h => by omega⟩
        · right
          rw [p5_isNext_f hk (LM_LF l1 hc) (by omega) y13 h59 (by decide), bd_some, show isB (nI 0) = true from rfl, gd_true]
          refine ⟨p + 1, by omega, ?_, _, rfl, l1, l2, y13, y14⟩
          rw [au_at h3.1, hs]
          by_cases hT : p + 1 < T
          · show au T ch (T - (p + 1)) 4 (p + 1) = _
            have : nx 4 (ch (p + 1)) = none := by
              unfold nx
              rw [if_neg (by decide), if_neg (by decide), if_neg (by decide), if_neg (by decide), if_pos rfl, if_neg (fun q => h59 ⟨hT, q⟩)]
            rw [au_at hT, this]
          · exact au_end (by omega) (by decide)
      by_cases h3 : p < T ∧ ch p = 114
      · rw [if_pos (c114.mpr h3)]
        exact hro ⟨h3.1, Or.inl h3.2⟩
      · rw [if_neg (fun q => h3 (c114.mp q))]
        by_cases h4 : p < T ∧ ch p = 111
        · rw [if_pos (c111.mpr h4)]
          exact hro ⟨h4.1, Or.inr h4.2⟩
        · rw [if_neg (fun q => h4 (c111.mp q))]
          right
          refine ⟨p, by omega, ?_, _, rfl, LF_rf, TK_rf, h13, h14⟩
          rcases hp with hp | ⟨hp, hp2⟩
          · have : nx 0 (ch p) = none := by
              unfold nx
              rw [if_pos rfl, if_neg (fun q => h1 ⟨hp, q⟩), if_neg (fun q => h2 ⟨hp, q⟩), if_neg (fun q => q.elim (fun r => h3 ⟨hp, r⟩) (fun r => h4 ⟨hp, r⟩))]
            rw [au_at hp, this]
          · rw [hp, hp2]
            rfl
end PS2
