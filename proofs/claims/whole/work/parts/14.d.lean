/-! ===== the model: a line ===== -/
def apv (v : Vw) (K S : Nat) (f : Nat → Nat) : Vw := (vN v + 1, vr v, fun j => if j = vN v then K else kd v j, fun j => if j = vN v then S else sz v j, fun j l => if j = vN v then f l else nm v j l)
def rnv (v : Vw) (w S : Nat) (f : Nat → Nat) : Vw := (vN v, vr v, v.2.2.1, fun j => if j = w then S else sz v j, fun j l => if j = w then f l else nm v j l)
def rgv (v : Vw) (r : Nat) : Vw := (vN v, r, v.2.2.1, v.2.2.2.1, v.2.2.2.2)
/-- a statement is done -/
def ob (ch : Nat → Nat) (v : Vw) (p q : Nat) : Option Vw := if ch p = 115 then (if 8 ≤ vN v then none else some (apv v (kn (ch (p + 1))) (q - 1 - (p + 3)) (fun j => ch (p + 3 + j) - 97))) else if ch p = 110 then (if ch (p + 1) - 48 < vN v then some (rnv v (ch (p + 1) - 48) (q - 1 - (p + 3)) (fun j => ch (p + 3 + j) - 97)) else none) else some (rgv v (if ch p = 114 then 1 else 0))
def rnS (ch st : Nat → Nat) : Nat → Nat → Vw → Nat ⊕ Vw
  | 0, _, v => .inr v
  | d + 1, k, v => match ob ch v (st k) (st (k + 1)) with | none => .inl k | some w => rnS ch st d (k + 1) w
theorem apv_ok {v : Vw} (h : V9 v) {K S : Nat} {f : Nat → Nat} (h8 : vN v < 8) (hK : K ≤ 5) (h1 : 1 ≤ S) (h9 : S ≤ 9) (hf : ∀ j, j < S → f j < 26) : V9 (apv v K S f) := by
  obtain ⟨⟨a, b, c⟩, d⟩ := h
  refine ⟨⟨by show vN v + 1 ≤ 8; omega, b, fun j hj => ?_⟩, fun j hj => ?_⟩
  · have hj : j < vN v + 1 := hj
    show (if j = vN v then K else kd v j) ≤ 5 ∧ 1 ≤ (if j = vN v then S else sz v j) ∧ (if j = vN v then S else sz v j) ≤ 10 ∧ ∀ l, l < (if j = vN v then S else sz v j) → (if j = vN v then f l else nm v j l) < 26
    by_cases e : j = vN v
    · simp only [e, if_true]; exact ⟨hK, h1, by omega, hf⟩
    · simp only [e, if_false]; exact c j (by omega)
  · have hj : j < vN v + 1 := hj
    show (if j = vN v then S else sz v j) ≤ 9
    by_cases e : j = vN v
    · simp only [e, if_true]; exact h9
    · simp only [e, if_false]; exact d j (by omega)
theorem rnv_ok {v : Vw} (h : V9 v) {w S : Nat} {f : Nat → Nat} (h1 : 1 ≤ S) (h9 : S ≤ 9) (hf : ∀ j, j < S → f j < 26) : V9 (rnv v w S f) := by
  obtain ⟨⟨a, b, c⟩, d⟩ := h
  refine ⟨⟨a, b, fun j hj => ?_⟩, fun j hj => ?_⟩
  · have hj : j < vN v := hj
    show kd v j ≤ 5 ∧ 1 ≤ (if j = w then S else sz v j) ∧ (if j = w then S else sz v j) ≤ 10 ∧ ∀ l, l < (if j = w then S else sz v j) → (if j = w then f l else nm v j l) < 26
    by_cases e : j = w
    · have c1 := (c j hj).1
      simp only [e, if_true] at c1 ⊢; exact ⟨c1, h1, by omega, hf⟩
    · simp only [e, if_false]; exact c j hj
  · have hj : j < vN v := hj
    show (if j = w then S else sz v j) ≤ 9
    by_cases e : j = w
    · simp only [e, if_true]; exact h9
    · simp only [e, if_false]; exact d j hj
theorem rgv_ok {v : Vw} (h : V9 v) {r : Nat} (hr : r ≤ 1) : V9 (rgv v r) := ⟨⟨h.1.1, hr, h.1.2.2⟩, h.2⟩
theorem kn_le (c : Nat) (h : kn c < 6) : kn c ≤ 5 := by omega
theorem ob_ok {T : Nat} {ch : Nat → Nat} {v w : Vw} {p q : Nat} (h : V9 v) (hs : SP T ch p q) (ho : ob ch v p q = some w) : V9 w := by
  obtain ⟨s1, s2, s3, s4, s5⟩ := hs
  have hf : (ch p = 115 ∨ ch p = 110) → p + 5 ≤ q ∧ q ≤ p + 13 ∧ ∀ j, j < q - 1 - (p + 3) → ch (p + 3 + j) - 97 < 26 := by
    intro hb
    rcases s5 with ⟨u1, -⟩ | ⟨-, -, u3, u4, u5⟩
    · omega
    · refine ⟨u3, u4, fun j hj => ?_⟩
      have := u5 (p + 3 + j) (by omega) (by omega)
      omega
  unfold ob at ho
  by_cases h1 : ch p = 115
  · rw [if_pos h1] at ho
    obtain ⟨f1, f2, f3⟩ := hf (Or.inl h1)
    by_cases h8 : 8 ≤ vN v
    · rw [if_pos h8] at ho; cases ho
    · rw [if_neg h8] at ho
      cases ho
      refine apv_ok h (by omega) ?_ (by omega) (by omega) f3
      rcases s5 with ⟨u1, -⟩ | ⟨⟨-, u2⟩ | ⟨u1, -⟩, -⟩
      · omega
      · omega
      · omega
  · rw [if_neg h1] at ho
    by_cases h2 : ch p = 110
    · rw [if_pos h2] at ho
      obtain ⟨f1, f2, f3⟩ := hf (Or.inr h2)
      by_cases h8 : ch (p + 1) - 48 < vN v
      · rw [if_pos h8] at ho; cases ho; exact rnv_ok h (by omega) (by omega) f3
      · rw [if_neg h8] at ho; cases ho
    · rw [if_neg h2] at ho
      cases ho
      exact rgv_ok h (by split <;> omega)
/-- the statements of a line: where they begin -/
def STS (T : Nat) (ch : Nat → Nat) (m : Nat) (st : Nat → Nat) : Prop := st 0 = 0 ∧ st m = T ∧ 1 ≤ m ∧ 2 * m ≤ T ∧ (∀ k, k < m → SP T ch (st k) (st (k + 1)))
section PLN
variable {n : Nat} {μ : Mem} {T : Nat} {ch : Nat → Nat}
theorem p5_parse (hn : 200 ≤ n) (hk : Lok T ch) {K1 : Int32 → Mem → Option (Int32 × Mem)} {Rr : Option (Int32 × Mem) → Prop} (hG : ∀ m st ν, STS T ch m st → au T ch T 0 0 = none → LF μ ν → ν.1 47 14 = nI m → (∀ j, j < m → TB1 ch (st j) (st (j + 1)) j ν) → Rr (K1 (nI 1) ν)) (hB : ∀ e ν, e ≤ T → au T ch T 0 0 = some e → LF μ ν → ν.1 47 13 = nI e → Rr (K1 (nI 0) ν)) (hc : LM T ch μ) : ∀ (F p k : Nat) (st : Nat → Nat) (x : Mem), T - p + 3 ≤ F → p ≤ T → 2 * k ≤ p → st 0 = 0 → st k = p → (∀ j, j < k → SP T ch (st j) (st (j + 1))) → au T ch (T - p) 0 p = au T ch T 0 0 → LF μ x → x.1 47 13 = nI p → x.1 47 14 = nI k → (∀ j, j < k → TB1 ch (st j) (st (j + 1)) j x) → Rr (fX5_line_L12 n K1 F (nI 1) x)
  | 0, p, k, st, x, h, _, _, _, _, _, _, _, _, _, _ => by omega
  | F + 1, p, k, st, x, hF, hp, h2k, s0, sk, sp, hau, hl, h13, h14, htb => by
    have h96 := hk.1
    have hcx := LM_LF hl hc
    have body : p < T ∨ (T = 0 ∧ p = 0) → Rr (bd (fX5_statement n x) fun r6 m5 => if r6 = 0 then bnd (setI m5 47 14 (m5.1 47 14 + 0)) fun m7 => fX5_line_L12 n K1 F r6 m7 else bnd (setI m5 47 14 (m5.1 47 14 + 1)) fun m8 => fX5_line_L12 n K1 F r6 m8) := by
      intro hpT
      rcases p5_stmt hn hk hcx hpT (show k < 50 by omega) h13 h14 with ⟨q, hsp, s2, q2, g1, g2, g3, g4, g5⟩ | ⟨e, f1, f2, s2, q2, g1, g2, g3, g4⟩
      · rw [q2, bd_some, if_neg (by decide), bnd, g4, nI_1]
        have hq := hsp.1
        have hq2 : p + 2 ≤ q := by
          rcases hsp.2.2.2.2 with ⟨-, u⟩ | ⟨-, -, u, -, -⟩ <;> omega
        have hqT := hsp.2.1
        refine p5_parse hn hk hG hB hc F q (k + 1) (fun j => if j = k + 1 then q else st j) _ (by omega) hqT (by omega) (by show (if 0 = k + 1 then q else st 0) = 0; rw [if_neg (by omega)]; exact s0) (by show (if k + 1 = k + 1 then q else _) = q; rw [if_pos rfl]) (fun j hj => ?_) (hsp.2.2.2.1.symm.trans hau) (LF_tr hl (LF_tr g1 LF_14)) (by rw [setI1_eq, upd_ne (by decide)]; exact g3) (by rw [setI1_eq, upd_eq]) (fun j hj => ?_)
        · show SP T ch (if j = k + 1 then q else st j) (if j + 1 = k + 1 then q else st (j + 1))
          rw [if_neg (by omega)]
          by_cases ej : j = k
          · rw [if_pos (by omega), ej, sk]; exact hsp
          · rw [if_neg (by omega)]; exact sp j (by omega)
        · show TB1 ch (if j = k + 1 then q else st j) (if j + 1 = k + 1 then q else st (j + 1)) j _
          rw [if_neg (by omega)]
          have hset : ∀ a, 53 ≤ a → a ≤ 57 → (setI s2 47 14 (nI (k + 1))).1 a = s2.1 a := fun a h1 h2 => setI1_ne (by omega)
          unfold TB1
          rw [hset 53 (by decide) (by decide), hset 54 (by decide) (by decide), hset 55 (by decide) (by decide), hset 56 (by decide) (by decide), hset 57 (by decide) (by decide)]
          by_cases ej : j = k
          · rw [if_pos (by omega), ej, sk]; exact g5
          · rw [if_neg (by omega), g2 53 (by decide) (by decide) j (by omega), g2 54 (by decide) (by decide) j (by omega), g2 55 (by decide) (by decide) j (by omega), g2 56 (by decide) (by decide) j (by omega), g2 57 (by decide) (by decide) j (by omega)]
            exact htb j (by omega)
      · rw [q2, bd_some, if_pos (show nI 0 = 0 from rfl), bnd]
        obtain ⟨F, rfl⟩ : ∃ G, F = G + 1 := ⟨F - 1, by omega⟩
        rw [fX5_line_L12, if_pos (show nI 0 = 0 from rfl)]
        exact hB e _ f1 (hau.symm.trans f2) (LF_tr hl (LF_tr g1 LF_14)) (by rw [setI1_eq, upd_ne (by decide)]; exact g3)
    rw [fX5_line_L12, if_neg (by decide), bnd, h13, hcx.1]
    by_cases hpT : p < T
    · rw [if_pos (nI_lt hpT (by omega))]
      exact body (Or.inl hpT)
    · rw [if_neg (nI_nlt (by omega) (by omega)), h14]
      by_cases hk0 : k = 0
      · rw [if_pos (by rw [hk0]; rfl)]
        have : p = 0 := by rw [← sk, hk0]; exact s0
        exact body (Or.inr ⟨by omega, this⟩)
      · rw [if_neg (by rw [lit_0, nI_eq (by omega) (by decide)]; exact hk0)]
        have hpe : p = T := by omega
        refine hG k st x ⟨s0, by rw [sk]; exact hpe, by omega, by omega, sp⟩ ?_ hl h14 htb
        rw [← hau, hpe, Nat.sub_self, au, if_pos ⟨rfl, by omega⟩]
/-- doing the statements: what stays -/
def CF (μ ν : Mem) : Prop := (∀ a, a ≠ 47 → a ≠ 49 → a ≠ 50 → a ≠ 51 → ν.1 a = μ.1 a) ∧ ν.2 = μ.2 ∧ (∀ f, f ≠ 4 → f ≠ 5 → ν.1 47 f = μ.1 47 f)
theorem CF_rf {μ : Mem} : CF μ μ := ⟨fun _ _ _ _ _ => rfl, rfl, fun _ _ _ => rfl⟩
theorem CF_tr {μ ν ξ : Mem} (h1 : CF μ ν) (h2 : CF ν ξ) : CF μ ξ := ⟨fun a x1 x2 x3 x4 => (h2.1 a x1 x2 x3 x4).trans (h1.1 a x1 x2 x3 x4), h2.2.1.trans h1.2.1, fun f x1 x2 => (h2.2.2 f x1 x2).trans (h1.2.2 f x1 x2)⟩
theorem CF_PF {μ ν : Mem} (h : CF μ ν) : PF μ ν := ⟨fun a x1 x2 x3 x4 _ => h.1 a x1 x2 x3 x4, h.2.1, fun f x1 x2 _ _ => h.2.2 f x1 x2⟩
theorem p5_spells (hn : 200 ≤ n) (hk : Lok T ch) (ht : ∀ i, i < T → μ.1 52 i = nI (ch i)) {s k a S : Nat} (hs : s < 9) (hkk : k < 50) (h56 : μ.1 56 k = nI a) (h57 : μ.1 57 k = nI (a + S)) (hS : S ≤ 9) (hT : a + S ≤ T) (hL : ∀ j, j < S → 97 ≤ ch (a + j)) : Ok () (fun ν => ν.1 50 s = nI S ∧ (∀ j, j < S → ν.1 49 (10 * s + j) = nI (ch (a + j) - 97)) ∧ (∀ j, j ≠ s → ν.1 50 j = μ.1 50 j) ∧ (∀ j, (j < 10 * s ∨ 10 * s + 10 ≤ j) → ν.1 49 j = μ.1 49 j) ∧ (∀ b, b ≠ 49 → b ≠ 50 → ν.1 b = μ.1 b) ∧ ν.2 = μ.2) (fX5_spells n (nI s) (nI k) μ) := by
  have h96 := hk.1
  unfold fX5_spells
  rw [inb_nI hkk (by decide), inb_nI hs (by decide)]
  simp only [gd_true, bnd]
  rw [nI_clamp (by omega), nI_clamp (by omega), h56, h57, pk_sub (by omega), Nat.add_sub_cancel_left]
  refine loop_inv (fun F j x => fX5_spells_L21 n (nI s) (nI k) F (nI j) x) (fun j x => x.1 50 s = nI S ∧ (∀ l, l < j → x.1 49 (10 * s + l) = nI (ch (a + l) - 97)) ∧ (∀ l, l ≠ s → x.1 50 l = μ.1 50 l) ∧ (∀ l, (l < 10 * s ∨ 10 * s + 10 ≤ l) → x.1 49 l = μ.1 49 l) ∧ (∀ b, b ≠ 49 → b ≠ 50 → x.1 b = μ.1 b) ∧ x.2 = μ.2) _ S ?_ ?_ n 0 _ ⟨by rw [setI1_eq, upd_eq], fun l hl => by omega, fun l hl => by rw [setI1_eq, upd_ne hl], fun l hl => by rw [setI1_ne (by decide)], fun b h1 h2 => setI1_ne h2, rfl⟩ (by omega) (by omega)
  · intro F x ⟨g1, g2, g3, g4, g5, g6⟩
    rw [fX5_spells_L21, inb_nI hs (by decide), gd_true, nI_clamp (by omega), g1, if_pos (nI_le (Nat.le_refl _) (by omega))]
    exact ⟨x, rfl, g1, g2, g3, g4, g5, g6⟩
  · intro F j x hj ⟨g1, g2, g3, g4, g5, g6⟩ ih
    have hlj := hL j hj
    have hcj := hk.2 (a + j) (by omega)
    rw [fX5_spells_L21, inb_nI hs (by decide), gd_true, nI_clamp (by omega), g1, if_neg (by rw [nI_leI (by omega) (by omega)]; omega), inb_nI hkk (by decide), gd_true, nI_clamp (by omega), g5 56 (by decide) (by decide), h56, nI_add, inb_nI (by omega) (by decide), gd_true, lit_10, pk_mul, nI_add, inb_nI (by omega) (by decide), gd_true, nI_clamp (by omega), nI_clamp (by omega), g5 52 (by decide) (by decide), ht (a + j) (by omega), show (97 : Int32) = nI 97 from rfl, pk_sub hlj, bnd, bnd, nI_1]
    refine ih _ ⟨by rw [setI1_ne (by decide)]; exact g1, fun l hl => ?_, fun l hl => by rw [setI1_ne (by decide)]; exact g3 l hl, fun l hl => by rw [setI1_eq, upd_ne (by omega)]; exact g4 l hl, fun b h1 h2 => by rw [setI1_ne h1]; exact g5 b h1 h2, g6⟩
    rw [setI1_eq, upd_get]
    by_cases e : l = j
    · rw [if_pos (by omega), e]
    · rw [if_neg (by omega)]; exact g2 l (by omega)
theorem p5_comes (hn : 200 ≤ n) (hk : Lok T ch) {v : Vw} (hv : V9 v) (hc : MV v μ) (ht : ∀ i, i < T → μ.1 52 i = nI (ch i)) {p q k : Nat} (hkk : k < 50) (hsp : SP T ch p q) (htb : TB1 ch p q k μ) : match ob ch v p q with | none => fX5_comes n (nI k) μ = some (nI 0, μ) | some w => Ok (nI 1) (fun ν => MV w ν ∧ CF μ ν) (fX5_comes n (nI k) μ) := by
  have h8 := hv.1.1
  have h96 := hk.1
  obtain ⟨s1, s2, s3, s4, s5⟩ := hsp
  obtain ⟨t1, t2, t3, t4, t5⟩ := htb
  have hcp := hk.2 p (by omega)
  have name : (ch p = 115 ∨ ch p = 110) → p + 5 ≤ q ∧ q ≤ p + 13 ∧ ∀ j, j < q - 1 - (p + 3) → 97 ≤ ch (p + 3 + j) ∧ ch (p + 3 + j) ≤ 122 := by
    intro hb
    rcases s5 with ⟨u1, -⟩ | ⟨-, -, u3, u4, u5⟩
    · omega
    · exact ⟨u3, u4, fun j hj => u5 (p + 3 + j) (by omega) (by omega)⟩
  unfold fX5_comes ob
  rw [inb_nI hkk (by decide), gd_true, nI_clamp (by omega), t1]
  simp only [bnd]
  have e110 : nI (ch p) = 110 ↔ ch p = 110 := nI_eq (b := 110) (by omega) (by decide)
  have e115 : nI (ch p) = 115 ↔ ch p = 115 := nI_eq (b := 115) (by omega) (by decide)
  have e114 : nI (ch p) = 114 ↔ ch p = 114 := nI_eq (b := 114) (by omega) (by decide)
  by_cases h1 : ch p = 115
  · obtain ⟨f1, f2, f3⟩ := name (Or.inl h1)
    obtain ⟨t56, t57⟩ := t5 (Or.inl h1)
    rw [if_pos h1, if_neg (show ¬ nI (ch p) = 110 from fun x => by rw [e110] at x; omega), if_pos (show nI (ch p) = 115 from e115.mpr h1), hc.1]
    by_cases hN : 8 ≤ vN v
    · rw [if_pos hN, if_pos (by rw [show vN v = 8 by omega]; rfl)]
      rfl
    · rw [if_neg hN, if_neg (by rw [lit_8, nI_eq (by omega) (by decide)]; omega), gd_true, inb_nI (by omega) (by decide), gd_true, nI_clamp (by omega), t3 h1, setI1_ne (by decide), hc.1]
      obtain ⟨s', q', g1, g2, g3, g4, g5, g6⟩ := p5_spells (μ := setI μ 51 (vN v) (nI (kn (ch (p + 1))))) hn hk (fun i hi => by rw [setI1_ne (by decide)]; exact ht i hi) (s := vN v) (k := k) (a := p + 3) (S := q - 1 - (p + 3)) (by omega) hkk (by rw [setI1_ne (by decide)]; exact t56) (by rw [setI1_ne (by decide), t57]; congr 1; omega) (by omega) (by omega) (fun j hj => (f3 j hj).1)
      rw [q', bd_some, g5 47 (by decide) (by decide), setI1_ne (by decide), hc.1, nI_1]
      have hset : ∀ b, b ≠ 47 → (setI s' 47 4 (nI (vN v + 1))).1 b = s'.1 b := fun b hb => setI1_ne hb
      refine ⟨_, rfl, ⟨by rw [setI1_eq, upd_eq]; rfl, by rw [setI1_eq, upd_ne (by decide), g5 47 (by decide) (by decide), setI1_ne (by decide)]; exact hc.2.1, fun j hj => ?_⟩, ⟨fun b x1 x2 x3 x4 => by rw [hset b x1, g5 b x2 x3, setI1_ne x4], g6, fun f x1 x2 => by rw [setI1_eq, upd_ne x1, g5 47 (by decide) (by decide), setI1_ne (by decide)]⟩⟩
      have hj : j < vN v + 1 := hj
      show (setI s' 47 4 _).1 51 j = nI (if j = vN v then _ else kd v j) ∧ (setI s' 47 4 _).1 50 j = nI (if j = vN v then _ else sz v j) ∧ ∀ l, l < (if j = vN v then _ else sz v j) → (setI s' 47 4 _).1 49 (10 * j + l) = nI (if j = vN v then _ else nm v j l)
      rw [hset 51 (by decide), hset 50 (by decide), hset 49 (by decide), g5 51 (by decide) (by decide), setI1_eq, upd_get]
      by_cases e : j = vN v
      · rw [if_pos e, if_pos e, if_pos e, e]
        refine ⟨rfl, g1, fun l hl => ?_⟩
        rw [if_pos rfl]
        exact g2 l hl
      · have hjj : j < vN v := by omega
        obtain ⟨r1, r2, r3⟩ := hc.2.2 j hjj
        have hsj := hv.2 j hjj
        rw [if_neg e, if_neg e, if_neg e, g3 j e, setI1_ne (by decide)]
        refine ⟨r1, r2, fun l hl => ?_⟩
        rw [if_neg e]
        rw [g4 _ (by omega), setI1_ne (by decide)]
        exact r3 l hl
  · rw [if_neg h1]
    by_cases h2 : ch p = 110
    · obtain ⟨f1, f2, f3⟩ := name (Or.inr h2)
      obtain ⟨t56, t57⟩ := t5 (Or.inr h2)
      rw [if_pos h2, if_pos (e110.mpr h2), gd_true, t4 h2]
      by_cases hw : ch (p + 1) - 48 < vN v
      · rw [if_pos hw, p5_is_t hv.1 hc hw, bd_some, if_neg (by decide), gd_true, t4 h2]
        obtain ⟨s', q', g1, g2, g3, g4, g5, g6⟩ := p5_spells (μ := μ) hn hk ht (s := ch (p + 1) - 48) (k := k) (a := p + 3) (S := q - 1 - (p + 3)) (by omega) hkk t56 (by rw [t57]; congr 1; omega) (by omega) (by omega) (fun j hj => (f3 j hj).1)
        rw [q', bd_some]
        refine ⟨_, rfl, ⟨by rw [g5 47 (by decide) (by decide)]; exact hc.1, by rw [g5 47 (by decide) (by decide)]; exact hc.2.1, fun j hj => ?_⟩, ⟨fun b x1 x2 x3 x4 => g5 b x2 x3, g6, fun f x1 x2 => by rw [g5 47 (by decide) (by decide)]⟩⟩
        have hj : j < vN v := hj
        obtain ⟨r1, r2, r3⟩ := hc.2.2 j hj
        have hsj := hv.2 j hj
        show s'.1 51 j = nI (kd v j) ∧ s'.1 50 j = nI (if j = ch (p + 1) - 48 then _ else sz v j) ∧ ∀ l, l < (if j = ch (p + 1) - 48 then _ else sz v j) → s'.1 49 (10 * j + l) = nI (if j = ch (p + 1) - 48 then _ else nm v j l)
        rw [g5 51 (by decide) (by decide)]
        by_cases e : j = ch (p + 1) - 48
        · rw [if_pos e]
          refine ⟨r1, by rw [e]; exact g1, fun l hl => ?_⟩
          rw [if_pos e, e]
          exact g2 l hl
        · rw [if_neg e, g3 j e]
          refine ⟨r1, r2, fun l hl => ?_⟩
          rw [if_neg e, g4 _ (by omega)]
          exact r3 l hl
      · rw [if_neg hw, p5_is_f hv.1 hc (by
          rintro ⟨j, hj, e⟩
          have := hk.2 (p + 1) (by omega)
          rw [nI_eq (by omega) (by omega)] at e
          omega), bd_some, if_pos (show nI 0 = 0 from rfl)]
        rfl
    · rw [if_neg h2, if_neg (fun x => h2 (e110.mp x)), if_neg (fun x => h1 (e115.mp x)), gd_true]
      have fin : ∀ r, MV (rgv v r) (setI μ 47 5 (nI r)) ∧ CF μ (setI μ 47 5 (nI r)) := fun r => ⟨⟨by rw [setI1_eq, upd_ne (by decide)]; exact hc.1, by rw [setI1_eq, upd_eq]; rfl, fun j hj => by rw [setI1_ne (by decide), setI1_ne (by decide), setI1_ne (by decide)]; exact hc.2.2 j hj⟩, ⟨fun b x1 _ _ _ => setI1_ne x1, rfl, fun f x1 x2 => by rw [setI1_eq, upd_ne x2]⟩⟩
      by_cases h3 : ch p = 114
      · rw [if_pos h3, if_pos (e114.mpr h3)]
        exact ⟨_, rfl, fin 1⟩
      · rw [if_neg h3, if_neg (fun x => h3 (e114.mp x))]
        exact ⟨_, rfl, fin 0⟩
end PLN
