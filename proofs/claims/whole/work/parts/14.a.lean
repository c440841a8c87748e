/-! ===== a line is read: the class's states, the model's statements ===== -/
def kn (c : Nat) : Nat := if c = 115 then 0 else if c = 102 then 1 else if c = 118 then 2 else if c = 106 then 3 else if c = 101 then 4 else if c = 108 then 5 else 9
def kni (c : Nat) : Int32 := if kn c < 6 then nI (kn c) else -1
/-- the class's next state; none a fault -/
def nx (s c : Nat) : Option Nat :=
  if s = 0 then (if c = 115 then some 1 else if c = 110 then some 2 else if c = 114 ∨ c = 111 then some 4 else none)
  else if s = 1 then (if kn c < 6 then some 3 else none)
  else if s = 2 then (if 48 ≤ c ∧ c ≤ 57 then some 3 else none)
  else if s = 3 then (if c = 61 then some 10 else none)
  else if s = 4 then (if c = 59 then some 0 else none)
  else if c = 59 then (if 10 < s then some 0 else none)
  else if 97 ≤ c ∧ c ≤ 122 ∧ s < 19 then some (s + 1) else none
def nxi (s c : Nat) : Int32 := match nx s c with | none => -1 | some t => nI t
/-- the first fault from a place on, in a state -/
def au (T : Nat) (ch : Nat → Nat) : Nat → Nat → Nat → Option Nat
  | 0, s, _ => if s = 0 ∧ 0 < T then none else some T
  | d + 1, s, p => match nx s (ch p) with | none => some p | some t => au T ch d t (p + 1)
def aui (o : Option Nat) : Int32 := match o with | none => -1 | some e => nI e
theorem kix_eq : ∀ c, c < 256 → kix (nI c) = kni c := by decide +kernel
section PR
variable {n : Nat} {μ : Mem}
theorem p2_kindOf {c : Nat} (h : c < 256) : fX2_kindOf n (nI c) μ = some (kni c, μ) := by
  unfold fX2_kindOf
  rw [if_neg (nI_pos (by omega)), if_neg (by rw [lit_255, nI_ltI (by decide) (by omega)]; omega), kix_eq c h]
theorem p5_kindOf {c : Nat} (h : c < 256) : fX5_kindOf n (nI c) μ = some (kni c, μ) := by
  unfold fX5_kindOf kni kn
  simp only [bnd]
  have e : ∀ k : Nat, k < 256 → (nI c = nI k ↔ c = k) := fun k hk => nI_eq (by omega) (by omega)
  have e1 := e 101 (by decide)
  have e2 := e 102 (by decide)
  have e3 := e 106 (by decide)
  have e4 := e 108 (by decide)
  have e5 := e 115 (by decide)
  have e6 := e 118 (by decide)
  rw [show nI 101 = 101 from rfl] at e1
  rw [show nI 102 = 102 from rfl] at e2
  rw [show nI 106 = 106 from rfl] at e3
  rw [show nI 108 = 108 from rfl] at e4
  rw [show nI 115 = 115 from rfl] at e5
  rw [show nI 118 = 118 from rfl] at e6
  simp only [e1, e2, e3, e4, e5, e6]
  by_cases h1 : c = 101
  · subst h1; rfl
  by_cases h2 : c = 102
  · subst h2; rfl
  by_cases h3 : c = 106
  · subst h3; rfl
  by_cases h4 : c = 108
  · subst h4; rfl
  by_cases h5 : c = 115
  · subst h5; rfl
  by_cases h6 : c = 118
  · subst h6; rfl
  simp only [h1, h2, h3, h4, h5, h6, if_false]
  rfl
def bgE (a0 : Int32) : Int32 := if a0 = 115 then 1 else if a0 = 110 then 2 else if a0 = 114 then 4 else if a0 = 111 then 4 else -1
def nmE (a0 a1 : Int32) : Int32 := if a1 = 59 then if a0 ≤ 10 then -1 else 0 else if a1 < 97 then -1 else if 122 < a1 then -1 else if 19 ≤ a0 then -1 else a0 + 1
def ntE (a0 a1 : Int32) : Int32 := if a0 = 0 then bgE a1 else if a0 = 1 then (if kix a1 < 0 then -1 else 3) else if a0 = 2 then (if a1 < 48 then -1 else if 57 < a1 then -1 else 3) else if a0 = 3 then (if a1 = 61 then 10 else -1) else if a0 = 4 then (if a1 = 59 then 0 else -1) else nmE a0 a1
theorem p2_begun (a : Int32) : fX2_begun n a μ = some (bgE a, μ) := by
  unfold fX2_begun bgE
  repeat' split
  all_goals rfl
theorem p2_named (a b : Int32) : fX2_named n a b μ = some (nmE a b, μ) := by
  unfold fX2_named nmE
  simp only [bnd]
  have t0 : ((0 : Int32) = 0) := rfl
  have t1 : ¬ ((1 : Int32) = 0) := by decide
  simp only [t1, if_true, if_false]
  repeat' split
  all_goals rfl
theorem nt_tab : ∀ s, s < 20 → (s ≤ 4 ∨ 10 ≤ s) → ∀ c, c < 256 → ntE (nI s) (nI c) = nxi s c := by decide +kernel
theorem p2_next {s c : Nat} (hs : s ≤ 4 ∨ (10 ≤ s ∧ s ≤ 19)) (h : c < 256) : fX2_next n (nI s) (nI c) μ = some (nxi s c, μ) := by
  rw [← nt_tab s (by omega) (by omega) c h]
  unfold fX2_next ntE
  simp only [bnd]
  have hk : fX2_kindOf n (nI c) μ = some (kix (nI c), μ) := by rw [p2_kindOf h, kix_eq c h]
  rw [p2_begun, p2_named, hk]
  simp only [bd_some]
  repeat' split
  all_goals rfl
theorem nx_range {s c t : Nat} (hs : s ≤ 4 ∨ (10 ≤ s ∧ s ≤ 19)) (h : nx s c = some t) : t ≤ 4 ∨ (10 ≤ t ∧ t ≤ 19) := by
  unfold nx at h
  repeat' split at h
  all_goals first | (cases h; omega) | cases h
def LC (T : Nat) (ch : Nat → Nat) (μ : Mem) : Prop := μ.1 38 1 = nI T ∧ ∀ i, i < T → μ.1 39 i = nI (ch i)
def Lok (T : Nat) (ch : Nat → Nat) : Prop := T ≤ 96 ∧ ∀ i, i < T → ch i < 256
theorem p2_first (hn : 200 ≤ n) {T : Nat} {ch : Nat → Nat} (hk : Lok T ch) (hc : LC T ch μ) : fX2_firstUnreadable n μ = some (aui (au T ch T 0 0), μ) := by
  have h96 := hk.1
  refine loop_inv (fun F i s => fX2_firstUnreadable_L4 n F (nI s) (nI i) μ) (fun i s => (s ≤ 4 ∨ (10 ≤ s ∧ s ≤ 19)) ∧ au T ch (T - i) s i = au T ch T 0 0) (fun o => o = some (aui (au T ch T 0 0), μ)) T ?_ ?_ n 0 0 ⟨Or.inl (by omega), rfl⟩ (by omega) (by omega)
  · intro F s ⟨h1, h2⟩
    rw [Nat.sub_self, au] at h2
    rw [fX2_firstUnreadable_L4, hc.1, if_pos (nI_le (Nat.le_refl _) (by omega))]
    by_cases h0 : s = 0
    · rw [if_pos (by rw [h0]; rfl)]
      by_cases hT : T = 0
      · rw [if_neg (by omega)] at h2
        rw [if_pos (by rw [hT]; decide), ← h2]
        rfl
      · rw [if_pos ⟨h0, by omega⟩] at h2
        rw [if_neg (by rw [lit_0, nI_leI (by omega) (by decide)]; omega), ← h2]
        rfl
    · rw [if_neg (fun q => h0 q.1)] at h2
      rw [if_neg (by rw [lit_0, nI_eq (by omega) (by decide)]; exact h0), ← h2]
      rfl
  · intro F i s hi ⟨h1, h2⟩ ih
    rw [show T - i = (T - (i + 1)) + 1 by omega, au] at h2
    rw [fX2_firstUnreadable_L4, hc.1, if_neg (by rw [nI_leI (by omega) (by omega)]; omega), inb_nI (by omega) (by decide), gd_true, nI_clamp (by omega), hc.2 i hi, p2_next h1 (hk.2 i hi), bd_some]
    unfold nxi
    cases hx : nx s (ch i) with
    | none =>
      rw [hx] at h2
      rw [if_pos rfl, ← h2]
      rfl
    | some t =>
      rw [hx] at h2
      have ht := nx_range h1 hx
      have hm : ¬ nI t = -1 := by
        intro q
        have := congrArg Int32.toInt q
        rw [nI_toInt (by omega)] at this
        have h9 : (-1 : Int32).toInt = -1 := by decide
        omega
      rw [if_neg hm, bnd, nI_1]
      exact ih t ⟨ht, h2⟩
end PR
