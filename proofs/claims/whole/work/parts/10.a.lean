/-! ===== reachability, in bits ===== -/
theorem tb_lt {x N j : Nat} (h : x < 2 ^ N) (hj : x.testBit j = true) : j < N := by
  rcases Nat.lt_or_ge j N with q | q
  · exact q
  · have h1 : x < 2 ^ j := Nat.lt_of_lt_of_le h (Nat.pow_le_pow_right (by decide) q)
    rw [Nat.testBit_lt_two_pow h1] at hj
    cases hj
theorem tb_ext {x y N : Nat} (hx : x < 2 ^ N) (hy : y < 2 ^ N) (h : ∀ j, j < N → (x.testBit j = true ↔ y.testBit j = true)) : x = y := by
  apply Nat.eq_of_testBit_eq
  intro j
  apply Bool.eq_iff_iff.mpr
  constructor
  · intro q; exact (h j (tb_lt hx q)).mp q
  · intro q; exact (h j (tb_lt hy q)).mpr q
def gor (R : Nat → Nat) (S : Nat) : Nat → Nat
  | 0 => 0
  | i + 1 => gor R S i ||| (if S.testBit i then R i else 0)
theorem gor_tb {R : Nat → Nat} {S j : Nat} : ∀ {n : Nat}, (gor R S n).testBit j = true ↔ ∃ i, i < n ∧ S.testBit i = true ∧ (R i).testBit j = true
  | 0 => by simp [gor]
  | n + 1 => by
    rw [gor, Nat.testBit_or, Bool.or_eq_true, gor_tb]
    constructor
    · rintro (⟨i, h1, h2⟩ | h)
      · exact ⟨i, by omega, h2⟩
      · by_cases q : S.testBit n = true
        · rw [if_pos q] at h; exact ⟨n, by omega, q, h⟩
        · rw [if_neg q] at h; simp at h
    · rintro ⟨i, h1, h2, h3⟩
      by_cases q : i = n
      · subst q; right; rw [if_pos h2]; exact h3
      · left; exact ⟨i, by omega, h2, h3⟩
theorem gor_lt {R : Nat → Nat} {S N : Nat} : ∀ {n : Nat}, (∀ i, i < n → R i < 2 ^ N) → gor R S n < 2 ^ N
  | 0, _ => Nat.pow_pos (by decide)
  | n + 1, h => by
    rw [gor]
    refine Nat.or_lt_two_pow (gor_lt (fun i hi => h i (by omega))) ?_
    split
    · exact h n (by omega)
    · exact Nat.pow_pos (by decide)
/-- all to which one can come by at most so many rides -/
def itr (N : Nat) (R : Nat → Nat) (s : Nat) : Nat → Nat
  | 0 => 2 ^ s
  | k + 1 => itr N R s k ||| gor R (itr N R s k) N
section RC
variable {N : Nat} {R : Nat → Nat}
theorem itr_lt (hR : ∀ i, i < N → R i < 2 ^ N) {s : Nat} (hs : s < N) : ∀ k, itr N R s k < 2 ^ N
  | 0 => Nat.pow_lt_pow_right (by decide) hs
  | k + 1 => Nat.or_lt_two_pow (itr_lt hR hs k) (gor_lt hR)
theorem itr_self (s : Nat) : ∀ k, (itr N R s k).testBit s = true
  | 0 => by rw [itr, Nat.testBit_two_pow]; simp
  | k + 1 => by rw [itr, Nat.testBit_or, itr_self s k]; rfl
theorem itr_up {s j k : Nat} (h : (itr N R s k).testBit j = true) : (itr N R s (k + 1)).testBit j = true := by rw [itr, Nat.testBit_or, h]; rfl
theorem itr_mono {s j k : Nat} (h : (itr N R s k).testBit j = true) : ∀ d, (itr N R s (k + d)).testBit j = true
  | 0 => h
  | d + 1 => itr_up (itr_mono h d)
theorem itr_step {s k a b : Nat} (ha : a < N) (h : (itr N R s k).testBit a = true) (hb : (R a).testBit b = true) : (itr N R s (k + 1)).testBit b = true := by
  rw [itr, Nat.testBit_or, gor_tb.mpr ⟨a, ha, h, hb⟩, Bool.or_true]
theorem ct_lt {p q : Nat → Bool} : ∀ {n : Nat}, (∀ k, k < n → p k = true → q k = true) → (∃ j, j < n ∧ p j = false ∧ q j = true) → fb_ct p n < fb_ct q n
  | 0, _, h => by obtain ⟨j, h, -⟩ := h; omega
  | n + 1, hs, h => by
    obtain ⟨j, h1, h2, h3⟩ := h
    rw [fb_ct_succ, fb_ct_succ]
    by_cases hj : j = n
    · subst hj
      have := fb_ct_sub (p := p) (q := q) (n := j) (fun k hk => hs k (by omega))
      rw [h2, h3]
      simp
      omega
    · have := ct_lt (p := p) (q := q) (n := n) (fun k hk => hs k (by omega)) ⟨j, by omega, h2, h3⟩
      have h4 := hs n (by omega)
      by_cases q1 : p n = true
      · rw [q1, h4 q1]; omega
      · rw [if_neg q1]; omega
theorem itr_new (hR : ∀ i, i < N → R i < 2 ^ N) {s : Nat} (hs : s < N) : ∀ k, itr N R s (k + 1) ≠ itr N R s k → k + 2 ≤ fb_ct (itr N R s (k + 1)).testBit N := by
  have grow : ∀ k, itr N R s (k + 1) ≠ itr N R s k → fb_ct (itr N R s k).testBit N < fb_ct (itr N R s (k + 1)).testBit N := by
    intro k hk
    refine ct_lt (fun j _ h => itr_up h) ?_
    apply Classical.byContradiction
    intro hn
    refine hk (tb_ext (itr_lt hR hs _) (itr_lt hR hs _) (fun j hj => ⟨fun h => ?_, itr_up⟩))
    cases hq : (itr N R s k).testBit j with
    | true => rfl
    | false => exact absurd ⟨j, hj, hq, h⟩ hn
  intro k
  induction k with
  | zero =>
    intro h
    have h1 := grow 0 h
    have h2 : 0 < fb_ct (itr N R s 0).testBit N := fb_ct_pos.mpr ⟨s, hs, itr_self s 0⟩
    omega
  | succ k ih =>
    intro h
    have h1 := grow (k + 1) h
    have h2 : itr N R s (k + 1) ≠ itr N R s k := by
      intro e
      apply h
      show itr N R s (k + 1) ||| gor R (itr N R s (k + 1)) N = itr N R s (k + 1)
      rw [e]
      exact e
    have := ih h2
    omega
theorem itr_stop (hR : ∀ i, i < N → R i < 2 ^ N) {s : Nat} (hs : s < N) {k : Nat} (hk : N ≤ k + 1) : itr N R s (k + 1) = itr N R s k := by
  apply Classical.byContradiction
  intro h
  have h1 := itr_new hR hs k h
  have h2 := fb_ct_le (itr N R s (k + 1)).testBit N
  omega
theorem itr_fix (hR : ∀ i, i < N → R i < 2 ^ N) {s : Nat} (hs : s < N) {k : Nat} (hk : N ≤ k + 1) : ∀ d, itr N R s (k + d) = itr N R s k
  | 0 => rfl
  | d + 1 => (itr_stop hR hs (k := k + d) (by omega)).trans (itr_fix hR hs hk d)
/-- all to which one can come -/
abbrev cl (N : Nat) (R : Nat → Nat) (s : Nat) : Nat := itr N R s N
theorem cl_step (hR : ∀ i, i < N → R i < 2 ^ N) {s a b : Nat} (hs : s < N) (ha : a < N) (h : (cl N R s).testBit a = true) (hb : (R a).testBit b = true) : (cl N R s).testBit b = true := by
  have h1 := itr_step ha h hb
  rwa [itr_stop hR hs (by omega)] at h1
theorem cl_trans (hR : ∀ i, i < N → R i < 2 ^ N) {i j l : Nat} (hi : i < N) (hj : j < N) (h : (cl N R i).testBit j = true) (h2 : (cl N R j).testBit l = true) : (cl N R i).testBit l = true := by
  have key : ∀ k l, (itr N R j k).testBit l = true → (cl N R i).testBit l = true := by
    intro k
    induction k with
    | zero =>
      intro l hl
      rw [itr, Nat.testBit_two_pow] at hl
      rw [← of_decide_eq_true hl]
      exact h
    | succ k ih =>
      intro l hl
      rw [itr, Nat.testBit_or, Bool.or_eq_true] at hl
      rcases hl with hl | hl
      · exact ih l hl
      · obtain ⟨a, h3, h4, h5⟩ := gor_tb.mp hl
        exact cl_step hR hi h3 (ih a h4) h5
  exact key N l h2
def wrow (m : Nat) (w : Nat → Nat) (i : Nat) : Nat := if (w i).testBit m then w i ||| w m else w i
/-- the class's own way: over one station after another -/
def wsh (R : Nat → Nat) : Nat → Nat → Nat
  | 0 => fun i => R i ||| 2 ^ i
  | m + 1 => wrow m (wsh R m)
theorem wrow_tb {m i j : Nat} {w : Nat → Nat} : (wrow m w i).testBit j = true ↔ (w i).testBit j = true ∨ ((w i).testBit m = true ∧ (w m).testBit j = true) := by
  unfold wrow
  by_cases h : (w i).testBit m = true
  · rw [if_pos h, Nat.testBit_or, Bool.or_eq_true]; simp [h]
  · rw [if_neg h]; simp [h]
theorem wsh_lt (hR : ∀ i, i < N → R i < 2 ^ N) : ∀ m, m ≤ N → ∀ i, i < N → wsh R m i < 2 ^ N
  | 0, _, i, hi => Nat.or_lt_two_pow (hR i hi) (Nat.pow_lt_pow_right (by decide) hi)
  | m + 1, hm, i, hi => by
    show wrow m (wsh R m) i < 2 ^ N
    unfold wrow
    split
    · exact Nat.or_lt_two_pow (wsh_lt hR m (by omega) i hi) (wsh_lt hR m (by omega) m (by omega))
    · exact wsh_lt hR m (by omega) i hi
theorem wsh_sound (hR : ∀ i, i < N → R i < 2 ^ N) : ∀ m, m ≤ N → ∀ i, i < N → ∀ j, (wsh R m i).testBit j = true → (cl N R i).testBit j = true
  | 0, _, i, hi, j, h => by
    rw [wsh, Nat.testBit_or, Bool.or_eq_true] at h
    rcases h with h | h
    · exact cl_step hR hi hi (itr_self i N) h
    · rw [Nat.testBit_two_pow] at h
      rw [← of_decide_eq_true h]
      exact itr_self i N
  | m + 1, hm, i, hi, j, h => by
    rcases wrow_tb.mp h with h | ⟨h1, h2⟩
    · exact wsh_sound hR m (by omega) i hi j h
    · exact cl_trans hR hi (by omega) (wsh_sound hR m (by omega) i hi m h1) (wsh_sound hR m (by omega) m (by omega) j h2)
theorem wsh_closed : ∀ (m i o j : Nat), o < m → (wsh R m i).testBit o = true → (wsh R m o).testBit j = true → (wsh R m i).testBit j = true
  | 0, i, o, j, ho, _, _ => by omega
  | m + 1, i, o, j, ho, h1, h2 => by
    have ih := fun i o j => wsh_closed m i o j
    have h1' := wrow_tb.mp h1
    have h2' := wrow_tb.mp h2
    refine wrow_tb.mpr ?_
    by_cases hm : o = m
    · subst hm
      have h3 : (wsh R o i).testBit o = true := by rcases h1' with h | ⟨h, -⟩ <;> exact h
      right
      refine ⟨h3, ?_⟩
      rcases h2' with h | ⟨-, h⟩ <;> exact h
    · have ho2 : o < m := by omega
      rcases h1' with h1' | ⟨h1', h1b⟩ <;> rcases h2' with h2' | ⟨h2', h2b⟩
      · left; exact ih i o j ho2 h1' h2'
      · right; exact ⟨ih i o m ho2 h1' h2', h2b⟩
      · right; exact ⟨h1', ih m o j ho2 h1b h2'⟩
      · right; exact ⟨h1', h2b⟩
theorem wsh_up {i j : Nat} (h : (wsh R 0 i).testBit j = true) : ∀ m, (wsh R m i).testBit j = true
  | 0 => h
  | m + 1 => wrow_tb.mpr (Or.inl (wsh_up h m))
theorem wsh_cl (hR : ∀ i, i < N → R i < 2 ^ N) {i : Nat} (hi : i < N) : wsh R N i = cl N R i := by
  refine tb_ext (wsh_lt hR N (Nat.le_refl _) i hi) (itr_lt hR hi N) (fun j _ => ⟨wsh_sound hR N (Nat.le_refl _) i hi j, ?_⟩)
  have key : ∀ k l, (itr N R i k).testBit l = true → (wsh R N i).testBit l = true := by
    intro k
    induction k with
    | zero =>
      intro l hl
      rw [itr] at hl
      exact wsh_up (by rw [wsh, Nat.testBit_or, hl, Bool.or_true]) N
    | succ k ih =>
      intro l hl
      rw [itr, Nat.testBit_or, Bool.or_eq_true] at hl
      rcases hl with hl | hl
      · exact ih l hl
      · obtain ⟨a, h3, h4, h5⟩ := gor_tb.mp hl
        exact wsh_closed N i a l h3 (ih a h4) (wsh_up (by rw [wsh, Nat.testBit_or, h5, Bool.true_or]) N)
  exact key N j
end RC
