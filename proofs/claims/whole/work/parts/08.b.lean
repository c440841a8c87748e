/-! ===== numbers and loops, for the functions ===== -/
theorem bd_some {ρ σ : Type} (r : ρ) (μ : Mem) (z : ρ → Mem → Option (σ × Mem)) : bd (some (r, μ)) z = z r μ := rfl
theorem gd_true {α : Type} (X : Option α) : gd true X = X := rfl
theorem inb_nI {i N : Nat} (h : i < N) (hN : N < 2 ^ 31) : inb (nI i) N = true := decide_eq_true (vp_in_nI h hN)
theorem lit_0 : (0 : Int32) = nI 0 := rfl
theorem lit_1 : (1 : Int32) = nI 1 := rfl
theorem lit_2 : (2 : Int32) = nI 2 := rfl
theorem lit_3 : (3 : Int32) = nI 3 := rfl
theorem lit_4 : (4 : Int32) = nI 4 := rfl
theorem lit_5 : (5 : Int32) = nI 5 := rfl
theorem lit_7 : (7 : Int32) = nI 7 := rfl
theorem lit_8 : (8 : Int32) = nI 8 := rfl
theorem lit_9 : (9 : Int32) = nI 9 := rfl
theorem lit_10 : (10 : Int32) = nI 10 := rfl
theorem lit_12 : (12 : Int32) = nI 12 := rfl
theorem lit_14 : (14 : Int32) = nI 14 := rfl
theorem lit_20 : (20 : Int32) = nI 20 := rfl
theorem lit_31 : (31 : Int32) = nI 31 := rfl
theorem lit_60 : (60 : Int32) = nI 60 := rfl
theorem lit_96 : (96 : Int32) = nI 96 := rfl
theorem lit_99 : (99 : Int32) = nI 99 := rfl
theorem lit_255 : (255 : Int32) = nI 255 := rfl
theorem loop_inv {σ β : Type} (L : Nat → Nat → σ → β) (P : Nat → σ → Prop) (R : β → Prop) (e : Nat) (hstop : ∀ F s, P e s → R (L (F + 1) e s)) (hstep : ∀ F i s, i < e → P i s → (∀ s', P (i + 1) s' → R (L F (i + 1) s')) → R (L (F + 1) i s)) : ∀ (F i : Nat) (s : σ), P i s → i ≤ e → e < F + i → R (L F i s)
  | 0, i, s, _, h1, h2 => by omega
  | F + 1, i, s, hp, h1, h2 => by
    by_cases h : i = e
    · subst h; exact hstop F s hp
    · exact hstep F i s (by omega) hp (fun s' hp' => loop_inv L P R e hstop hstep F (i + 1) s' hp' (by omega) (by omega))
theorem jrem_nI {a d : Nat} (ha : a < 2 ^ 31) (h0 : 0 < d) (hd : d < 2 ^ 31) : jrem (nI a) (nI d) = nI (a % d) := pk_rem ha h0 hd
theorem nz_nI {d : Nat} (h0 : 0 < d) (hd : d < 2 ^ 31) : nz (nI d) = true := decide_eq_true (nI_ne0 h0 hd)
theorem jshl1 : ∀ i, i < 31 → jshl 1 (nI i) = nI (2 ^ i) := by decide +kernel
theorem jshl1' {i : Nat} (h : i < 31) : jshl (nI 1) (nI i) = nI (2 ^ i) := jshl1 i h
theorem setI1_eq {μ : Mem} {a k : Nat} {v : Int32} : (setI μ a k v).1 a = upd (μ.1 a) k v := by simp [setI]
theorem setI1_ne {μ : Mem} {a b k : Nat} {v : Int32} (h : b ≠ a) : (setI μ a k v).1 b = μ.1 b := by simp [setI, h]
theorem setI2 {μ : Mem} {a k : Nat} {v : Int32} : (setI μ a k v).2 = μ.2 := rfl
theorem setJ2_eq {μ : Mem} {a k : Nat} {v : Int64} : (setJ μ a k v).2 a = vp_updL (μ.2 a) k v := by simp [setJ]
theorem setJ2_ne {μ : Mem} {a b k : Nat} {v : Int64} (h : b ≠ a) : (setJ μ a k v).2 b = μ.2 b := by simp [setJ, h]
theorem setJ1 {μ : Mem} {a k : Nat} {v : Int64} : (setJ μ a k v).1 = μ.1 := rfl
theorem upd_eq {f : Nat → Int32} {k : Nat} {x : Int32} : upd f k x k = x := by simp [upd]
theorem upd_ne {f : Nat → Int32} {k j : Nat} {x : Int32} (h : j ≠ k) : upd f k x j = f j := by simp [upd, h]
theorem updL_eq {f : Nat → Int64} {k : Nat} {x : Int64} : vp_updL f k x k = x := by simp [vp_updL]
theorem updL_ne {f : Nat → Int64} {k j : Nat} {x : Int64} (h : j ≠ k) : vp_updL f k x j = f j := by simp [vp_updL, h]
theorem jshr_and1 {b i : Nat} (hb : b < 256) (hi : i < 8) : (jshr (nI b) (nI i) &&& 1) = nI (b / 2 ^ i % 2) := by
  have key : ∀ i, i < 8 → ∀ b, b < 256 → (jshr (nI b) (nI i) &&& 1) = nI (b / 2 ^ i % 2) := by decide +kernel
  exact key i hi b hb
theorem tb_div (b i : Nat) : b.testBit i = decide (b / 2 ^ i % 2 = 1) := by
  rw [Nat.testBit_eq_decide_div_mod_eq]
/-- what the stations are: how many, ring, kinds, sizes, names -/
abbrev Vw : Type := Nat × Nat × (Nat → Nat) × (Nat → Nat) × (Nat → Nat → Nat)
abbrev vN (v : Vw) : Nat := v.1
abbrev vr (v : Vw) : Nat := v.2.1
abbrev kd (v : Vw) (i : Nat) : Nat := v.2.2.1 i
abbrev sz (v : Vw) (i : Nat) : Nat := v.2.2.2.1 i
abbrev nm (v : Vw) (i j : Nat) : Nat := v.2.2.2.2 i j
def Vok (v : Vw) : Prop := vN v ≤ 8 ∧ vr v ≤ 1 ∧ ∀ i, i < vN v → kd v i ≤ 5 ∧ 1 ≤ sz v i ∧ sz v i ≤ 10 ∧ ∀ j, j < sz v i → nm v i j < 26
def CV (k : Nat) (v : Vw) (μ : Mem) : Prop := μ.1 k 3 = nI (vN v) ∧ μ.1 k 4 = nI (vr v) ∧ ∀ i, i < vN v → μ.1 (k + 1) i = nI (kd v i) ∧ μ.1 (k + 2) i = nI (sz v i) ∧ ∀ j, j < sz v i → μ.1 (k + 3 + 1 + i) j = nI (nm v i j)
def MV (v : Vw) (μ : Mem) : Prop := μ.1 47 4 = nI (vN v) ∧ μ.1 47 5 = nI (vr v) ∧ ∀ i, i < vN v → μ.1 51 i = nI (kd v i) ∧ μ.1 50 i = nI (sz v i) ∧ ∀ j, j < sz v i → μ.1 49 (10 * i + j) = nI (nm v i j)
def isV (c : Nat) : Nat := if c = 0 ∨ c = 4 ∨ c = 8 ∨ c = 14 ∨ c = 20 then 1 else 0
def vow (f : Nat → Nat) : Nat → Nat
  | 0 => 0
  | j + 1 => vow f j + isV (f j)
theorem vow_le (f : Nat → Nat) : ∀ j, vow f j ≤ j
  | 0 => Nat.le_refl 0
  | j + 1 => by
    have := vow_le f j
    show vow f j + isV (f j) ≤ j + 1
    unfold isV
    split <;> omega
/-- by how many stops one rides -/
def stp (v : Vw) (i : Nat) : Nat := if kd v i = 2 then vow (nm v i) (sz v i) else if kd v i = 3 then sz v i + sz v (if i + 1 < vN v then i + 1 else 0) else if kd v i = 4 then vow (nm v i) (sz v i) else if kd v i = 5 then nm v i (sz v i - 1) + 1 else sz v i
theorem stp_le {v : Vw} (h : Vok v) {i : Nat} (hi : i < vN v) : stp v i ≤ 26 := by
  obtain ⟨h1, h2, h3⟩ := h
  obtain ⟨a1, a2, a3, a4⟩ := h3 i hi
  have hv := vow_le (nm v i) (sz v i)
  have h5 := a4 (sz v i - 1) (by omega)
  have h6 : sz v (if i + 1 < vN v then i + 1 else 0) ≤ 10 := (h3 _ (by split <;> omega)).2.2.1
  unfold stp
  generalize sz v (if i + 1 < vN v then i + 1 else 0) = w at h6 ⊢
  repeat' split
  all_goals omega
/-- the bit of a place, in a row or a ring -/
def bitz (v : Vw) (z : Int) : Nat := if vr v = 1 then 2 ^ (z % (vN v : Int)).toNat else if 0 ≤ z ∧ z < (vN v : Int) then 2 ^ z.toNat else 0
def rb (v : Vw) (i : Nat) : Nat := if kd v i = 4 ∧ stp v i % 2 = 1 then 0 else if kd v i = 1 ∨ kd v i = 5 then bitz v ((i : Int) + stp v i) else bitz v ((i : Int) + stp v i) ||| bitz v ((i : Int) - stp v i)
