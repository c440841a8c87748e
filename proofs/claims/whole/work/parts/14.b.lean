/-! ===== the model: one statement is read ===== -/
def LM (T : Nat) (ch : Nat → Nat) (μ : Mem) : Prop := μ.1 47 12 = nI T ∧ ∀ i, i < T → μ.1 52 i = nI (ch i)
def nxv (T : Nat) (ch : Nat → Nat) (p : Nat) : Int32 := if p < T then nI (ch p) else -1
/-- the end of the letters from a place on, so many at most -/
def lrun (T : Nat) (ch : Nat → Nat) : Nat → Nat → Nat
  | 0, p => p
  | d + 1, p => if p < T ∧ 97 ≤ ch p ∧ ch p ≤ 122 then lrun T ch d (p + 1) else p
theorem lrun_le (T : Nat) (ch : Nat → Nat) : ∀ d p, p ≤ lrun T ch d p ∧ lrun T ch d p ≤ p + d ∧ (p ≤ T → lrun T ch d p ≤ T)
  | 0, p => ⟨Nat.le_refl _, Nat.le_refl _, fun h => h⟩
  | d + 1, p => by
    rw [lrun]
    split
    · have := lrun_le T ch d (p + 1)
      exact ⟨by omega, by omega, fun h => this.2.2 (by omega)⟩
    · exact ⟨Nat.le_refl _, by omega, fun h => h⟩
theorem lrun_in (T : Nat) (ch : Nat → Nat) : ∀ d p x, p ≤ x → x < lrun T ch d p → 97 ≤ ch x ∧ ch x ≤ 122
  | 0, p, x, h1, h2 => by rw [lrun] at h2; omega
  | d + 1, p, x, h1, h2 => by
    rw [lrun] at h2
    split at h2
    · next h =>
      by_cases e : x = p
      · rw [e]; exact h.2
      · exact lrun_in T ch d (p + 1) x (by omega) h2
    · omega
/-- the class's states over a name -/
theorem au_name {T : Nat} {ch : Nat → Nat} : ∀ (d j p : Nat), j + d = 9 → p ≤ T → au T ch (T - p) (10 + j) p = au T ch (T - lrun T ch d p) (10 + j + (lrun T ch d p - p)) (lrun T ch d p)
  | 0, j, p, _, _ => by rw [lrun, Nat.sub_self]; rfl
  | d + 1, j, p, hj, hp => by
    rw [lrun]
    by_cases h : p < T ∧ 97 ≤ ch p ∧ ch p ≤ 122
    · rw [if_pos h]
      have h1 := lrun_le T ch d (p + 1)
      have ih := au_name d (j + 1) (p + 1) (by omega) (by omega) (T := T) (ch := ch)
      have h2 : nx (10 + j) (ch p) = some (10 + (j + 1)) := by
        unfold nx
        rw [if_neg (by omega), if_neg (by omega), if_neg (by omega), if_neg (by omega), if_neg (by omega), if_neg (by omega), if_pos (by omega)]
        rfl
      rw [show T - p = (T - (p + 1)) + 1 by omega, au, h2]
      show au T ch (T - (p + 1)) (10 + (j + 1)) (p + 1) = _
      rw [ih]
      congr 1
      omega
    · rw [if_neg h, Nat.sub_self]
      rfl
/-- behind a name: ";" or a fault just there -/
theorem au_nend {T : Nat} {ch : Nat → Nat} {p : Nat} (hp : p ≤ T) : (let t := lrun T ch 9 p; (p < t ∧ t < T ∧ ch t = 59 ∧ au T ch (T - p) 10 p = au T ch (T - (t + 1)) 0 (t + 1)) ∨ (¬ (p < t ∧ t < T ∧ ch t = 59) ∧ au T ch (T - p) 10 p = some t)) := by
  intro t
  have h1 := lrun_le T ch 9 p
  have h2 := au_name 9 0 p (by omega) hp (T := T) (ch := ch)
  have hmax : ∀ d p, lrun T ch d p < p + d → ¬ (lrun T ch d p < T ∧ 97 ≤ ch (lrun T ch d p) ∧ ch (lrun T ch d p) ≤ 122) := by
    intro d
    induction d with
    | zero => intro p h; rw [lrun] at h; omega
    | succ d ih =>
      intro p h
      rw [lrun] at h ⊢
      by_cases q : p < T ∧ 97 ≤ ch p ∧ ch p ≤ 122
      · rw [if_pos q] at h ⊢; exact ih (p + 1) (by omega)
      · rw [if_neg q]; exact q
  have h3 := hmax 9 p
  show (p < t ∧ _) ∨ _
  have et : lrun T ch 9 p = t := rfl
  rw [et] at h1 h2 h3
  have h1' := h1.2.2 hp
  rw [h2]
  by_cases hT : t < T
  · rw [show T - t = (T - (t + 1)) + 1 by omega, au]
    by_cases hc : ch t = 59
    · by_cases hl : p < t
      · left
        have : nx (10 + 0 + (t - p)) (ch t) = some 0 := by
          unfold nx
          rw [if_neg (by omega), if_neg (by omega), if_neg (by omega), if_neg (by omega), if_neg (by omega), if_pos hc, if_pos (by omega)]
        rw [this]
        exact ⟨hl, hT, hc, rfl⟩
      · right
        have : nx (10 + 0 + (t - p)) (ch t) = none := by
          unfold nx
          rw [if_neg (by omega), if_neg (by omega), if_neg (by omega), if_neg (by omega), if_neg (by omega), if_pos hc, if_neg (by omega)]
        rw [this]
        exact ⟨fun q => hl q.1, rfl⟩
    · right
      have : nx (10 + 0 + (t - p)) (ch t) = none := by
        unfold nx
        rw [if_neg (by omega), if_neg (by omega), if_neg (by omega), if_neg (by omega), if_neg (by omega), if_neg hc, if_neg ?_]
        intro q
        rcases Nat.lt_or_ge t (p + 9) with r | r
        · exact h3 r ⟨hT, q.1, q.2.1⟩
        · omega
      rw [this]
      exact ⟨fun q => hc q.2.2, rfl⟩
  · right
    have e : t = T := by omega
    rw [e, Nat.sub_self, au, if_neg (by omega)]
    exact ⟨fun q => by omega, rfl⟩
/-- what reading statements leaves as it is -/
def LF (μ ν : Mem) : Prop := (∀ a, a ≠ 47 → (a < 53 ∨ 57 < a) → ν.1 a = μ.1 a) ∧ ν.2 = μ.2 ∧ (∀ f, f ≠ 13 → f ≠ 14 → ν.1 47 f = μ.1 47 f)
theorem LF_rf {μ : Mem} : LF μ μ := ⟨fun _ _ _ => rfl, rfl, fun _ _ _ => rfl⟩
theorem LF_tr {μ ν ξ : Mem} (h1 : LF μ ν) (h2 : LF ν ξ) : LF μ ξ := ⟨fun a x1 x2 => (h2.1 a x1 x2).trans (h1.1 a x1 x2), h2.2.1.trans h1.2.1, fun f x1 x2 => (h2.2.2 f x1 x2).trans (h1.2.2 f x1 x2)⟩
theorem LF_13 {μ : Mem} {x : Int32} : LF μ (setI μ 47 13 x) := ⟨fun a h1 _ => setI1_ne h1, rfl, fun f h1 _ => by rw [setI1_eq, upd_ne h1]⟩
theorem LF_14 {μ : Mem} {x : Int32} : LF μ (setI μ 47 14 x) := ⟨fun a h1 _ => setI1_ne h1, rfl, fun f _ h1 => by rw [setI1_eq, upd_ne h1]⟩
theorem LF_a {μ : Mem} {a k : Nat} {x : Int32} (h : 53 ≤ a ∧ a ≤ 57) : LF μ (setI μ a k x) := ⟨fun b _ h2 => setI1_ne (by omega), rfl, fun f _ _ => by rw [setI1_ne (by omega)]⟩
theorem LM_LF {T : Nat} {ch : Nat → Nat} {μ ν : Mem} (h : LF μ ν) (hc : LM T ch μ) : LM T ch ν := ⟨by rw [h.2.2 12 (by decide) (by decide)]; exact hc.1, fun i hi => by rw [h.1 52 (by decide) (by omega)]; exact hc.2 i hi⟩
/-- the tables of statements up to k stay -/
def TK (k : Nat) (μ ν : Mem) : Prop := ∀ a, 53 ≤ a → a ≤ 57 → ∀ j, j < k → ν.1 a j = μ.1 a j
theorem TK_rf {k : Nat} {μ : Mem} : TK k μ μ := fun _ _ _ _ _ => rfl
theorem TK_tr {k : Nat} {μ ν ξ : Mem} (h1 : TK k μ ν) (h2 : TK k ν ξ) : TK k μ ξ := fun a x1 x2 j hj => (h2 a x1 x2 j hj).trans (h1 a x1 x2 j hj)
theorem TK_47 {k : Nat} {μ : Mem} {f : Nat} {x : Int32} : TK k μ (setI μ 47 f x) := fun a x1 x2 j hj => by rw [setI1_ne (by omega)]
theorem TK_a {k : Nat} {μ : Mem} {b : Nat} {x : Int32} : TK k μ (setI μ b k x) := fun a x1 x2 j hj => by
  by_cases e : a = b
  · rw [e, setI1_eq, upd_ne (by omega)]
  · rw [setI1_ne e]
section PS
variable {n : Nat} {μ : Mem} {T : Nat} {ch : Nat → Nat}
theorem p5_next (hk : Lok T ch) (hc : LM T ch μ) {p : Nat} (hp : p ≤ T) (ha : μ.1 47 13 = nI p) : fX5_next n μ = some (nxv T ch p, μ) := by
  have h96 := hk.1
  unfold fX5_next nxv
  rw [hc.1, ha]
  by_cases h : p < T
  · rw [if_neg (by rw [nI_leI (by omega) (by omega)]; omega), inb_nI (by omega) (by decide), gd_true, nI_clamp (by omega), hc.2 p h, if_pos h]
  · rw [if_pos (by rw [nI_leI (by omega) (by omega)]; omega), if_neg h]
theorem nxv_eq (hk : Lok T ch) {p c : Nat} (hc : c < 256) : nxv T ch p = nI c ↔ p < T ∧ ch p = c := by
  unfold nxv
  by_cases h : p < T
  · have := hk.2 p h
    rw [if_pos h, nI_eq (by omega) (by omega)]
    exact ⟨fun q => ⟨h, q⟩, fun q => q.2⟩
  · rw [if_neg h]
    refine ⟨fun q => ?_, fun q => absurd q.1 h⟩
    have := congrArg Int32.toInt q
    rw [nI_toInt (by omega)] at this
    have h9 : (-1 : Int32).toInt = -1 := by decide
    omega
theorem p5_isNext_t (hk : Lok T ch) (hc : LM T ch μ) {p c : Nat} (hp : p < T) (ha : μ.1 47 13 = nI p) (h : ch p = c) (hc2 : c < 256) : fX5_isNext n (nI c) μ = some (nI 1, setI μ 47 13 (nI (p + 1))) := by
  unfold fX5_isNext
  rw [p5_next hk hc (by omega) ha, bd_some, if_pos ((nxv_eq hk hc2).mpr ⟨hp, h⟩), bnd, ha, nI_1]
  rfl
theorem p5_isNext_f (hk : Lok T ch) (hc : LM T ch μ) {p c : Nat} (hp : p ≤ T) (ha : μ.1 47 13 = nI p) (h : ¬ (p < T ∧ ch p = c)) (hc2 : c < 256) : fX5_isNext n (nI c) μ = some (nI 0, μ) := by
  unfold fX5_isNext
  rw [p5_next hk hc hp ha, bd_some, if_neg (fun q => h ((nxv_eq hk hc2).mp q))]
  rfl
theorem p5_isInN (hk : Lok T ch) {p a b : Nat} (ha : a < 256) (hb : b < 256) : fX5_isIn n (nxv T ch p) (nI a) (nI b) μ = some (if p < T ∧ a ≤ ch p ∧ ch p ≤ b then nI 1 else nI 0, μ) := by
  unfold fX5_isIn nxv
  by_cases h : p < T
  · have := hk.2 p h
    rw [if_pos h]
    by_cases q1 : ch p < a
    · rw [if_pos (nI_lt q1 (by omega)), if_neg (by omega)]; rfl
    · rw [if_neg (nI_nlt (by omega) (by omega))]
      by_cases q2 : b < ch p
      · rw [if_pos (nI_lt q2 (by omega)), if_neg (by omega)]; rfl
      · rw [if_neg (nI_nlt (by omega) (by omega)), if_pos (by omega)]; rfl
  · have h2 : (-1 : Int32) < nI a := by
      rw [Int32.lt_iff_toInt_lt, nI_toInt (by omega), show (-1 : Int32).toInt = -1 by decide]
      omega
    rw [if_neg h, if_pos h2, if_neg (show ¬ (p < T ∧ a ≤ ch p ∧ ch p ≤ b) from fun q => h q.1)]
    rfl
theorem p5_readsName (hn : 200 ≤ n) (hk : Lok T ch) (hc : LM T ch μ) {p k : Nat} (hp : p ≤ T) (hkk : k < 50) (ha : μ.1 47 13 = nI p) (hs : μ.1 47 14 = nI k) : Ok (if p < lrun T ch 9 p then nI 1 else nI 0) (fun ν => LF μ ν ∧ TK k μ ν ∧ ν.1 47 13 = nI (lrun T ch 9 p) ∧ ν.1 47 14 = nI k ∧ ν.1 56 k = nI p ∧ ν.1 57 k = nI (lrun T ch 9 p) ∧ (∀ a, a ≠ 56 → a ≠ 57 → a ≠ 47 → ν.1 a = μ.1 a)) (fX5_readsName n μ) := by
  have h96 := hk.1
  have hL := lrun_le T ch 9 p
  generalize hrv : (if p < lrun T ch 9 p then nI 1 else nI 0) = rv
  unfold fX5_readsName
  rw [hs, inb_nI hkk (by decide), gd_true, nI_clamp (by omega), bnd, ha]
  have key : ∀ (d q F : Nat) (x : Mem), q + d = p + 9 → p ≤ q → q ≤ T → d < F → lrun T ch d q = lrun T ch 9 p → LF μ x → TK k μ x → x.1 47 13 = nI q → x.1 47 14 = nI k → x.1 56 k = nI p → (∀ a, a ≠ 56 → a ≠ 57 → a ≠ 47 → x.1 a = μ.1 a) → Ok rv (fun ν => LF μ ν ∧ TK k μ ν ∧ ν.1 47 13 = nI (lrun T ch 9 p) ∧ ν.1 47 14 = nI k ∧ ν.1 56 k = nI p ∧ ν.1 57 k = nI (lrun T ch 9 p) ∧ (∀ a, a ≠ 56 → a ≠ 57 → a ≠ 47 → ν.1 a = μ.1 a)) (fX5_readsName_L13 n (fun m7 => gd (inb (m7.1 47 14) 50) (bnd (setI m7 57 (m7.1 47 14).toNatClampNeg (m7.1 47 13)) fun m8 => gd (inb (m8.1 47 14) 50) (if m8.1 47 13 ≤ m8.1 56 (m8.1 47 14).toNatClampNeg then some (0, m8) else some (1, m8)))) F x) := by
    have stop : ∀ (q : Nat) (x : Mem), q = lrun T ch 9 p → LF μ x → TK k μ x → x.1 47 13 = nI q → x.1 47 14 = nI k → x.1 56 k = nI p → (∀ a, a ≠ 56 → a ≠ 57 → a ≠ 47 → x.1 a = μ.1 a) → Ok rv (fun ν => LF μ ν ∧ TK k μ ν ∧ ν.1 47 13 = nI (lrun T ch 9 p) ∧ ν.1 47 14 = nI k ∧ ν.1 56 k = nI p ∧ ν.1 57 k = nI (lrun T ch 9 p) ∧ (∀ a, a ≠ 56 → a ≠ 57 → a ≠ 47 → ν.1 a = μ.1 a)) (gd (inb (x.1 47 14) 50) (bnd (setI x 57 (x.1 47 14).toNatClampNeg (x.1 47 13)) fun m8 => gd (inb (m8.1 47 14) 50) (if m8.1 47 13 ≤ m8.1 56 (m8.1 47 14).toNatClampNeg then some (0, m8) else some (1, m8)))) := by
      intro q x hq g1 g2 g3 g4 g5 g6
      rw [g4, inb_nI hkk (by decide), gd_true, nI_clamp (by omega), g3, bnd, setI1_ne (by decide), g4, inb_nI hkk (by decide), gd_true, nI_clamp (by omega), g3, setI1_ne (by decide), g5]
      have fin : LF μ (setI x 57 k (nI q)) ∧ TK k μ (setI x 57 k (nI q)) ∧ (setI x 57 k (nI q)).1 47 13 = nI (lrun T ch 9 p) ∧ (setI x 57 k (nI q)).1 47 14 = nI k ∧ (setI x 57 k (nI q)).1 56 k = nI p ∧ (setI x 57 k (nI q)).1 57 k = nI (lrun T ch 9 p) ∧ (∀ a, a ≠ 56 → a ≠ 57 → a ≠ 47 → (setI x 57 k (nI q)).1 a = μ.1 a) := ⟨LF_tr g1 (LF_a (by decide)), TK_tr g2 TK_a, by rw [setI1_ne (by decide), ← hq]; exact g3, by rw [setI1_ne (by decide)]; exact g4, by rw [setI1_ne (by decide)]; exact g5, by rw [setI1_eq, upd_eq, hq], fun a h1 h2 h3 => by rw [setI1_ne h2]; exact g6 a h1 h2 h3⟩
      by_cases e : p < lrun T ch 9 p
      · rw [if_pos e] at hrv
        subst hrv
        rw [if_neg (by rw [nI_leI (by omega) (by omega)]; omega)]
        exact ⟨_, rfl, fin⟩
      · rw [if_neg e] at hrv
        subst hrv
        rw [if_pos (by rw [nI_leI (by omega) (by omega)]; omega)]
        exact ⟨_, rfl, fin⟩
    intro d
    induction d with
    | zero =>
      intro q F x h1 h2 h3 h4 h5 g1 g2 g3 g4 g5 g6
      obtain ⟨F, rfl⟩ : ∃ G, F = G + 1 := ⟨F - 1, by omega⟩
      rw [fX5_readsName_L13, g4, inb_nI hkk (by decide), gd_true, nI_clamp (by omega), g3, g5, pk_sub h2, if_pos (by rw [lit_9, nI_leI (by decide) (by omega)]; omega)]
      have hst := stop q x (by rw [← h5]; rfl) g1 g2 g3 g4 g5 g6
      rw [g4, inb_nI hkk (by decide), nI_clamp (by omega), g3] at hst
      exact hst
    | succ d ih =>
      intro q F x h1 h2 h3 h4 h5 g1 g2 g3 g4 g5 g6
      obtain ⟨F, rfl⟩ : ∃ G, F = G + 1 := ⟨F - 1, by omega⟩
      rw [fX5_readsName_L13, g4, inb_nI hkk (by decide), gd_true, nI_clamp (by omega), g3, g5, pk_sub h2, if_neg (by rw [lit_9, nI_leI (by decide) (by omega)]; omega), p5_next hk (LM_LF g1 hc) h3 g3, bd_some, show (97 : Int32) = nI 97 from rfl, show (122 : Int32) = nI 122 from rfl, p5_isInN hk (by decide) (by decide), bd_some]
      rw [lrun] at h5
      by_cases e : q < T ∧ 97 ≤ ch q ∧ ch q ≤ 122
      · rw [if_pos e] at h5 ⊢
        rw [if_neg (by decide), bnd, g3, nI_1]
        refine ih (q + 1) F _ (by omega) (by omega) (by omega) (by omega) h5 (LF_tr g1 LF_13) (TK_tr g2 TK_47) (by rw [setI1_eq, upd_eq]) (by rw [setI1_eq, upd_ne (by decide)]; exact g4) (by rw [setI1_ne (by decide)]; exact g5) (fun a h1 h2 h3 => by rw [setI1_ne h3]; exact g6 a h1 h2 h3)
      · rw [if_neg e] at h5 ⊢
        rw [if_pos (show nI 0 = 0 from rfl)]
        exact stop q x h5 g1 g2 g3 g4 g5 g6
  exact key 9 p n _ (by omega) (Nat.le_refl _) hp (by omega) rfl (LF_a (by decide)) TK_a (by rw [setI1_ne (by decide)]; exact ha) (by rw [setI1_ne (by decide)]; exact hs) (by rw [setI1_eq, upd_eq]) (fun a h1 h2 h3 => setI1_ne h1)
end PS
