/-! ===== the class: the net is laid ===== -/
/-- the function answers, and with this answer and in such a memory -/
def Ok {ρ : Type} (r : ρ) (Q : Mem → Prop) (o : Option (ρ × Mem)) : Prop := ∃ ν, o = some (r, ν) ∧ Q ν
def fr (lo hi : Nat) (μ ν : Mem) : Prop := ∀ a, (a < lo ∨ hi ≤ a) → ν.1 a = μ.1 a ∧ ν.2 a = μ.2 a
theorem fr_rf {lo hi : Nat} {μ : Mem} : fr lo hi μ μ := fun _ _ => ⟨rfl, rfl⟩
theorem fr_tr {lo hi : Nat} {μ ν ξ : Mem} (h1 : fr lo hi μ ν) (h2 : fr lo hi ν ξ) : fr lo hi μ ξ := fun a h => ⟨(h2 a h).1.trans (h1 a h).1, (h2 a h).2.trans (h1 a h).2⟩
theorem fr_wd {lo hi l2 h2 : Nat} {μ ν : Mem} (h : fr lo hi μ ν) (h1 : l2 ≤ lo) (h3 : hi ≤ h2) : fr l2 h2 μ ν := fun a q => h a (by omega)
theorem fr_I {lo hi : Nat} {μ : Mem} {a k : Nat} {x : Int32} (h1 : lo ≤ a) (h2 : a < hi) : fr lo hi μ (setI μ a k x) := fun b h => ⟨setI1_ne (by omega), rfl⟩
theorem fr_J {lo hi : Nat} {μ : Mem} {a k : Nat} {x : Int64} (h1 : lo ≤ a) (h2 : a < hi) : fr lo hi μ (setJ μ a k x) := fun b h => ⟨rfl, setJ2_ne (by omega)⟩
theorem CV_fr {lo hi k : Nat} {v : Vw} {μ ν : Mem} (hv : Vok v) (h : fr lo hi μ ν) (hk : k + 12 ≤ lo ∨ hi ≤ k) (hc : CV k v μ) : CV k v ν := by
  have h8 := hv.1
  obtain ⟨c1, c2, c3⟩ := hc
  refine ⟨by rw [(h k (by omega)).1]; exact c1, by rw [(h k (by omega)).1]; exact c2, fun i hi => ?_⟩
  rw [(h (k + 1) (by omega)).1, (h (k + 2) (by omega)).1, (h (k + 3 + 1 + i) (by omega)).1]
  exact c3 i hi
theorem MV_fr {lo hi : Nat} {v : Vw} {μ ν : Mem} (h : fr lo hi μ ν) (hk : hi ≤ 47 ∨ 52 ≤ lo) (hc : MV v μ) : MV v ν := by
  obtain ⟨c1, c2, c3⟩ := hc
  refine ⟨by rw [(h 47 (by omega)).1]; exact c1, by rw [(h 47 (by omega)).1]; exact c2, fun i hi => ?_⟩
  rw [(h 51 (by omega)).1, (h 50 (by omega)).1, (h 49 (by omega)).1]
  exact c3 i hi
theorem upd_get {f : Nat → Int32} {k j : Nat} {x : Int32} : upd f k x j = if j = k then x else f j := rfl
theorem rb_lt {v : Vw} (hv : Vok v) : ∀ i, i < vN v → rb v i < 2 ^ vN v := by
  intro i hi
  have b1 : ∀ z, bitz v z < 2 ^ vN v := fun z => (bitz_lt hv z).resolve_right (by omega)
  unfold rb
  split
  · exact Nat.pow_pos (by decide)
  · split
    · exact b1 _
    · exact Nat.or_lt_two_pow (b1 _) (b1 _)
theorem pow8 {N x : Nat} (hN : N ≤ 8) (h : x < 2 ^ N) : x < 256 := Nat.lt_of_lt_of_le h (Nat.pow_le_pow_right (by decide) hN)
theorem bit01 (x i : Nat) : x / 2 ^ i % 2 = if x.testBit i then 1 else 0 := by
  rw [tb_div]
  by_cases h : x / 2 ^ i % 2 = 1
  · simp [h]
  · simp [h]; omega
def NK (v : Vw) (μ : Mem) : Prop := μ.1 42 4 = nI (vN v) ∧ ∀ i, i < vN v → μ.1 43 i = nI (rb v i) ∧ μ.1 44 i = nI (cl (vN v) (rb v) i)
theorem wsh_self (R : Nat → Nat) (m : Nat) : wsh R (m + 1) m = wsh R m m := by
  show wrow m (wsh R m) m = _
  unfold wrow
  split
  · exact Nat.or_self _
  · rfl
section PL
variable {n k : Nat} {v : Vw} {μ : Mem}
theorem p0_comes {N i j w : Nat} (hN : N ≤ 8) (h1 : μ.1 42 4 = nI N) (hi : i < N) (hj : j < N) (hw : w < 2 ^ N) (h2 : μ.1 44 i = nI w) : fX0_comes n (nI i) (nI j) μ = some (if w.testBit j then nI 1 else nI 0, μ) := by
  have h3 := pow8 hN hw
  unfold fX0_comes
  simp (disch := omega) only [inb_nI, gd_true, nI_clamp, nI_leI, nI_ltI, nI_eq, if_pos, if_neg, reduceIte, bnd, bd_some, nI_add, pk_mul, pk_sub, lit_0, lit_1, lit_2, lit_3, lit_4, lit_5, lit_7, lit_8, lit_9, lit_10, lit_12, lit_14, lit_20, lit_31, lit_60, lit_96, lit_99, lit_255, h1, h2, jshr_n1]
  rw [bit01]
  cases w.testBit j
  · simp (disch := omega) only [inb_nI, gd_true, nI_clamp, nI_leI, nI_ltI, nI_eq, if_pos, if_neg, reduceIte, bnd, bd_some, nI_add, pk_mul, pk_sub, lit_0, lit_1, lit_2, lit_3, lit_4, lit_5, lit_7, lit_8, lit_9, lit_10, lit_12, lit_14, lit_20, lit_31, lit_60, lit_96, lit_99, lit_255, if_false, Bool.false_eq_true]
  · simp (disch := omega) only [inb_nI, gd_true, nI_clamp, nI_leI, nI_ltI, nI_eq, if_pos, if_neg, reduceIte, bnd, bd_some, nI_add, pk_mul, pk_sub, lit_0, lit_1, lit_2, lit_3, lit_4, lit_5, lit_7, lit_8, lit_9, lit_10, lit_12, lit_14, lit_20, lit_31, lit_60, lit_96, lit_99, lit_255, if_true]
theorem p0_leads {N i j w : Nat} (hN : N ≤ 8) (h1 : μ.1 42 4 = nI N) (hi : i < N) (hj : j < N) (hw : w < 2 ^ N) (h2 : μ.1 43 i = nI w) : fX0_leads n (nI i) (nI j) μ = some (if w.testBit j then nI 1 else nI 0, μ) := by
  have h3 := pow8 hN hw
  unfold fX0_leads
  simp (disch := omega) only [inb_nI, gd_true, nI_clamp, nI_leI, nI_ltI, nI_eq, if_pos, if_neg, reduceIte, bnd, bd_some, nI_add, pk_mul, pk_sub, lit_0, lit_1, lit_2, lit_3, lit_4, lit_5, lit_7, lit_8, lit_9, lit_10, lit_12, lit_14, lit_20, lit_31, lit_60, lit_96, lit_99, lit_255, h1, h2, jshr_n1]
  rw [bit01]
  cases w.testBit j
  · simp (disch := omega) only [inb_nI, gd_true, nI_clamp, nI_leI, nI_ltI, nI_eq, if_pos, if_neg, reduceIte, bnd, bd_some, nI_add, pk_mul, pk_sub, lit_0, lit_1, lit_2, lit_3, lit_4, lit_5, lit_7, lit_8, lit_9, lit_10, lit_12, lit_14, lit_20, lit_31, lit_60, lit_96, lit_99, lit_255, if_false, Bool.false_eq_true]
  · simp (disch := omega) only [inb_nI, gd_true, nI_clamp, nI_leI, nI_ltI, nI_eq, if_pos, if_neg, reduceIte, bnd, bd_some, nI_add, pk_mul, pk_sub, lit_0, lit_1, lit_2, lit_3, lit_4, lit_5, lit_7, lit_8, lit_9, lit_10, lit_12, lit_14, lit_20, lit_31, lit_60, lit_96, lit_99, lit_255, if_true]
set_option maxHeartbeats 2000000 in
theorem p0_lay3 (hn : 20 ≤ n) (hv : Vok v) {m : Nat} (hm : m < vN v) {K : Mem → Option (Unit × Mem)} {Rr : Option (Unit × Mem) → Prop} (hK : ∀ s, (s.1 42 4 = nI (vN v) ∧ (∀ j, j < vN v → s.1 43 j = nI (rb v j) ∧ s.1 44 j = nI (wsh (rb v) (m + 1) j)) ∧ fr 42 47 μ s) → Rr (K s)) (s : Mem) (hs : s.1 42 4 = nI (vN v) ∧ (∀ j, j < vN v → s.1 43 j = nI (rb v j) ∧ s.1 44 j = nI (wsh (rb v) m j)) ∧ fr 42 47 μ s) : Rr (fX0_lay_L63 n k (nI m) K n 0 s) := by
  have h8 := hv.1
  have hW := fun m hm i hi => wsh_lt (N := vN v) (rb_lt hv) m hm i hi
  refine loop_inv (fun F i s => fX0_lay_L63 n k (nI m) K F (nI i) s) (fun i s => s.1 42 4 = nI (vN v) ∧ (∀ j, j < vN v → s.1 43 j = nI (rb v j) ∧ s.1 44 j = nI (if j < i then wsh (rb v) (m + 1) j else wsh (rb v) m j)) ∧ fr 42 47 μ s) Rr (vN v) ?_ ?_ n 0 s ⟨hs.1, fun j hj => ⟨(hs.2.1 j hj).1, by rw [(hs.2.1 j hj).2]; simp⟩, hs.2.2⟩ (by omega) (by omega)
  · intro F s ⟨h1, h2, h3⟩
    rw [fX0_lay_L63]
    simp (disch := omega) only [inb_nI, gd_true, nI_clamp, nI_leI, nI_ltI, nI_eq, if_pos, if_neg, reduceIte, bnd, bd_some, nI_add, pk_mul, pk_sub, lit_0, lit_1, lit_2, lit_3, lit_4, lit_5, lit_7, lit_8, lit_9, lit_10, lit_12, lit_14, lit_20, lit_31, lit_60, lit_96, lit_99, lit_255, h1]
    exact hK s ⟨h1, fun j hj => ⟨(h2 j hj).1, by rw [(h2 j hj).2, if_pos hj]⟩, h3⟩
  · intro F i s hi ⟨h1, h2, h3⟩ ih
    have e1 : s.1 44 i = nI (wsh (rb v) m i) := by rw [(h2 i hi).2, if_neg (by omega)]
    have e2 : s.1 44 m = nI (wsh (rb v) m m) := by
      rw [(h2 m hm).2]
      split
      · rw [wsh_self]
      · rfl
    have q := p0_comes (n := n) (μ := s) h8 h1 hi hm (hW m (by omega) i hi) e1
    have fin : ∀ s' : Mem, s'.1 42 4 = nI (vN v) → (∀ j, s'.1 43 j = s.1 43 j) → (∀ j, j ≠ i → s'.1 44 j = s.1 44 j) → s'.1 44 i = nI (wsh (rb v) (m + 1) i) → fr 42 47 μ s' → Rr (fX0_lay_L63 n k (nI m) K F (nI (i + 1)) s') := by
      intro s' g1 g2 g3 g4 g5
      refine ih s' ⟨g1, fun j hj => ⟨by rw [g2]; exact (h2 j hj).1, ?_⟩, g5⟩
      by_cases hji : j = i
      · subst hji; rw [g4, if_pos (by omega)]
      · rw [g3 j hji, (h2 j hj).2]
        by_cases hlt : j < i
        · rw [if_pos hlt, if_pos (by omega)]
        · rw [if_neg hlt, if_neg (by omega)]
    rw [fX0_lay_L63]
    simp (disch := omega) only [inb_nI, gd_true, nI_clamp, nI_leI, nI_ltI, nI_eq, if_pos, if_neg, reduceIte, bnd, bd_some, nI_add, pk_mul, pk_sub, lit_0, lit_1, lit_2, lit_3, lit_4, lit_5, lit_7, lit_8, lit_9, lit_10, lit_12, lit_14, lit_20, lit_31, lit_60, lit_96, lit_99, lit_255, h1, q]
    by_cases hb : (wsh (rb v) m i).testBit m = true
    · simp (disch := omega) only [inb_nI, gd_true, nI_clamp, nI_leI, nI_ltI, nI_eq, if_pos, if_neg, reduceIte, bnd, bd_some, nI_add, pk_mul, pk_sub, lit_0, lit_1, lit_2, lit_3, lit_4, lit_5, lit_7, lit_8, lit_9, lit_10, lit_12, lit_14, lit_20, lit_31, lit_60, lit_96, lit_99, lit_255, hb, e1, e2, or_nI]
      refine fin _ (by rw [setI1_ne (by decide)]; exact h1) (fun j => by rw [setI1_ne (by decide)]) (fun j hj => by rw [setI1_eq, upd_ne hj]) ?_ (fr_tr h3 (fr_I (by decide) (by decide)))
      rw [setI1_eq, upd_eq]
      show _ = nI (wrow m (wsh (rb v) m) i)
      unfold wrow
      rw [if_pos hb]
    · simp (disch := omega) only [inb_nI, gd_true, nI_clamp, nI_leI, nI_ltI, nI_eq, if_pos, if_neg, reduceIte, bnd, bd_some, nI_add, pk_mul, pk_sub, lit_0, lit_1, lit_2, lit_3, lit_4, lit_5, lit_7, lit_8, lit_9, lit_10, lit_12, lit_14, lit_20, lit_31, lit_60, lit_96, lit_99, lit_255, hb]
      refine fin _ h1 (fun j => rfl) (fun j hj => rfl) ?_ h3
      rw [e1]
      show _ = nI (wrow m (wsh (rb v) m) i)
      unfold wrow
      rw [if_neg hb]
set_option maxHeartbeats 2000000 in
theorem p0_lay (hn : 20 ≤ n) (hv : Vok v) (hk : k + 12 ≤ 42) (hc : CV k v μ) : Ok () (fun ν => NK v ν ∧ fr 42 47 μ ν) (fX0_lay n k μ) := by
  have h8 := hv.1
  unfold fX0_lay
  rw [bnd, hc.1]
  refine loop_inv (fun F i s => fX0_lay_L10 n k (fun m7 => fX0_lay_L53 n k n 0 m7) F (nI i) s) (fun i s => s.1 42 4 = nI (vN v) ∧ (∀ j, j < i → s.1 43 j = nI (rb v j) ∧ s.1 44 j = nI (wsh (rb v) 0 j)) ∧ fr 42 47 μ s) (Ok () (fun ν => NK v ν ∧ fr 42 47 μ ν)) (vN v) ?_ ?_ n 0 _ ⟨by rw [setI1_eq, upd_eq], fun j hj => by omega, fr_I (by decide) (by decide)⟩ (by omega) (by omega)
  · intro F s ⟨h1, h2, h3⟩
    rw [fX0_lay_L10]
    simp (disch := omega) only [inb_nI, gd_true, nI_clamp, nI_leI, nI_ltI, nI_eq, if_pos, if_neg, reduceIte, bnd, bd_some, nI_add, pk_mul, pk_sub, lit_0, lit_1, lit_2, lit_3, lit_4, lit_5, lit_7, lit_8, lit_9, lit_10, lit_12, lit_14, lit_20, lit_31, lit_60, lit_96, lit_99, lit_255, h1]
    refine loop_inv (fun F i s => fX0_lay_L53 n k F (nI i) s) (fun i s => s.1 42 4 = nI (vN v) ∧ (∀ j, j < vN v → s.1 43 j = nI (rb v j) ∧ s.1 44 j = nI (wsh (rb v) i j)) ∧ fr 42 47 μ s) (Ok () (fun ν => NK v ν ∧ fr 42 47 μ ν)) (vN v) ?_ ?_ n 0 _ ⟨h1, h2, h3⟩ (by omega) (by omega)
    · intro F s ⟨h1, h2, h3⟩
      rw [fX0_lay_L53]
      simp (disch := omega) only [inb_nI, gd_true, nI_clamp, nI_leI, nI_ltI, nI_eq, if_pos, if_neg, reduceIte, bnd, bd_some, nI_add, pk_mul, pk_sub, lit_0, lit_1, lit_2, lit_3, lit_4, lit_5, lit_7, lit_8, lit_9, lit_10, lit_12, lit_14, lit_20, lit_31, lit_60, lit_96, lit_99, lit_255, h1]
      exact ⟨s, rfl, ⟨h1, fun i hi => ⟨(h2 i hi).1, by rw [(h2 i hi).2, wsh_cl (rb_lt hv) hi]⟩⟩, h3⟩
    · intro F m s hm ⟨h1, h2, h3⟩ ih
      rw [fX0_lay_L53]
      simp (disch := omega) only [h1, nI_leI, if_neg]
      refine p0_lay3 hn hv hm (fun s' hs' => ?_) s ⟨h1, h2, h3⟩
      simp (disch := omega) only [inb_nI, gd_true, nI_clamp, nI_leI, nI_ltI, nI_eq, if_pos, if_neg, reduceIte, bnd, bd_some, nI_add, pk_mul, pk_sub, lit_0, lit_1, lit_2, lit_3, lit_4, lit_5, lit_7, lit_8, lit_9, lit_10, lit_12, lit_14, lit_20, lit_31, lit_60, lit_96, lit_99, lit_255]
      exact ih s' hs'
  · intro F i s hi ⟨h1, h2, h3⟩ ih
    have q := p3_rides hn hv (CV_fr hv h3 (Or.inl hk) hc) hi
    rw [fX0_lay_L10]
    simp (disch := omega) only [inb_nI, gd_true, nI_clamp, nI_leI, nI_ltI, nI_eq, if_pos, if_neg, reduceIte, bnd, bd_some, nI_add, pk_mul, pk_sub, lit_0, lit_1, lit_2, lit_3, lit_4, lit_5, lit_7, lit_8, lit_9, lit_10, lit_12, lit_14, lit_20, lit_31, lit_60, lit_96, lit_99, lit_255, h1, q, setI1_eq, upd_eq, jshl_n1, or_nI]
    refine ih _ ⟨by rw [setI1_ne (by decide), setI1_ne (by decide)]; exact h1, fun j hj => ?_, fr_tr (fr_tr h3 (fr_I (by decide) (by decide))) (fr_I (by decide) (by decide))⟩
    rw [setI1_ne (by decide), setI1_eq, setI1_eq, setI1_ne (by decide)]
    by_cases hji : j = i
    · subst hji; rw [upd_eq, upd_eq]; exact ⟨rfl, rfl⟩
    · rw [upd_ne hji, upd_ne hji]; exact h2 j (by omega)
end PL
