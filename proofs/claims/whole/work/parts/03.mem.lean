/-! ===== rows over the memory: fields, arrays, calls ===== -/
theorem set1_other {μ : Mem} {a k : Nat} {v : Int32} : ∀ j, j ≠ a → μ.1 j = (setI μ a k v).1 j := fun j h => by simp [setI, h]
theorem set1_other2 {μ : Mem} {a k : Nat} {v : Int32} : ∀ j, j ≠ a → μ.2 j = (setI μ a k v).2 j := fun j h => rfl
theorem set2_other {μ : Mem} {a k : Nat} {v : Int64} : ∀ j, j ≠ a → μ.1 j = (setJ μ a k v).1 j := fun j h => rfl
theorem set2_other2 {μ : Mem} {a k : Nat} {v : Int64} : ∀ j, j ≠ a → μ.2 j = (setJ μ a k v).2 j := fun j h => by simp [setJ, h]
theorem lay_lt {k c n : Nat} (h : lay k = (c, n)) (hc : c ≠ 0 ∨ n ≠ 0) : k < NC := by
  by_cases hk : k < 62
  · exact hk
  · obtain ⟨j, rfl⟩ : ∃ j, k = j + 62 := ⟨k - 62, by omega⟩
    have h1 : lay (j + 62) = (0, 0) := rfl
    rw [h1] at h
    cases h
    simp at hc
theorem ce_int {tc : Nat → ClassId} {ad : Nat → Nat} {μ : Mem} {k n : Nat} (h : lay k = (0, n)) : ce tc ad μ k = .inl (tc 0, n, .inl (μ.1 k)) := by unfold ce; rw [h]
theorem ce_long {tc : Nat → ClassId} {ad : Nat → Nat} {μ : Mem} {k n : Nat} (h : lay k = (1, n)) : ce tc ad μ k = .inl (tc 1, n, .inr (.inl (μ.2 k))) := by unfold ce; rw [h]
theorem ce_out {tc : Nat → ClassId} {ad : Nat → Nat} {μ : Mem} {k n : Nat} (h : lay k = (2, n)) : ce tc ad μ k = .inl (tc 2, n, .inr (.inr (.inr (.inr (fun i => if i < n then some (ad (k + 1 + i)) else none))))) := by unfold ce; rw [h]
theorem ce_obj {tc : Nat → ClassId} {ad : Nat → Nat} {μ : Mem} {k c : Nat} (h : lay k = (c + 3, 0)) : ce tc ad μ k = .inr (c, (List.range (nf c)).map (fv ad μ k c)) := by unfold ce; rw [h]
theorem wl_in {tc : Nat → ClassId} {ad : Nat → Nat} {μ : Mem} {k : Nat} {e : va_E} (h : k < NC) (he : ce tc ad μ k = e) : (wl tc ad μ)[k]? = some (ad k, e) := by rw [wl_at h, he]
theorem fs_at {ad : Nat → Nat} {μ : Mem} {k c f : Nat} (h : f < nf c) : ((List.range (nf c)).map (fv ad μ k c))[f]? = some (fv ad μ k c f) := by simp [h]
theorem ce_objset {tc : Nat → ClassId} {ad : Nat → Nat} {μ : Mem} {k c f : Nat} {v : Int32} (h : lay k = (c + 3, 0)) (hf : f < nf c) (ho : off c f = none) : ce tc ad (setI μ k f v) k = .inr (c, ((List.range (nf c)).map (fv ad μ k c)).set f (.int v)) := by
  rw [ce_obj h]
  congr 2
  apply List.ext_getElem?
  intro i
  by_cases hi : i < nf c
  · rw [fs_at hi, List.getElem?_set]
    by_cases e : f = i
    · subst e
      simp [fv, ho, setI, upd, hi]
    · rw [if_neg e, fs_at hi]
      unfold fv
      cases off c i with
      | some d => rfl
      | none => simp [setI, upd, show ¬ i = f from fun q => e q.symm]
  · rw [List.getElem?_eq_none (by simp; omega), List.getElem?_eq_none (by simp; omega)]
section GM
variable {C : Cfg} {ad : Nat → Nat} {ρ : Type} {enc : ρ → Option Value} {pc : Nat} {L : List (Nat × Value)} {st : List Value} {μ : Mem} {X : Option (ρ × Mem)}
/-- a field of a class, as the table has it -/
def Fo (c : Nat) (R : String) (T : u_T) (N f : Nat) (own : String) (i : Nat) : Prop :=
  cls[c]? = some (R, T, N) ∧ f < N ∧ nf c = N ∧ (∀ w ∈ u_ws R T N, w ∈ TB) ∧ (T f).1 = R ∧ (Cond.fieldLink own i R (T f).2.1 (T f).2.2.1 ∈ TB ∨ ∃ host, Cond.fieldLinkNest own i R (T f).2.1 (T f).2.2.1 host ∈ NT)
theorem g_get {k c f i N : Nat} {R : String} {T : u_T} {v : Value} (hk : lay k = (c + 3, 0)) (F : Fo c R T N f C.1 i) (hv : fv ad μ k c f = v) (d : decode C.2.1 pc = .ok (.getfield i, 3)) (kk : G C ad enc (pc + 3) L (v :: st) μ X) : G C ad enc pc L (.ref (ad k) :: st) μ X := by
  obtain ⟨F1, F2, F3, F4, F5, F6⟩ := F
  intro p l e R' s m args below meth c' H locs D tc ls r ν hc hP hD hS hl hX
  have he := wl_in (tc := tc) (ad := ad) (μ := μ) (lay_lt hk (Or.inl (by omega))) (ce_obj hk)
  have hf : f < nf c := by rw [F3]; exact F2
  rcases F6 with F6 | ⟨host, F6⟩
  · exact va_get hc.1 hc.2.1 hc.2.2.2.2.1 F4 hc.2.2.2.1 hc.2.2.2.2.2.1.1 hP k he F1 f F2 (hc.2.2.2.2.1 _ F6) (fun x h => by rw [F5] at h; exact h) (by rw [fs_at hf, hv]) d (kk p l e R' s m args below meth c' H locs D tc ls r ν hc hP hD hS hl hX)
  · exact va_getN hc.1 hc.2.1 hc.2.2.2.2.1 F4 hc.2.2.2.1 hc.2.2.2.2.2.1.1 hP k he F1 f F2 (va_Nw.use rfl (hc.2.2.2.2.2.1.2 _ F6)) (fun x h => by rw [F5] at h; exact h) (by rw [fs_at hf, hv]) d (kk p l e R' s m args below meth c' H locs D tc ls r ν hc hP hD hS hl hX)
/-- what a put needs of its class -/
def Fp (T : u_T) (N : Nat) (tys : Nat → FieldType) (f : Nat) : Prop :=
  (∀ k, k < N → parseFieldDescriptor (T k).2.2.1 = some (tys k)) ∧ (∀ a, a < N → ∀ b, b < N → a ≠ b → (T a).2.1 ≠ (T b).2.1) ∧ (T f).2.2.2 = false
theorem g_putG {k c f i N : Nat} {R : String} {T : u_T} {v : Int32} {tys : Nat → FieldType} {Z : Mem → Option (ρ × Mem)} (hk : lay k = (c + 3, 0)) (F : Fo c R T N f C.1 i) (F' : Fp T N tys f) (ho : off c f = none) (hn : narrow (tys f) (.int v) = .int v) (hfit : fits (tys f) (.int v) = true) (d : decode C.2.1 pc = .ok (.putfield i, 3)) (kk : ∀ μ', G C ad enc (pc + 3) L st μ' (Z μ')) : G C ad enc pc L (.int v :: .ref (ad k) :: st) μ (bnd (setI μ k f v) Z) := by
  obtain ⟨F1, F2, F3, F4, F5, F6⟩ := F
  intro p l e R' s m args below meth c' H locs D tc ls r ν hc hP hD hS hl hX
  have hlt := lay_lt hk (Or.inl (by omega))
  have he := wl_in (tc := tc) (ad := ad) (μ := μ) hlt (ce_obj hk)
  have hf : f < nf c := by rw [F3]; exact F2
  have hset := wl_set (tc := tc) (ad := ad) (ce_objset (tc := tc) (ad := ad) (μ := μ) (v := v) hk hf ho) set1_other set1_other2
  rcases F6 with F6 | ⟨host, F6⟩
  · refine va_put hc.1 hc.2.1 hc.2.2.2.2.1 F4 tys F'.1 F'.2.1 hc.2.2.2.1 hc.2.2.2.2.2.1.1 hP hD hS k he F1 f F2 (hc.2.2.2.2.1 _ F6) (fun x h => by rw [F5] at h; exact h) F'.2.2 (F'.1 f F2) hn hfit (by simp [hf]) d (fun H1 locs1 hP1 hD1 hS1 => ?_)
    rw [hset] at hP1 hD1
    exact kk _ p l e R' s m args below meth c' H1 locs1 D tc ls r ν hc hP1 hD1 hS1 hl hX
  · refine va_putN hc.1 hc.2.1 hc.2.2.2.2.1 F4 tys F'.1 F'.2.1 hc.2.2.2.1 hc.2.2.2.2.2.1.1 hP hD hS k he F1 f F2 (va_Nw.use rfl (hc.2.2.2.2.2.1.2 _ F6)) (fun x h => by rw [F5] at h; exact h) F'.2.2 (F'.1 f F2) hn hfit (by simp [hf]) d (fun H1 locs1 hP1 hD1 hS1 => ?_)
    rw [hset] at hP1 hD1
    exact kk _ p l e R' s m args below meth c' H1 locs1 D tc ls r ν hc hP1 hD1 hS1 hl hX
theorem g_put {k c f i N : Nat} {R : String} {T : u_T} {v : Int32} {tys : Nat → FieldType} {Z : Mem → Option (ρ × Mem)} (hk : lay k = (c + 3, 0)) (F : Fo c R T N f C.1 i) (F' : Fp T N tys f) (ho : off c f = none) (ht : tys f = .int) (d : decode C.2.1 pc = .ok (.putfield i, 3)) (kk : ∀ μ', G C ad enc (pc + 3) L st μ' (Z μ')) : G C ad enc pc L (.int v :: .ref (ad k) :: st) μ (bnd (setI μ k f v) Z) :=
  g_putG hk F F' ho (by rw [ht]; rfl) (by rw [ht]; rfl) d kk
theorem g_putZ {k c f i N : Nat} {R : String} {T : u_T} {v : Int32} {tys : Nat → FieldType} {Z : Mem → Option (ρ × Mem)} (hb : isB v = true) (hk : lay k = (c + 3, 0)) (F : Fo c R T N f C.1 i) (F' : Fp T N tys f) (ho : off c f = none) (ht : tys f = .boolean) (d : decode C.2.1 pc = .ok (.putfield i, 3)) (kk : ∀ μ', G C ad enc (pc + 3) L st μ' (Z μ')) : G C ad enc pc L (.int v :: .ref (ad k) :: st) μ (bnd (setI μ k f v) Z) :=
  g_putG hk F F' ho (by rw [ht]; exact isB_nar hb) (by rw [ht]; rcases of_decide_eq_true hb with rfl | rfl <;> rfl) d kk
theorem g_putZG {k c f i N : Nat} {R : String} {T : u_T} {v : Int32} {tys : Nat → FieldType} {Z : Mem → Option (ρ × Mem)} (hk : lay k = (c + 3, 0)) (F : Fo c R T N f C.1 i) (F' : Fp T N tys f) (ho : off c f = none) (ht : tys f = .boolean) (d : decode C.2.1 pc = .ok (.putfield i, 3)) (kk : ∀ μ', G C ad enc (pc + 3) L st μ' (Z μ')) : G C ad enc pc L (.int v :: .ref (ad k) :: st) μ (gd (isB v) (bnd (setI μ k f v) Z)) :=
  g_gd (fun h => g_putZ h hk F F' ho ht d kk)
theorem g_iald {k n : Nat} {i : Int32} (hk : lay k = (0, n)) (hn : n ≠ 0) (d : decode C.2.1 pc = .ok (.iaload, 1)) (kk : G C ad enc (pc + 1) L (.int (μ.1 k i.toNatClampNeg) :: st) μ X) : G C ad enc pc L (.int i :: .ref (ad k) :: st) μ (gd (inb i n) X) := g_gd (fun h => by
  intro p l e R' s m args below meth c' H locs D tc ls r ν hc hP hD hS hl hX
  exact va_iald hc.1 hc.2.1 hc.2.2.2.2.2.1.1 hP k 0 (wl_in (lay_lt hk (Or.inr hn)) (ce_int hk)) rfl (inb_in h) d (kk p l e R' s m args below meth c' H locs D tc ls r ν hc hP hD hS hl hX))
theorem g_lald {k n : Nat} {i : Int32} (hk : lay k = (1, n)) (d : decode C.2.1 pc = .ok (.laload, 1)) (kk : G C ad enc (pc + 1) L (.long (μ.2 k i.toNatClampNeg) :: st) μ X) : G C ad enc pc L (.int i :: .ref (ad k) :: st) μ (gd (inb i n) X) := g_gd (fun h => by
  intro p l e R' s m args below meth c' H locs D tc ls r ν hc hP hD hS hl hX
  exact va_lald hc.1 hc.2.1 hc.2.2.2.2.2.1.1 hP k 1 (wl_in (lay_lt hk (Or.inl (by omega))) (ce_long hk)) rfl (inb_in h) d (kk p l e R' s m args below meth c' H locs D tc ls r ν hc hP hD hS hl hX))
theorem g_aald {k n : Nat} {i : Int32} (hk : lay k = (2, n)) (d : decode C.2.1 pc = .ok (.aaload, 1)) (kk : i.toNatClampNeg < n → G C ad enc (pc + 1) L (.ref (ad (k + 1 + i.toNatClampNeg)) :: st) μ X) : G C ad enc pc L (.int i :: .ref (ad k) :: st) μ (gd (inb i n) X) := g_gd (fun h => by
  have hin : vp_in i n := inb_in h
  have hlt : i.toNatClampNeg < n := Nat.not_le.mp fun q => hin (Or.inr q)
  intro p l e R' s m args below meth c' H locs D tc ls r ν hc hP hD hS hl hX
  have he := wl_in (tc := tc) (ad := ad) (μ := μ) (lay_lt hk (Or.inl (by omega))) (ce_out hk)
  refine W.aald (v := .ref (ad (k + 1 + i.toNatClampNeg))) (ty := .array .int) hc.1 hc.2.1 (hP k _ he) ((hc.2.2.2.2.2.1.1.2 2 _ rfl).1 n (fun j => va_rf (if j < n then some (ad (k + 1 + j)) else none))) rfl (fun q => by cases q) (by show ¬ (i < 0 ∨ (arrV _ _ _).slots.size ≤ _); rw [arrV_size]; exact hin) ?_ rfl rfl d (kk hlt p l e R' s m args below meth c' H locs D tc ls r ν hc hP hD hS hl hX)
  show (arrV _ _ _).slots[_]? = _
  rw [arrV_read _ _ hlt]
  simp [va_rf, hlt])
theorem g_alen {k n : Nat} {v : Int32} (hk : lay k = (0, n)) (hn : n ≠ 0) (hv : Int32.ofNat n = v) (d : decode C.2.1 pc = .ok (.arraylength, 1)) (kk : G C ad enc (pc + 1) L (.int v :: st) μ X) : G C ad enc pc L (.ref (ad k) :: st) μ X := by
  intro p l e R' s m args below meth c' H locs D tc ls r ν hc hP hD hS hl hX
  exact va_alen hc.1 hc.2.1 hc.2.2.2.2.2.1.1 hP k 0 (wl_in (lay_lt hk (Or.inr hn)) (ce_int hk)) rfl hv d (kk p l e R' s m args below meth c' H locs D tc ls r ν hc hP hD hS hl hX)
theorem g_iast {k n : Nat} {i v : Int32} {Z : Mem → Option (ρ × Mem)} (hk : lay k = (0, n)) (hn : n ≠ 0) (d : decode C.2.1 pc = .ok (.iastore, 1)) (kk : ∀ μ', G C ad enc (pc + 1) L st μ' (Z μ')) : G C ad enc pc L (.int v :: .int i :: .ref (ad k) :: st) μ (gd (inb i n) (bnd (setI μ k i.toNatClampNeg v) Z)) := g_gd (fun h => by
  intro p l e R' s m args below meth c' H locs D tc ls r ν hc hP hD hS hl hX
  refine va_iast hc.1 hc.2.1 hc.2.2.2.2.2.1.1 hP hD hS k 0 (wl_in (lay_lt hk (Or.inr hn)) (ce_int hk)) rfl (inb_in h) d (fun H1 locs1 hP1 hD1 hS1 => ?_)
  rw [wl_set (ν := setI μ k i.toNatClampNeg v) (by rw [ce_int hk]; simp [setI]) set1_other set1_other2] at hP1 hD1
  exact kk _ p l e R' s m args below meth c' H1 locs1 D tc ls r ν hc hP1 hD1 hS1 hl hX)
theorem g_last {k n : Nat} {i : Int32} {v : Int64} {Z : Mem → Option (ρ × Mem)} (hk : lay k = (1, n)) (d : decode C.2.1 pc = .ok (.lastore, 1)) (kk : ∀ μ', G C ad enc (pc + 1) L st μ' (Z μ')) : G C ad enc pc L (.long v :: .int i :: .ref (ad k) :: st) μ (gd (inb i n) (bnd (setJ μ k i.toNatClampNeg v) Z)) := g_gd (fun h => by
  intro p l e R' s m args below meth c' H locs D tc ls r ν hc hP hD hS hl hX
  refine va_last hc.1 hc.2.1 hc.2.2.2.2.2.1.1 hP hD hS k 1 (wl_in (lay_lt hk (Or.inl (by omega))) (ce_long hk)) rfl (inb_in h) d (fun H1 locs1 hP1 hD1 hS1 => ?_)
  rw [wl_set (ν := setJ μ k i.toNatClampNeg v) (by rw [ce_long hk]; simp [setJ]) set2_other set2_other2] at hP1 hD1
  exact kk _ p l e R' s m args below meth c' H1 locs1 D tc ls r ν hc hP1 hD1 hS1 hl hX)
def cpok (sp dp n : Int32) (N0 N1 : Nat) : Bool := decide (¬ sp < 0 ∧ ¬ dp < 0 ∧ ¬ n < 0 ∧ sp.toNatClampNeg + n.toNatClampNeg ≤ N0 ∧ dp.toNatClampNeg + n.toNatClampNeg ≤ N1)
theorem g_copy {k j n0 n1 i q : Nat} {sp dp n : Int32} {Z : Mem → Option (ρ × Mem)} (hC : C.2.2.2.2 = q + 1) (hk : lay j = (0, n0)) (hn : n0 ≠ 0) (hk1 : lay k = (0, n1)) (hn1 : n1 ≠ 0)
    (hw : Cond.methodLink C.1 i arraycopyName ∈ TB ∧ Cond.native arraycopyName ∈ TB ∧ Cond.static arraycopyName ∈ TB ∧ Cond.initialized "java/lang/System" ∈ TB) (d : decode C.2.1 pc = .ok (.invokestatic i, 3)) (kk : ∀ μ', G C ad enc (pc + 3) L [] μ' (Z μ')) :
    G C ad enc pc L [.int n, .int dp, .ref (ad k), .int sp, .ref (ad j)] μ (gd (cpok sp dp n n0 n1) (bnd (cpyI μ j k sp.toNatClampNeg dp.toNatClampNeg n.toNatClampNeg) Z)) := g_gd (fun h => by
  obtain ⟨h1, h2, h3, h4, h5⟩ := of_decide_eq_true h
  intro p l e R' s m args below meth c' H locs D tc ls r ν hc hP hD hS hl hX
  have hR := hc.2.2.2.2.2.2.2.2.1
  have hfr : 1 ≤ R'.frames := by rw [hR, hC]; simp [rmd]
  have hlo : (([] : List Value).map fun v => v.category).sum + (nativeFrameWords "java/lang/System" "arraycopy" 5 + 11) ≤ R'.locals := by
    have h9 : nativeFrameWords "java/lang/System" "arraycopy" 5 + 11 ≤ 39 := by decide +kernel
    rw [hR, hC]
    simp only [rmd, List.map_nil, List.sum_nil]
    omega
  refine va_copyi hc.1 hc.2.1 (by rw [hc.2.2.1]; exact hl.1.symm) hc.2.2.2.1 (hc.2.2.2.2.1 _ hw.1) (hc.2.2.2.2.1 _ hw.2.1) (hc.2.2.2.2.1 _ hw.2.2.1) (hc.2.2.2.2.1 _ hw.2.2.2) hc.2.2.2.2.2.1.1 hP hD hS j k 0 0 (wl_in (lay_lt hk (Or.inr hn)) (ce_int hk)) (wl_in (lay_lt hk1 (Or.inr hn1)) (ce_int hk1)) rfl rfl rfl h1 h2 h3 h4 h5 (fun _ _ => rfl) hfr hlo d (fun H1 locs1 hP1 hD1 hS1 => ?_)
  rw [wl_set (μ := μ) (ν := cpyI μ j k sp.toNatClampNeg dp.toNatClampNeg n.toNatClampNeg) (by rw [ce_int hk1]; simp [cpyI]) (fun j h => by simp [cpyI, h]) (fun j h => rfl)] at hP1 hD1
  exact kk _ p l e R' s m args below meth c' H1 locs1 D tc ls r ν hc hP1 hD1 hS1 hl hX)
/-- what a call needs of the callee -/
def Mo (y : MethodName) (C' : Cfg) (n : Nat) : Prop := Cond.code y C'.2.1 C'.2.2.1 C'.2.2.2.1 ∈ TB ∧ Cond.initialized y.cls ∈ TB ∧ (y.cls ≠ "java/lang/invoke/MethodHandle" ∧ y.cls ≠ "java/lang/invoke/VarHandle") ∧ (parseMethodDescriptor y.desc).map (fun d => d.parameters.length) = some n
def Mv (y : MethodName) (C' : Cfg) (n : Nat) : Prop := Mo y C' n ∧ Cond.instanceMethod y ∈ TB ∧ Cond.selects y.cls y y ∈ TB
def Ms (y : MethodName) (C' : Cfg) (n : Nat) : Prop := Mo y C' n ∧ Cond.static y ∈ TB
def Ln (own : String) (i : Nat) (y : MethodName) : Prop := Cond.methodLink own i y ∈ TB ∨ ∃ host, Cond.methodLinkNest own i y host ∈ NT
theorem tb_good {y : MethodName} {C' : Cfg} (h : Cond.code y C'.2.1 C'.2.2.1 C'.2.2.2.1 ∈ TB) : GoodIn TB (.code y C'.2.1 C'.2.2.1 C'.2.2.2.1 :: TB) := by
  intro w hw
  rcases List.mem_cons.mp hw with rfl | hw
  · exact ⟨h, good_of_word (List.mem_filter.mp h).2⟩
  · exact ⟨hw, good_of_word (List.mem_filter.mp hw).2⟩
theorem mo_len {y : MethodName} {n : Nat} (h2 : (parseMethodDescriptor y.desc).map (fun d => d.parameters.length) = some n) : ∀ sig, parseMethodDescriptor y.desc = some sig → n = sig.parameters.length := fun sig h => by
  rw [h] at h2
  exact (Option.some.inj h2).symm
theorem blind {D : va_G} {tc : Nat → ClassId} {μ : Mem} {av : List Value} : FrameBlind (va_Pc av (fun U => va_P D cls (wl tc ad μ) U.heap ∧ va_D (A62 ad) (wl tc ad μ) ∧ Ka D tc U ∧ TX (A62 ad) U U.heap)) :=
  fun a U g mk q => ⟨q.1, q.2.1, q.2.2.1, Ka.same (s := U) (U := U.calling g mk a) rfl q.2.2.2.1, TX.same (s := U) (U := U.calling g mk a) q.2.2.2.2 rfl rfl⟩
variable {σ : Type} {enc2 : σ → Option Value}
/-- behind a call -/
theorem g_back {p : Program} {l : Launch} {e : Env} {R : Room} {s : State} {m : MethodId} {args : Array Value} {below : List Frame} {meth : Method} {c : Code} {H : Heap} {locs : List Loc} {D : va_G} {tc : Nat → ClassId} {ls : Array Slot} {r : ρ} {ν ν2 : Mem} {r2 : σ} {st2 : List Value}
    (hc : Cx C D tc ad p R s m args meth c) (hD : va_D (A62 ad) (wl tc ad μ)) (hS : va_S (A62 ad) s.heap H locs) (hl : lv_has ls C.2.2.1 L) (hX : X = some (r, ν)) {a : Array Value} {st1 : List Value}
    (hr : va_Run p l e R s m args below meth c H locs 0 0 0 0 (F0 m pc ls st1) st2 (Qr D tc ad enc2 r2 ν2 a) (A62 ad)) (kk : G C ad enc (pc + 3) L ((enc2 r2).toList ++ st2) ν2 X) :
    W p l e R s m args below meth c H locs 0 0 (MQ below (Qr D tc ad enc r ν) args s 0 0 (A62 ad)) (F0 m pc ls st1) := by
  intro T hT XX
  obtain ⟨v, st₀, t, T', L', h0, X', hL, e1, e2, ⟨hv, hb, hz, hk⟩, stp⟩ := hr T hT XX
  cases hv
  rw [h0] at hz hk
  have hS' : va_S (A62 ad) s.heap T'.heap (locs ++ L') := ⟨Nat.le_trans hS.1 (by rw [e1]; exact hz), fun q h1 h2 => by rw [e1, hk q (Nat.lt_of_lt_of_le h1 hS.1) h2]; exact hS.2.1 q h1 h2, fun q hq => by
      rcases List.mem_append.mp hq with h | h
      · exact hS.2.2 q h
      · exact hL q h⟩
  have hD' : va_D (A62 ad) (wl tc ad ν2) := by
    have key : ∀ (i : Nat) (x : Nat × va_E), (wl tc ad ν2)[i]? = some x → ∃ y, (wl tc ad μ)[i]? = some y ∧ y.1 = x.1 := by
      intro i x hx
      have hi : i < NC := by have := (List.getElem?_eq_some_iff.mp hx).1; rwa [wl_len] at this
      rw [wl_at hi] at hx
      cases hx
      exact ⟨_, wl_at hi, rfl⟩
    refine ⟨fun i j x y hi hj hxy => ?_, fun k q hk => ?_⟩
    · obtain ⟨x0, h1, h2⟩ := key i x hi
      obtain ⟨y0, h3, h4⟩ := key j y hj
      exact hD.1 i j x0 y0 h1 h3 (h2.trans (hxy.trans h4.symm))
    · obtain ⟨q0, h1, h2⟩ := key k q hk
      rw [← h2]
      exact hD.2 k q0 h1
  obtain ⟨t2, a1, b1⟩ := kk p l e R s m args below meth c T'.heap (locs ++ L') D tc ls r ν hc (by rw [e1]; exact hb) hD' hS' hl hX T' rfl X'
  exact ⟨t2, stp t2 a1, b1⟩
theorem g_callV0 {k c f i n N : Nat} {T : u_T} {y : MethodName} {C' : Cfg} {As : List Value} {st1 : List Value} {r2 : σ} {ν2 : Mem} {Y : Option (σ × Mem)} (hk : lay k = (c + 3, 0)) (hcl : cls[c]? = some (y.cls, T, N)) (hM : Mv y C' n) (hL : Ln C.1 i y) (hct : Ct y C' ad enc2 (.ref (ad k) :: As) μ Y) (hY : Y = some (r2, ν2)) (hn : As.length = n) (hdep : C'.2.2.2.2 + 1 ≤ C.2.2.2.2 ∧ C'.2.2.1 ≤ 20) (hst : st1 = As.reverse ++ .ref (ad k) :: st) (hW : (st.map fun v => v.category).sum ≤ 8) (d : decode C.2.1 pc = .ok (.invokevirtual i, 3)) (kk : G C ad enc (pc + 3) L ((enc2 r2).toList ++ st) ν2 X) : G C ad enc pc L st1 μ X := by
  obtain ⟨⟨M1, M2, M3, M4⟩, M5, M6⟩ := hM
  intro p l e R' s m args below meth c' H locs D tc ls r ν hc hP hD hS hl hX
  have hts := hc.2.2.2.2.1
  have hR := hc.2.2.2.2.2.2.2.2.1
  have he := wl_in (tc := tc) (ad := ad) (μ := μ) (lay_lt hk (Or.inl (by omega))) (ce_obj hk)
  have hroom : (rmd C'.2.2.2.2).frames + 1 ≤ R'.frames ∧ 8 + (C'.2.2.1 + 11) + (rmd C'.2.2.2.2).locals ≤ R'.locals := by rw [hR]; simp only [rmd]; omega
  have hpre : PreV s H y.cls (ad k) (va_Pc (.ref (ad k) :: As) (fun U => va_P D cls (wl tc ad μ) U.heap ∧ va_D (A62 ad) (wl tc ad μ) ∧ Ka D tc U ∧ TX (A62 ad) U U.heap)) As := ⟨blind, va_recv hc.2.2.2.2.2.1.1 hP hcl he, fun U hU hW => ⟨rfl, by rw [hU]; exact hP, hD, hc.2.2.2.2.2.1.warm hW, hc.2.2.2.2.2.2.2.2.2.go hS hU hW⟩⟩
  subst hst
  refine g_back hc hD hS hl hX (a := (Value.ref (ad k) :: As).toArray) (st2 := st) ?_ kk
  have hfix : CallFix p m c' C.2.1 C.2.2.1 s args TB C.1 := ⟨hc.1, hc.2.1, hc.2.2.1, hc.2.2.2.1, hts⟩
  rcases hL with hL | ⟨host, hL⟩
  · exact va_runV hfix (hct l D tc r2 ν2 hY) ⟨⟨rfl, rfl, hroom.1, hroom.2, pay_in hts (tb_good M1), List.mem_cons_self, hts _ M1, hts _ M2, M3, mo_len M4, hts _ hL⟩, hts _ M5, hts _ M6⟩ hpre rfl hn hl.1 rfl (lv_room hW) d ⟨Nat.zero_le _, Nat.zero_le _⟩
  · exact va_runVN hfix (hct l D tc r2 ν2 hY) ⟨⟨⟨rfl, rfl, hroom.1, hroom.2, pay_in hts (tb_good M1), List.mem_cons_self⟩, hts _ M1, hts _ M2, M3, mo_len M4, va_Nw.use rfl (hc.2.2.2.2.2.1.2 _ hL)⟩, hts _ M5, hts _ M6⟩ hpre rfl hn hl.1 rfl (lv_room hW) d ⟨Nat.zero_le _, Nat.zero_le _⟩
theorem g_callS0 {i n : Nat} {y : MethodName} {C' : Cfg} {As : List Value} {st1 : List Value} {r2 : σ} {ν2 : Mem} {Y : Option (σ × Mem)} (hM : Ms y C' n) (hL : Ln C.1 i y) (hct : Ct y C' ad enc2 As μ Y) (hY : Y = some (r2, ν2)) (hn : As.length = n) (hdep : C'.2.2.2.2 + 1 ≤ C.2.2.2.2 ∧ C'.2.2.1 ≤ 20) (hst : st1 = As.reverse ++ st) (hW : (st.map fun v => v.category).sum ≤ 8) (d : decode C.2.1 pc = .ok (.invokestatic i, 3)) (kk : G C ad enc (pc + 3) L ((enc2 r2).toList ++ st) ν2 X) : G C ad enc pc L st1 μ X := by
  obtain ⟨⟨M1, M2, M3, M4⟩, M5⟩ := hM
  intro p l e R' s m args below meth c' H locs D tc ls r ν hc hP hD hS hl hX
  have hts := hc.2.2.2.2.1
  have hR := hc.2.2.2.2.2.2.2.2.1
  have hroom : (rmd C'.2.2.2.2).frames + 1 ≤ R'.frames ∧ 8 + (C'.2.2.1 + 11) + (rmd C'.2.2.2.2).locals ≤ R'.locals := by rw [hR]; simp only [rmd]; omega
  have hpre : PreS s H (va_Pc As (fun U => va_P D cls (wl tc ad μ) U.heap ∧ va_D (A62 ad) (wl tc ad μ) ∧ Ka D tc U ∧ TX (A62 ad) U U.heap)) As := ⟨blind, fun U hU hW => ⟨rfl, by rw [hU]; exact hP, hD, hc.2.2.2.2.2.1.warm hW, hc.2.2.2.2.2.2.2.2.2.go hS hU hW⟩⟩
  subst hst
  refine g_back hc hD hS hl hX (a := As.toArray) (st2 := st) ?_ kk
  have hfix : CallFix p m c' C.2.1 C.2.2.1 s args TB C.1 := ⟨hc.1, hc.2.1, hc.2.2.1, hc.2.2.2.1, hts⟩
  rcases hL with hL | ⟨host, hL⟩
  · exact va_runS hfix (hct l D tc r2 ν2 hY) ⟨⟨rfl, rfl, hroom.1, hroom.2, pay_in hts (tb_good M1), List.mem_cons_self, hts _ M1, hts _ M2, M3, mo_len M4, hts _ hL⟩, hts _ M5⟩ hpre rfl hn hl.1 rfl (lv_room hW) d ⟨Nat.zero_le _, Nat.zero_le _⟩
  · exact va_runSN hfix (hct l D tc r2 ν2 hY) ⟨⟨⟨rfl, rfl, hroom.1, hroom.2, pay_in hts (tb_good M1), List.mem_cons_self⟩, hts _ M1, hts _ M2, M3, mo_len M4, va_Nw.use rfl (hc.2.2.2.2.2.1.2 _ hL)⟩, hts _ M5, trivial⟩ hpre rfl hn hl.1 rfl (lv_room hW) d ⟨Nat.zero_le _, Nat.zero_le _⟩
theorem g_bd {Y : Option (σ × Mem)} {Z : σ → Mem → Option (ρ × Mem)} (h : ∀ r2 ν2, Y = some (r2, ν2) → G C ad enc pc L st μ (Z r2 ν2)) : G C ad enc pc L st μ (bd Y Z) := by
  cases Y with
  | none => exact g_none
  | some q => exact h q.1 q.2 rfl
theorem g_cVI {k c i n N : Nat} {T : u_T} {y : MethodName} {C' : Cfg} {st1 : List Value} {Y : Option (Int32 × Mem)} {Z : Int32 → Mem → Option (ρ × Mem)} (As : List Value) (hk : lay k = (c + 3, 0)) (hcl : cls[c]? = some (y.cls, T, N)) (hM : Mv y C' n) (hL : Ln C.1 i y) (hct : Ct y C' ad encI (.ref (ad k) :: As) μ Y) (hn : As.length = n) (hdep : C'.2.2.2.2 + 1 ≤ C.2.2.2.2 ∧ C'.2.2.1 ≤ 20) (hst : st1 = As.reverse ++ .ref (ad k) :: st) (hW : (st.map fun v => v.category).sum ≤ 8) (d : decode C.2.1 pc = .ok (.invokevirtual i, 3)) (kk : ∀ r2 ν2, G C ad enc (pc + 3) L (.int r2 :: st) ν2 (Z r2 ν2)) : G C ad enc pc L st1 μ (bd Y Z) :=
  g_bd (fun r2 ν2 h => g_callV0 (f := 0) hk hcl hM hL hct h hn hdep hst hW d (kk r2 ν2))
theorem g_cVJ {k c i n N : Nat} {T : u_T} {y : MethodName} {C' : Cfg} {st1 : List Value} {Y : Option (Int64 × Mem)} {Z : Int64 → Mem → Option (ρ × Mem)} (As : List Value) (hk : lay k = (c + 3, 0)) (hcl : cls[c]? = some (y.cls, T, N)) (hM : Mv y C' n) (hL : Ln C.1 i y) (hct : Ct y C' ad encJ (.ref (ad k) :: As) μ Y) (hn : As.length = n) (hdep : C'.2.2.2.2 + 1 ≤ C.2.2.2.2 ∧ C'.2.2.1 ≤ 20) (hst : st1 = As.reverse ++ .ref (ad k) :: st) (hW : (st.map fun v => v.category).sum ≤ 8) (d : decode C.2.1 pc = .ok (.invokevirtual i, 3)) (kk : ∀ r2 ν2, G C ad enc (pc + 3) L (.long r2 :: st) ν2 (Z r2 ν2)) : G C ad enc pc L st1 μ (bd Y Z) :=
  g_bd (fun r2 ν2 h => g_callV0 (f := 0) hk hcl hM hL hct h hn hdep hst hW d (kk r2 ν2))
theorem g_cVV {k c i n N : Nat} {T : u_T} {y : MethodName} {C' : Cfg} {st1 : List Value} {Y : Option (Unit × Mem)} {Z : Unit → Mem → Option (ρ × Mem)} (As : List Value) (hk : lay k = (c + 3, 0)) (hcl : cls[c]? = some (y.cls, T, N)) (hM : Mv y C' n) (hL : Ln C.1 i y) (hct : Ct y C' ad encV (.ref (ad k) :: As) μ Y) (hn : As.length = n) (hdep : C'.2.2.2.2 + 1 ≤ C.2.2.2.2 ∧ C'.2.2.1 ≤ 20) (hst : st1 = As.reverse ++ .ref (ad k) :: st) (hW : (st.map fun v => v.category).sum ≤ 8) (d : decode C.2.1 pc = .ok (.invokevirtual i, 3)) (kk : ∀ r2 ν2, G C ad enc (pc + 3) L st ν2 (Z r2 ν2)) : G C ad enc pc L st1 μ (bd Y Z) :=
  g_bd (fun r2 ν2 h => g_callV0 (f := 0) hk hcl hM hL hct h hn hdep hst hW d (kk r2 ν2))
theorem g_cSI {i n : Nat} {y : MethodName} {C' : Cfg} {st1 : List Value} {Y : Option (Int32 × Mem)} {Z : Int32 → Mem → Option (ρ × Mem)} (As : List Value) (hM : Ms y C' n) (hL : Ln C.1 i y) (hct : Ct y C' ad encI As μ Y) (hn : As.length = n) (hdep : C'.2.2.2.2 + 1 ≤ C.2.2.2.2 ∧ C'.2.2.1 ≤ 20) (hst : st1 = As.reverse ++ st) (hW : (st.map fun v => v.category).sum ≤ 8) (d : decode C.2.1 pc = .ok (.invokestatic i, 3)) (kk : ∀ r2 ν2, G C ad enc (pc + 3) L (.int r2 :: st) ν2 (Z r2 ν2)) : G C ad enc pc L st1 μ (bd Y Z) :=
  g_bd (fun r2 ν2 h => g_callS0 hM hL hct h hn hdep hst hW d (kk r2 ν2))
theorem g_cSJ {i n : Nat} {y : MethodName} {C' : Cfg} {st1 : List Value} {Y : Option (Int64 × Mem)} {Z : Int64 → Mem → Option (ρ × Mem)} (As : List Value) (hM : Ms y C' n) (hL : Ln C.1 i y) (hct : Ct y C' ad encJ As μ Y) (hn : As.length = n) (hdep : C'.2.2.2.2 + 1 ≤ C.2.2.2.2 ∧ C'.2.2.1 ≤ 20) (hst : st1 = As.reverse ++ st) (hW : (st.map fun v => v.category).sum ≤ 8) (d : decode C.2.1 pc = .ok (.invokestatic i, 3)) (kk : ∀ r2 ν2, G C ad enc (pc + 3) L (.long r2 :: st) ν2 (Z r2 ν2)) : G C ad enc pc L st1 μ (bd Y Z) :=
  g_bd (fun r2 ν2 h => g_callS0 hM hL hct h hn hdep hst hW d (kk r2 ν2))
end GM
