/-! ===== the memory of both systems: cells by number ===== -/
def NC : Nat := 62
/-- what a cell is: 0 an int array, 1 a long array, 2 an array of the cells behind it, 3 + c an object of class c -/
def lay : Nat → Nat × Nat
  | 0 => (7, 0)
  | 1 => (0, 7)
  | 2 => (6, 0)
  | 3 => (0, 8)
  | 4 => (0, 8)
  | 5 => (2, 8)
  | 6 => (0, 10)
  | 7 => (0, 10)
  | 8 => (0, 10)
  | 9 => (0, 10)
  | 10 => (0, 10)
  | 11 => (0, 10)
  | 12 => (0, 10)
  | 13 => (0, 10)
  | 14 => (6, 0)
  | 15 => (0, 8)
  | 16 => (0, 8)
  | 17 => (2, 8)
  | 18 => (0, 10)
  | 19 => (0, 10)
  | 20 => (0, 10)
  | 21 => (0, 10)
  | 22 => (0, 10)
  | 23 => (0, 10)
  | 24 => (0, 10)
  | 25 => (0, 10)
  | 26 => (6, 0)
  | 27 => (0, 8)
  | 28 => (0, 8)
  | 29 => (2, 8)
  | 30 => (0, 10)
  | 31 => (0, 10)
  | 32 => (0, 10)
  | 33 => (0, 10)
  | 34 => (0, 10)
  | 35 => (0, 10)
  | 36 => (0, 10)
  | 37 => (0, 10)
  | 38 => (5, 0)
  | 39 => (0, 96)
  | 40 => (4, 0)
  | 41 => (0, 12)
  | 42 => (3, 0)
  | 43 => (0, 8)
  | 44 => (0, 8)
  | 45 => (1, 8)
  | 46 => (1, 8)
  | 47 => (8, 0)
  | 48 => (0, 7)
  | 49 => (0, 90)
  | 50 => (0, 9)
  | 51 => (0, 9)
  | 52 => (0, 96)
  | 53 => (0, 50)
  | 54 => (0, 50)
  | 55 => (0, 50)
  | 56 => (0, 50)
  | 57 => (0, 50)
  | 58 => (0, 240)
  | 59 => (1, 9)
  | 60 => (1, 9)
  | 61 => (0, 12)
  | _ => (0, 0)
def off : Nat → Nat → Option Nat
  | 0, 0 => some 1
  | 0, 1 => some 2
  | 0, 2 => some 3
  | 0, 3 => some 4
  | 1, 0 => some 1
  | 2, 0 => some 1
  | 3, 0 => some 1
  | 3, 1 => some 2
  | 3, 2 => some 3
  | 4, 0 => some 2
  | 4, 1 => some 14
  | 4, 2 => some 26
  | 4, 3 => some 38
  | 4, 4 => some 40
  | 4, 5 => some 42
  | 4, 6 => some 1
  | 5, 0 => some 1
  | 5, 1 => some 2
  | 5, 2 => some 3
  | 5, 3 => some 4
  | 5, 6 => some 5
  | 5, 7 => some 6
  | 5, 8 => some 7
  | 5, 9 => some 8
  | 5, 10 => some 9
  | 5, 11 => some 10
  | 5, 15 => some 11
  | 5, 19 => some 12
  | 5, 20 => some 13
  | 5, 21 => some 14
  | _, _ => none
def nf : Nat → Nat
  | 0 => 5
  | 1 => 2
  | 2 => 2
  | 3 => 5
  | 4 => 8
  | 5 => 23
  | _ => 0
abbrev cls : List vw_C := [(RX0, TX0, 5), (RX1, TX1, 2), (RX2, TX2, 2), (RX3, TX3, 5), (RX4, TX4, 8), (RX5, TX5, 23)]

abbrev Mem : Type := (Nat → Nat → Int32) × (Nat → Nat → Int64)
def setI (μ : Mem) (a k : Nat) (v : Int32) : Mem := (fun x => if x = a then upd (μ.1 x) k v else μ.1 x, μ.2)
def setJ (μ : Mem) (a k : Nat) (v : Int64) : Mem := (μ.1, fun x => if x = a then vp_updL (μ.2 x) k v else μ.2 x)
def cpyI (μ : Mem) (a b sp dp n : Nat) : Mem := (fun x => if x = b then va_cpy (μ.1 a) (μ.1 b) sp dp n else μ.1 x, μ.2)
def bnd {α β : Type} (e : α) (k : α → β) : β := k e
def gd {α : Type} (b : Bool) (x : Option α) : Option α := match b with | true => x | false => none
def bd {ρ σ : Type} (y : Option (ρ × Mem)) (z : ρ → Mem → Option (σ × Mem)) : Option (σ × Mem) := match y with | none => none | some q => z q.1 q.2
def inb (i : Int32) (n : Nat) : Bool := decide (¬ (i < 0 ∨ n ≤ i.toNatClampNeg))
def isB (v : Int32) : Bool := decide (v = 0 ∨ v = 1)
theorem inb_in {i : Int32} {n : Nat} (h : inb i n = true) : vp_in i n := (of_decide_eq_true (p := ¬ (i < 0 ∨ n ≤ i.toNatClampNeg)) h : ¬ (i < 0 ∨ n ≤ i.toNatClampNeg))
def fv (ad : Nat → Nat) (μ : Mem) (k c f : Nat) : Value := match off c f with | some d => .ref (ad (k + d)) | none => .int (μ.1 k f)
def ce (tc : Nat → ClassId) (ad : Nat → Nat) (μ : Mem) (k : Nat) : va_E := match (lay k).1 with
  | 0 => .inl (tc 0, (lay k).2, .inl (μ.1 k))
  | 1 => .inl (tc 1, (lay k).2, .inr (.inl (μ.2 k)))
  | 2 => .inl (tc 2, (lay k).2, .inr (.inr (.inr (.inr (fun i => if i < (lay k).2 then some (ad (k + 1 + i)) else none)))))
  | n + 3 => .inr (n, (List.range (nf n)).map (fv ad μ k n))
def wl (tc : Nat → ClassId) (ad : Nat → Nat) (μ : Mem) : va_W := (List.range NC).map (fun k => (ad k, ce tc ad μ k))
theorem wl_at {tc : Nat → ClassId} {ad : Nat → Nat} {μ : Mem} {k : Nat} (h : k < NC) : (wl tc ad μ)[k]? = some (ad k, ce tc ad μ k) := by
  simp [wl, List.getElem?_map, List.getElem?_range, h]
theorem wl_len {tc : Nat → ClassId} {ad : Nat → Nat} {μ : Mem} : (wl tc ad μ).length = NC := by simp [wl]
theorem ce_eq {tc : Nat → ClassId} {ad : Nat → Nat} {μ ν : Mem} {k : Nat} (h1 : μ.1 k = ν.1 k) (h2 : μ.2 k = ν.2 k) : ce tc ad μ k = ce tc ad ν k := by
  have hf : fv ad μ k = fv ad ν k := by
    funext c f
    unfold fv
    rw [h1]
  unfold ce
  rw [h1, h2, hf]
theorem wl_set {tc : Nat → ClassId} {ad : Nat → Nat} {μ ν : Mem} {k : Nat} {e : va_E} (he : ce tc ad ν k = e) (h1 : ∀ j, j ≠ k → μ.1 j = ν.1 j) (h2 : ∀ j, j ≠ k → μ.2 j = ν.2 j) : (wl tc ad μ).set k (ad k, e) = wl tc ad ν := by
  apply List.ext_getElem?
  intro i
  by_cases hi : i < NC
  · rw [List.getElem?_set, wl_len, wl_at hi, wl_at hi]
    by_cases h : k = i
    · subst h
      simp [hi, he]
    · rw [if_neg h, ce_eq (h1 i (fun q => h q.symm)) (h2 i (fun q => h q.symm))]
  · rw [List.getElem?_eq_none (by rw [List.length_set, wl_len]; omega), List.getElem?_eq_none (by rw [wl_len]; omega)]
def A62 (ad : Nat → Nat) : Nat → Prop := fun q => ∃ k, k < NC ∧ q = ad k
def Ka (D : va_G) (tc : Nat → ClassId) (U : State) : Prop := va_K D cls [(tc 0, .int), (tc 1, .long), (tc 2, .array .int)] U ∧ ∀ w ∈ NT, va_Nw w U
theorem Ka.warm {D : va_G} {tc : Nat → ClassId} {s U : State} (hW : s.WarmedH U.vm) (h : Ka D tc s) : Ka D tc U := by
  refine ⟨va_K.moved hW.alike h.1, fun w hw => ?_⟩
  have h1 := h.2 w hw
  have hn : isNest w = true := (List.mem_filter.mp hw).2
  cases w <;> first | exact va_Nw.warmF hW h1 | exact va_Nw.warmM hW h1 | (exact absurd hn (by simp [isNest]))
theorem Ka.same {D : va_G} {tc : Nat → ClassId} {s U : State} (hW : s.vm = U.vm) (h : Ka D tc s) : Ka D tc U := by
  refine ⟨va_K.moved (u := s) (U := U) (by rw [hW]; exact Vm.Alike.refl U.vm) h.1, fun w hw => ?_⟩
  have h1 := h.2 w hw
  have hn : isNest w = true := (List.mem_filter.mp hw).2
  cases w <;> first | exact va_Nw.same rfl hW h1 | (exact absurd hn (by simp [isNest]))
/-- the text of the kinds, and that texts are compact: cells that nobody writes -/
def TX (A : Nat → Prop) (U : State) (H : Heap) : Prop := va_Z "java/lang/String" "COMPACT_STRINGS" "Z" (.int 1) A U H ∧ ∃ adK adV : Nat → Nat, vk_S 1 [6] [[115, 102, 118, 106, 101, 108]] adK adV A U H ∧ vk_R RX2 33 "sfvjel" (adK 0) U
theorem TX.narrow {A B : Nat → Prop} {U : State} {H : Heap} (h : TX A U H) (hAB : ∀ q, B q → A q) : TX B U H := by
  obtain ⟨h1, adK, adV, h2, h3⟩ := h
  exact ⟨h1.narrow hAB, adK, adV, h2.narrow hAB, h3⟩
theorem TX.go {A : Nat → Prop} {s U : State} {H : Heap} {locs : List Loc} (h : TX A s s.heap) (hS : va_S A s.heap H locs) (hU : U.heap = H) (hW : s.WarmedH U.vm) : TX A U U.heap := by
  obtain ⟨h1, adK, adV, h2, h3⟩ := h
  rw [hU]
  exact ⟨va_Z.moved hW.alike (h1.kept hS.2.1), adK, adV, vk_S.moved hW.alike (h2.kept hS.2.1), vk_R.warm hW h3⟩
theorem TX.same {A : Nat → Prop} {s U : State} (h : TX A s s.heap) (hv : s.vm = U.vm) (hH : s.heap = U.heap) : TX A U U.heap := by
  obtain ⟨h1, adK, adV, h2, h3⟩ := h
  have ha : s.vm.Alike U.vm := by rw [hv]; exact Vm.Alike.refl U.vm
  rw [← hH]
  exact ⟨va_Z.moved ha h1, adK, adV, vk_S.moved ha h2, vk_R.same hv.symm h3⟩
def rmd (d : Nat) : Room := { frames := d, cells := 0, slots := 0, locals := 39 * d }
/-- a method: its class, code, locals, answer's type, how deep it calls -/
abbrev Cfg : Type := String × ByteArray × Nat × Option FieldType × Nat
def Qr (D : va_G) (tc : Nat → ClassId) (ad : Nat → Nat) {ρ : Type} (enc : ρ → Option Value) (r : ρ) (μ : Mem) : Array Value → State → Outcome → State → Prop := fun _ st oc t =>
  oc = .returned (enc r) ∧ va_P D cls (wl tc ad μ) t.heap ∧ va_F (A62 ad) st t
def Cx (C : Cfg) (D : va_G) (tc : Nat → ClassId) (ad : Nat → Nat) (p : Program) (R : Room) (s : State) (m : MethodId) (args : Array Value) (meth : Method) (c : Code) : Prop :=
  p.tables.exec = Jvm.exec ∧ c.code = C.2.1 ∧ c.maxLocals = C.2.2.1 ∧ s.vm.findClass C.1 = some m.cls ∧ (∀ w ∈ TB, w.before args s = true) ∧ Ka D tc s ∧ meth.sig.returnType = C.2.2.2.1 ∧ meth.locks = false ∧ R = rmd C.2.2.2.2 ∧ TX (A62 ad) s s.heap
def G (C : Cfg) (ad : Nat → Nat) {ρ : Type} (enc : ρ → Option Value) (pc : Nat) (L : List (Nat × Value)) (st : List Value) (μ : Mem) (X : Option (ρ × Mem)) : Prop :=
  ∀ (p : Program) (l : Launch) (e : Env) (R : Room) (s : State) (m : MethodId) (args : Array Value) (below : List Frame) (meth : Method) (c : Code) (H : Heap) (locs : List Loc) (D : va_G) (tc : Nat → ClassId) (ls : Array Slot) (r : ρ) (ν : Mem),
    Cx C D tc ad p R s m args meth c → va_P D cls (wl tc ad μ) H → va_D (A62 ad) (wl tc ad μ) → va_S (A62 ad) s.heap H locs → lv_has ls C.2.2.1 L → X = some (r, ν) →
    W p l e R s m args below meth c H locs 0 0 (MQ below (Qr D tc ad enc r ν) args s 0 0 (A62 ad)) (F0 m pc ls st)
def encI (v : Int32) : Option Value := some (.int v)
def encJ (v : Int64) : Option Value := some (.long v)
def encV (_ : Unit) : Option Value := none
/-- a method's contract: where the function has an answer, the method has it -/
def Ct (y : MethodName) (C : Cfg) (ad : Nat → Nat) {ρ : Type} (enc : ρ → Option Value) (av : List Value) (μ : Mem) (X : Option (ρ × Mem)) : Prop :=
  ∀ (l : Launch) (D : va_G) (tc : Nat → ClassId) (r : ρ) (ν : Mem), X = some (r, ν) →
    Met l y (.code y C.2.1 C.2.2.1 C.2.2.2.1 :: TB) (rmd C.2.2.2.2) (va_Pc av (fun U => va_P D cls (wl tc ad μ) U.heap ∧ va_D (A62 ad) (wl tc ad μ) ∧ Ka D tc U ∧ TX (A62 ad) U U.heap)) (Qr D tc ad enc r ν) 0 0 (A62 ad)
theorem met_ofWF {l : Launch} {y : MethodName} {ws ws' : List Cond} {rm : Room} {Pc : Array Value → State → Prop} {Qc : Array Value → State → Outcome → State → Prop} {mc ms : Nat} {free : Addr → Prop} {cc : ByteArray} {maxL : Nat} {ret : Option FieldType}
    (hy : plainFor y = true) (hw : ws = Cond.code y cc maxL ret :: ws')
    (body : ∀ p e s m args below meth c s₁, BodyLoose p l y (headSpec ws rm) cc maxL ret e s m args below meth c s₁ → c.maxLocals = maxL → Pc args s →
      W p l e (headSpec ws rm).room s m args below meth c s.heap [] 0 0 (MQ below Qc args s mc ms free) (entryFrame m args maxL)) : Met l y ws rm Pc Qc mc ms free := by
  refine MetFree.of_bodySF (code := cc) (maxLocals := maxL) (ret := ret) hy ?_ ?_
  · intro args s m h hn
    obtain ⟨meth, c, h1, h2, h3, h4, h5, h6, -, -⟩ := Cond.code_spec hn (atoms_spec (ws := ws) h _ (by rw [hw]; exact List.mem_cons_self))
    exact ⟨meth, c, h1, h2, h3, h4, h5, h6⟩
  · intro p e s m args below meth c s₁ B hml hP _
    have hh0 : s₁.heap = s.heap := by rw [B.state]; rfl
    obtain ⟨t, a1, o, b1, b2, b3⟩ := body p e s m args below meth c s₁ B hml hP s₁ hh0 (Stand.of_body B)
    exact ⟨t, o, a1, b1, b2, ⟨b3.1, b3.2⟩⟩
theorem Ct.of {y : MethodName} {C : Cfg} {ad : Nat → Nat} {ρ : Type} {enc : ρ → Option Value} {av : List Value} {μ : Mem} {X : Option (ρ × Mem)} (hy : plainFor y = true) (hc : y.cls = C.1) (hn : (lg_sl av).length ≤ C.2.2.1) (h : G C ad enc 0 (lv_args 0 av) [] μ X) : Ct y C ad enc av μ X := by
  intro l D tc r ν hX
  refine met_ofWF (cc := C.2.1) (maxL := C.2.2.1) (ret := C.2.2.2.1) hy rfl ?_
  intro p e s m args below meth c s₁ B hml hv
  obtain ⟨rfl, hP, hD, hK, hTX⟩ := hv
  have hts := atoms_spec (ws := (Cond.code y C.2.1 C.2.2.1 C.2.2.2.1 :: TB)) B.pre
  have hown : s.vm.findClass C.1 = some m.cls := by rw [← hc]; exact findClass_of_methodNamed B.named
  have hl := lv_entry av (n := C.2.2.1) hn
  rw [lg_entry_eq]
  exact h p l e _ s m _ below meth c s.heap [] D tc _ r ν ⟨B.exec, B.bytes, hml, hown, fun w hw => hts w (List.mem_cons_of_mem _ hw), hK, B.returns, B.notSynchronized, rfl, hTX⟩ hP hD va_S.rf hl hX
section GR
variable {C : Cfg} {ad : Nat → Nat} {ρ : Type} {enc : ρ → Option Value} {pc : Nat} {L : List (Nat × Value)} {st : List Value} {μ : Mem} {X : Option (ρ × Mem)}
theorem g_none : G C ad enc pc L st μ none := by
  intro p l e R s m args below meth c H locs D tc ls r ν hc hP hD hS hl hX
  cases hX
theorem g_ite {q : Prop} [hd : Decidable q] {Y : Option (ρ × Mem)} (ht : q → G C ad enc pc L st μ X) (hf : ¬ q → G C ad enc pc L st μ Y) : G C ad enc pc L st μ (if q then X else Y) := by
  by_cases h : q
  · rw [if_pos h]; exact ht h
  · rw [if_neg h]; exact hf h
theorem g_gd {b : Bool} (h : b = true → G C ad enc pc L st μ X) : G C ad enc pc L st μ (gd b X) := by
  cases b with
  | true => exact h rfl
  | false => exact g_none
theorem g_sub (ks : List Nat) {L' : List (Nat × Value)} (hL : lv_pick L ks = L') (h : G C ad enc pc L' st μ X) : G C ad enc pc L st μ X := by
  intro p l e R s m args below meth c H locs D tc ls r ν hc hP hD hS hl hX
  exact h p l e R s m args below meth c H locs D tc ls r ν hc hP hD hS (lv_sub hl ks hL) hX
theorem g_bnd {α : Type} {v : α} {k : α → Option (ρ × Mem)} (h : ∀ z, G C ad enc pc L st μ (k z)) : G C ad enc pc L st μ (bnd v k) := h v

theorem g_iload_n (j : Nat) {f : Fin 4} {i : Nat} {x : Int32} (d : decode C.2.1 pc = .ok (.iload_n f, 1)) (hi : (f : Nat) = i) (hk : L[j]? = some (i, .int x)) (k : G C ad enc (pc + 1) L (.int x :: st) μ X) : G C ad enc pc L (st) μ X := by
  intro p l e R s m args below meth c H locs D tc ls r ν hc hP hD hS hl hX
  exact lv_iload_n hc.1 hc.2.1 d hi (lv_at hl j hk) (k p l e R s m args below meth c H locs D tc ls r ν hc hP hD hS hl hX)
theorem g_iload (j : Nat) {i : Nat} {x : Int32} (d : decode C.2.1 pc = .ok (.iload i, 2)) (hk : L[j]? = some (i, .int x)) (k : G C ad enc (pc + 2) L (.int x :: st) μ X) : G C ad enc pc L (st) μ X := by
  intro p l e R s m args below meth c H locs D tc ls r ν hc hP hD hS hl hX
  exact lv_iload hc.1 hc.2.1 d (lv_at hl j hk) (k p l e R s m args below meth c H locs D tc ls r ν hc hP hD hS hl hX)
theorem g_lload_n (j : Nat) {f : Fin 4} {i : Nat} {x : Int64} (d : decode C.2.1 pc = .ok (.lload_n f, 1)) (hi : (f : Nat) = i) (hk : L[j]? = some (i, .long x)) (k : G C ad enc (pc + 1) L (.long x :: st) μ X) : G C ad enc pc L (st) μ X := by
  intro p l e R s m args below meth c H locs D tc ls r ν hc hP hD hS hl hX
  exact lv_lload_n hc.1 hc.2.1 d hi (lv_at hl j hk) (k p l e R s m args below meth c H locs D tc ls r ν hc hP hD hS hl hX)
theorem g_lload (j : Nat) {i : Nat} {x : Int64} (d : decode C.2.1 pc = .ok (.lload i, 2)) (hk : L[j]? = some (i, .long x)) (k : G C ad enc (pc + 2) L (.long x :: st) μ X) : G C ad enc pc L (st) μ X := by
  intro p l e R s m args below meth c H locs D tc ls r ν hc hP hD hS hl hX
  exact lv_lload hc.1 hc.2.1 d (lv_at hl j hk) (k p l e R s m args below meth c H locs D tc ls r ν hc hP hD hS hl hX)
theorem g_aload_n (j : Nat) {f : Fin 4} {i : Nat} {x : Nat} (d : decode C.2.1 pc = .ok (.aload_n f, 1)) (hi : (f : Nat) = i) (hk : L[j]? = some (i, .ref x)) (k : G C ad enc (pc + 1) L (.ref x :: st) μ X) : G C ad enc pc L (st) μ X := by
  intro p l e R s m args below meth c H locs D tc ls r ν hc hP hD hS hl hX
  exact lv_aload_n hc.1 hc.2.1 d hi (lv_at hl j hk) (k p l e R s m args below meth c H locs D tc ls r ν hc hP hD hS hl hX)
theorem g_aload (j : Nat) {i : Nat} {x : Nat} (d : decode C.2.1 pc = .ok (.aload i, 2)) (hk : L[j]? = some (i, .ref x)) (k : G C ad enc (pc + 2) L (.ref x :: st) μ X) : G C ad enc pc L (st) μ X := by
  intro p l e R s m args below meth c H locs D tc ls r ν hc hP hD hS hl hX
  exact lv_aload hc.1 hc.2.1 d (lv_at hl j hk) (k p l e R s m args below meth c H locs D tc ls r ν hc hP hD hS hl hX)
theorem g_iconst (v : Int32) {n : Int} (d : decode C.2.1 pc = .ok (.iconst n, 1)) (hv : Int32.ofInt n = v) (k : G C ad enc (pc + 1) L (.int v :: st) μ X) : G C ad enc pc L (st) μ X := by
  intro p l e R s m args below meth c H locs D tc ls r ν hc hP hD hS hl hX
  exact lv_iconst hc.1 hc.2.1 d hv (k p l e R s m args below meth c H locs D tc ls r ν hc hP hD hS hl hX)
theorem g_bipush (v : Int32) {n : Int} (d : decode C.2.1 pc = .ok (.bipush n, 2)) (hv : (Int8.ofInt n).toInt32 = v) (k : G C ad enc (pc + 2) L (.int v :: st) μ X) : G C ad enc pc L (st) μ X := by
  intro p l e R s m args below meth c H locs D tc ls r ν hc hP hD hS hl hX
  exact lv_bipush hc.1 hc.2.1 d hv (k p l e R s m args below meth c H locs D tc ls r ν hc hP hD hS hl hX)
theorem g_sipush (v : Int32) {n : Int} (d : decode C.2.1 pc = .ok (.sipush n, 3)) (hv : (Int16.ofInt n).toInt32 = v) (k : G C ad enc (pc + 3) L (.int v :: st) μ X) : G C ad enc pc L (st) μ X := by
  intro p l e R s m args below meth c H locs D tc ls r ν hc hP hD hS hl hX
  exact lv_sipush hc.1 hc.2.1 d hv (k p l e R s m args below meth c H locs D tc ls r ν hc hP hD hS hl hX)
theorem g_lconst (v : Int64) {n : Fin 2} (d : decode C.2.1 pc = .ok (.lconst n, 1)) (hv : Int64.ofNat (n : Nat) = v) (k : G C ad enc (pc + 1) L (.long v :: st) μ X) : G C ad enc pc L (st) μ X := by
  intro p l e R s m args below meth c H locs D tc ls r ν hc hP hD hS hl hX
  exact lv_lconst hc.1 hc.2.1 d hv (k p l e R s m args below meth c H locs D tc ls r ν hc hP hD hS hl hX)
theorem g_ldc {i : Nat} {v : Int32} (d : decode C.2.1 pc = .ok (.ldc i, 2)) (hw : Cond.constant C.1 i v ∈ TB) (k : G C ad enc (pc + 2) L (.int v :: st) μ X) : G C ad enc pc L (st) μ X := by
  intro p l e R s m args below meth c H locs D tc ls r ν hc hP hD hS hl hX
  exact lv_ldc hc.1 hc.2.1 hc.2.2.2.1 (hc.2.2.2.2.1 _ hw) d (k p l e R s m args below meth c H locs D tc ls r ν hc hP hD hS hl hX)
theorem g_ldcw {i : Nat} {v : Int32} (d : decode C.2.1 pc = .ok (.ldc_w i, 3)) (hw : Cond.constant C.1 i v ∈ TB) (k : G C ad enc (pc + 3) L (.int v :: st) μ X) : G C ad enc pc L (st) μ X := by
  intro p l e R s m args below meth c H locs D tc ls r ν hc hP hD hS hl hX
  exact lv_ldcw hc.1 hc.2.1 hc.2.2.2.1 (hc.2.2.2.2.1 _ hw) d (k p l e R s m args below meth c H locs D tc ls r ν hc hP hD hS hl hX)
theorem g_ldc2 {i : Nat} {v : Int64} (d : decode C.2.1 pc = .ok (.ldc2_w i, 3)) (hw : Cond.constantLong C.1 i v ∈ TB) (k : G C ad enc (pc + 3) L (.long v :: st) μ X) : G C ad enc pc L (st) μ X := by
  intro p l e R s m args below meth c H locs D tc ls r ν hc hP hD hS hl hX
  exact lv_ldc2 hc.1 hc.2.1 hc.2.2.2.1 (hc.2.2.2.2.1 _ hw) d (k p l e R s m args below meth c H locs D tc ls r ν hc hP hD hS hl hX)
theorem g_iadd {x y : Int32} (d : decode C.2.1 pc = .ok (.iadd, 1)) (k : G C ad enc (pc + 1) L (.int (x + y) :: st) μ X) : G C ad enc pc L (.int y :: .int x :: st) μ X := by
  intro p l e R s m args below meth c H locs D tc ls r ν hc hP hD hS hl hX
  exact lv_iadd hc.1 hc.2.1 d (k p l e R s m args below meth c H locs D tc ls r ν hc hP hD hS hl hX)
theorem g_isub {x y : Int32} (d : decode C.2.1 pc = .ok (.isub, 1)) (k : G C ad enc (pc + 1) L (.int (x - y) :: st) μ X) : G C ad enc pc L (.int y :: .int x :: st) μ X := by
  intro p l e R s m args below meth c H locs D tc ls r ν hc hP hD hS hl hX
  exact lv_isub hc.1 hc.2.1 d (k p l e R s m args below meth c H locs D tc ls r ν hc hP hD hS hl hX)
theorem g_imul {x y : Int32} (d : decode C.2.1 pc = .ok (.imul, 1)) (k : G C ad enc (pc + 1) L (.int (x * y) :: st) μ X) : G C ad enc pc L (.int y :: .int x :: st) μ X := by
  intro p l e R s m args below meth c H locs D tc ls r ν hc hP hD hS hl hX
  exact lv_imul hc.1 hc.2.1 d (k p l e R s m args below meth c H locs D tc ls r ν hc hP hD hS hl hX)
theorem g_iand {x y : Int32} (d : decode C.2.1 pc = .ok (.iand, 1)) (k : G C ad enc (pc + 1) L (.int (x &&& y) :: st) μ X) : G C ad enc pc L (.int y :: .int x :: st) μ X := by
  intro p l e R s m args below meth c H locs D tc ls r ν hc hP hD hS hl hX
  exact lv_iand hc.1 hc.2.1 d (k p l e R s m args below meth c H locs D tc ls r ν hc hP hD hS hl hX)
theorem g_ior {x y : Int32} (d : decode C.2.1 pc = .ok (.ior, 1)) (k : G C ad enc (pc + 1) L (.int (x ||| y) :: st) μ X) : G C ad enc pc L (.int y :: .int x :: st) μ X := by
  intro p l e R s m args below meth c H locs D tc ls r ν hc hP hD hS hl hX
  exact lv_ior hc.1 hc.2.1 d (k p l e R s m args below meth c H locs D tc ls r ν hc hP hD hS hl hX)
theorem g_ixor {x y : Int32} (d : decode C.2.1 pc = .ok (.ixor, 1)) (k : G C ad enc (pc + 1) L (.int (x ^^^ y) :: st) μ X) : G C ad enc pc L (.int y :: .int x :: st) μ X := by
  intro p l e R s m args below meth c H locs D tc ls r ν hc hP hD hS hl hX
  exact lv_ixor hc.1 hc.2.1 d (k p l e R s m args below meth c H locs D tc ls r ν hc hP hD hS hl hX)
theorem g_ishl {x y : Int32} (d : decode C.2.1 pc = .ok (.ishl, 1)) (k : G C ad enc (pc + 1) L (.int (x <<< (y &&& 31)) :: st) μ X) : G C ad enc pc L (.int y :: .int x :: st) μ X := by
  intro p l e R s m args below meth c H locs D tc ls r ν hc hP hD hS hl hX
  exact lv_ishl hc.1 hc.2.1 d (k p l e R s m args below meth c H locs D tc ls r ν hc hP hD hS hl hX)
theorem g_ishr {x y : Int32} (d : decode C.2.1 pc = .ok (.ishr, 1)) (k : G C ad enc (pc + 1) L (.int (x >>> (y &&& 31)) :: st) μ X) : G C ad enc pc L (.int y :: .int x :: st) μ X := by
  intro p l e R s m args below meth c H locs D tc ls r ν hc hP hD hS hl hX
  exact lv_ishr hc.1 hc.2.1 d (k p l e R s m args below meth c H locs D tc ls r ν hc hP hD hS hl hX)
theorem g_ladd {x y : Int64} (d : decode C.2.1 pc = .ok (.ladd, 1)) (k : G C ad enc (pc + 1) L (.long (x + y) :: st) μ X) : G C ad enc pc L (.long y :: .long x :: st) μ X := by
  intro p l e R s m args below meth c H locs D tc ls r ν hc hP hD hS hl hX
  exact lv_ladd hc.1 hc.2.1 d (k p l e R s m args below meth c H locs D tc ls r ν hc hP hD hS hl hX)
theorem g_lsub {x y : Int64} (d : decode C.2.1 pc = .ok (.lsub, 1)) (k : G C ad enc (pc + 1) L (.long (x - y) :: st) μ X) : G C ad enc pc L (.long y :: .long x :: st) μ X := by
  intro p l e R s m args below meth c H locs D tc ls r ν hc hP hD hS hl hX
  exact lv_lsub hc.1 hc.2.1 d (k p l e R s m args below meth c H locs D tc ls r ν hc hP hD hS hl hX)
theorem g_lmul {x y : Int64} (d : decode C.2.1 pc = .ok (.lmul, 1)) (k : G C ad enc (pc + 1) L (.long (x * y) :: st) μ X) : G C ad enc pc L (.long y :: .long x :: st) μ X := by
  intro p l e R s m args below meth c H locs D tc ls r ν hc hP hD hS hl hX
  exact lv_lmul hc.1 hc.2.1 d (k p l e R s m args below meth c H locs D tc ls r ν hc hP hD hS hl hX)
theorem g_ineg {x : Int32} (d : decode C.2.1 pc = .ok (.ineg, 1)) (k : G C ad enc (pc + 1) L (.int (-x) :: st) μ X) : G C ad enc pc L (.int x :: st) μ X := by
  intro p l e R s m args below meth c H locs D tc ls r ν hc hP hD hS hl hX
  exact lv_ineg hc.1 hc.2.1 d (k p l e R s m args below meth c H locs D tc ls r ν hc hP hD hS hl hX)
theorem g_iushr {x y : Int32} (d : decode C.2.1 pc = .ok (.iushr, 1)) (k : G C ad enc (pc + 1) L (.int ((x.toUInt32 >>> (y.toUInt32 &&& Int32.toUInt32 31)).toInt32) :: st) μ X) : G C ad enc pc L (.int y :: .int x :: st) μ X := by
  intro p l e R s m args below meth c H locs D tc ls r ν hc hP hD hS hl hX
  exact lv_iushr hc.1 hc.2.1 d rfl (k p l e R s m args below meth c H locs D tc ls r ν hc hP hD hS hl hX)
theorem g_idiv {x y : Int32} (d : decode C.2.1 pc = .ok (.idiv, 1)) (h0 : ¬ y = 0) (k : G C ad enc (pc + 1) L (.int (x / y) :: st) μ X) : G C ad enc pc L (.int y :: .int x :: st) μ X := by
  intro p l e R s m args below meth c H locs D tc ls r ν hc hP hD hS hl hX
  exact lv_idiv hc.1 hc.2.1 d h0 (k p l e R s m args below meth c H locs D tc ls r ν hc hP hD hS hl hX)
theorem g_irem {x y : Int32} (d : decode C.2.1 pc = .ok (.irem, 1)) (h0 : ¬ y = 0) (k : G C ad enc (pc + 1) L (.int (x - x / y * y) :: st) μ X) : G C ad enc pc L (.int y :: .int x :: st) μ X := by
  intro p l e R s m args below meth c H locs D tc ls r ν hc hP hD hS hl hX
  exact lv_irem hc.1 hc.2.1 d h0 (k p l e R s m args below meth c H locs D tc ls r ν hc hP hD hS hl hX)
theorem g_ldiv {x y : Int64} (d : decode C.2.1 pc = .ok (.ldiv, 1)) (h0 : ¬ y = 0) (k : G C ad enc (pc + 1) L (.long (x / y) :: st) μ X) : G C ad enc pc L (.long y :: .long x :: st) μ X := by
  intro p l e R s m args below meth c H locs D tc ls r ν hc hP hD hS hl hX
  exact lv_ldiv hc.1 hc.2.1 d h0 (k p l e R s m args below meth c H locs D tc ls r ν hc hP hD hS hl hX)
theorem g_lrem {x y : Int64} (d : decode C.2.1 pc = .ok (.lrem, 1)) (h0 : ¬ y = 0) (k : G C ad enc (pc + 1) L (.long (x - x / y * y) :: st) μ X) : G C ad enc pc L (.long y :: .long x :: st) μ X := by
  intro p l e R s m args below meth c H locs D tc ls r ν hc hP hD hS hl hX
  exact lv_lrem hc.1 hc.2.1 d h0 (k p l e R s m args below meth c H locs D tc ls r ν hc hP hD hS hl hX)
theorem g_lshl {x : Int64} {y : Int32} (d : decode C.2.1 pc = .ok (.lshl, 1)) (k : G C ad enc (pc + 1) L (.long (x <<< (y.toInt64 &&& 63)) :: st) μ X) : G C ad enc pc L (.int y :: .long x :: st) μ X := by
  intro p l e R s m args below meth c H locs D tc ls r ν hc hP hD hS hl hX
  exact lv_lshl hc.1 hc.2.1 d rfl (k p l e R s m args below meth c H locs D tc ls r ν hc hP hD hS hl hX)
theorem g_i2l {x : Int32} (d : decode C.2.1 pc = .ok (.i2l, 1)) (k : G C ad enc (pc + 1) L (.long x.toInt64 :: st) μ X) : G C ad enc pc L (.int x :: st) μ X := by
  intro p l e R s m args below meth c H locs D tc ls r ν hc hP hD hS hl hX
  exact lv_i2l hc.1 hc.2.1 d rfl (k p l e R s m args below meth c H locs D tc ls r ν hc hP hD hS hl hX)
theorem g_l2i {x : Int64} (d : decode C.2.1 pc = .ok (.l2i, 1)) (k : G C ad enc (pc + 1) L (.int x.toInt32 :: st) μ X) : G C ad enc pc L (.long x :: st) μ X := by
  intro p l e R s m args below meth c H locs D tc ls r ν hc hP hD hS hl hX
  exact lv_l2i hc.1 hc.2.1 d rfl (k p l e R s m args below meth c H locs D tc ls r ν hc hP hD hS hl hX)
theorem g_lcmp {x y : Int64} (d : decode C.2.1 pc = .ok (.lcmp, 1)) (k : G C ad enc (pc + 1) L (.int (lg_cmp x y) :: st) μ X) : G C ad enc pc L (.long y :: .long x :: st) μ X := by
  intro p l e R s m args below meth c H locs D tc ls r ν hc hP hD hS hl hX
  exact W.lcmp hc.1 hc.2.1 d (k p l e R s m args below meth c H locs D tc ls r ν hc hP hD hS hl hX)
theorem g_dup {v : Value} (d : decode C.2.1 pc = .ok (.dup, 1)) (hv : v.category = 1) (k : G C ad enc (pc + 1) L (v :: v :: st) μ X) : G C ad enc pc L (v :: st) μ X := by
  intro p l e R s m args below meth c H locs D tc ls r ν hc hP hD hS hl hX
  exact lv_dup hc.1 hc.2.1 d hv (k p l e R s m args below meth c H locs D tc ls r ν hc hP hD hS hl hX)
theorem g_dup2 {v u : Value} (d : decode C.2.1 pc = .ok (.dup2, 1)) (hv : v.category = 1) (hu : u.category = 1) (k : G C ad enc (pc + 1) L (v :: u :: v :: u :: st) μ X) : G C ad enc pc L (v :: u :: st) μ X := by
  intro p l e R s m args below meth c H locs D tc ls r ν hc hP hD hS hl hX
  exact lv_dup2_11 hc.1 hc.2.1 d hv hu (k p l e R s m args below meth c H locs D tc ls r ν hc hP hD hS hl hX)
theorem g_goto (tgt : Nat) {off : Int} (d : decode C.2.1 pc = .ok (.goto off, 3)) (ht : (pc : Int) + off = (tgt : Int)) (k : G C ad enc tgt L st μ X) : G C ad enc pc L st μ X := by
  intro p l e R s m args below meth c H locs D tc ls r ν hc hP hD hS hl hX
  exact lv_goto hc.1 hc.2.1 d ht (k p l e R s m args below meth c H locs D tc ls r ν hc hP hD hS hl hX)
theorem g_icmp_eq (tgt : Nat) {x y : Int32} {off : Int} {Y : Option (ρ × Mem)} (d : decode C.2.1 pc = .ok (.if_icmp .eq off, 3)) (ht : (pc : Int) + off = (tgt : Int)) (k1 : G C ad enc tgt L st μ X) (k2 : G C ad enc (pc + 3) L st μ Y) : G C ad enc pc L (.int y :: .int x :: st) μ (if x = y then X else Y) := by
  intro p l e R s m args below meth c H locs D tc ls r ν hc hP hD hS hl hX
  exact lv_icmp_eq hc.1 hc.2.1 d ht (fun q => k1 p l e R s m args below meth c H locs D tc ls r ν hc hP hD hS hl (by rw [if_pos q] at hX; exact hX)) (fun q => k2 p l e R s m args below meth c H locs D tc ls r ν hc hP hD hS hl (by rw [if_neg q] at hX; exact hX))
theorem g_icmp_ne (tgt : Nat) {x y : Int32} {off : Int} {Y : Option (ρ × Mem)} (d : decode C.2.1 pc = .ok (.if_icmp .ne off, 3)) (ht : (pc : Int) + off = (tgt : Int)) (k1 : G C ad enc tgt L st μ X) (k2 : G C ad enc (pc + 3) L st μ Y) : G C ad enc pc L (.int y :: .int x :: st) μ (if x = y then Y else X) := by
  intro p l e R s m args below meth c H locs D tc ls r ν hc hP hD hS hl hX
  exact lv_icmp_ne hc.1 hc.2.1 d ht (fun q => k1 p l e R s m args below meth c H locs D tc ls r ν hc hP hD hS hl (by rw [if_neg q] at hX; exact hX)) (fun q => k2 p l e R s m args below meth c H locs D tc ls r ν hc hP hD hS hl (by rw [if_pos q] at hX; exact hX))
theorem g_icmp_lt (tgt : Nat) {x y : Int32} {off : Int} {Y : Option (ρ × Mem)} (d : decode C.2.1 pc = .ok (.if_icmp .lt off, 3)) (ht : (pc : Int) + off = (tgt : Int)) (k1 : G C ad enc tgt L st μ X) (k2 : G C ad enc (pc + 3) L st μ Y) : G C ad enc pc L (.int y :: .int x :: st) μ (if x < y then X else Y) := by
  intro p l e R s m args below meth c H locs D tc ls r ν hc hP hD hS hl hX
  exact lv_icmp_lt hc.1 hc.2.1 d ht (fun q => k1 p l e R s m args below meth c H locs D tc ls r ν hc hP hD hS hl (by rw [if_pos q] at hX; exact hX)) (fun q => k2 p l e R s m args below meth c H locs D tc ls r ν hc hP hD hS hl (by rw [if_neg q] at hX; exact hX))
theorem g_icmp_ge (tgt : Nat) {x y : Int32} {off : Int} {Y : Option (ρ × Mem)} (d : decode C.2.1 pc = .ok (.if_icmp .ge off, 3)) (ht : (pc : Int) + off = (tgt : Int)) (k1 : G C ad enc tgt L st μ X) (k2 : G C ad enc (pc + 3) L st μ Y) : G C ad enc pc L (.int y :: .int x :: st) μ (if y ≤ x then X else Y) := by
  intro p l e R s m args below meth c H locs D tc ls r ν hc hP hD hS hl hX
  exact lv_icmp_ge hc.1 hc.2.1 d ht (fun q => k1 p l e R s m args below meth c H locs D tc ls r ν hc hP hD hS hl (by rw [if_pos q] at hX; exact hX)) (fun q => k2 p l e R s m args below meth c H locs D tc ls r ν hc hP hD hS hl (by rw [if_neg q] at hX; exact hX))
theorem g_icmp_gt (tgt : Nat) {x y : Int32} {off : Int} {Y : Option (ρ × Mem)} (d : decode C.2.1 pc = .ok (.if_icmp .gt off, 3)) (ht : (pc : Int) + off = (tgt : Int)) (k1 : G C ad enc tgt L st μ X) (k2 : G C ad enc (pc + 3) L st μ Y) : G C ad enc pc L (.int y :: .int x :: st) μ (if y < x then X else Y) := by
  intro p l e R s m args below meth c H locs D tc ls r ν hc hP hD hS hl hX
  exact lv_icmp_gt hc.1 hc.2.1 d ht (fun q => k1 p l e R s m args below meth c H locs D tc ls r ν hc hP hD hS hl (by rw [if_pos q] at hX; exact hX)) (fun q => k2 p l e R s m args below meth c H locs D tc ls r ν hc hP hD hS hl (by rw [if_neg q] at hX; exact hX))
theorem g_icmp_le (tgt : Nat) {x y : Int32} {off : Int} {Y : Option (ρ × Mem)} (d : decode C.2.1 pc = .ok (.if_icmp .le off, 3)) (ht : (pc : Int) + off = (tgt : Int)) (k1 : G C ad enc tgt L st μ X) (k2 : G C ad enc (pc + 3) L st μ Y) : G C ad enc pc L (.int y :: .int x :: st) μ (if x ≤ y then X else Y) := by
  intro p l e R s m args below meth c H locs D tc ls r ν hc hP hD hS hl hX
  exact lv_icmp_le hc.1 hc.2.1 d ht (fun q => k1 p l e R s m args below meth c H locs D tc ls r ν hc hP hD hS hl (by rw [if_pos q] at hX; exact hX)) (fun q => k2 p l e R s m args below meth c H locs D tc ls r ν hc hP hD hS hl (by rw [if_neg q] at hX; exact hX))
theorem g_if_eq (tgt : Nat) {x : Int32} {off : Int} {Y : Option (ρ × Mem)} (d : decode C.2.1 pc = .ok (.ifCond .eq off, 3)) (ht : (pc : Int) + off = (tgt : Int)) (k1 : G C ad enc tgt L st μ X) (k2 : G C ad enc (pc + 3) L st μ Y) : G C ad enc pc L (.int x :: st) μ (if x = 0 then X else Y) := by
  intro p l e R s m args below meth c H locs D tc ls r ν hc hP hD hS hl hX
  exact lv_if_eq hc.1 hc.2.1 d ht (fun q => k1 p l e R s m args below meth c H locs D tc ls r ν hc hP hD hS hl (by rw [if_pos q] at hX; exact hX)) (fun q => k2 p l e R s m args below meth c H locs D tc ls r ν hc hP hD hS hl (by rw [if_neg q] at hX; exact hX))
theorem g_if_ne (tgt : Nat) {x : Int32} {off : Int} {Y : Option (ρ × Mem)} (d : decode C.2.1 pc = .ok (.ifCond .ne off, 3)) (ht : (pc : Int) + off = (tgt : Int)) (k1 : G C ad enc tgt L st μ X) (k2 : G C ad enc (pc + 3) L st μ Y) : G C ad enc pc L (.int x :: st) μ (if x = 0 then Y else X) := by
  intro p l e R s m args below meth c H locs D tc ls r ν hc hP hD hS hl hX
  exact lv_if_ne hc.1 hc.2.1 d ht (fun q => k1 p l e R s m args below meth c H locs D tc ls r ν hc hP hD hS hl (by rw [if_neg q] at hX; exact hX)) (fun q => k2 p l e R s m args below meth c H locs D tc ls r ν hc hP hD hS hl (by rw [if_pos q] at hX; exact hX))
theorem g_if_lt (tgt : Nat) {x : Int32} {off : Int} {Y : Option (ρ × Mem)} (d : decode C.2.1 pc = .ok (.ifCond .lt off, 3)) (ht : (pc : Int) + off = (tgt : Int)) (k1 : G C ad enc tgt L st μ X) (k2 : G C ad enc (pc + 3) L st μ Y) : G C ad enc pc L (.int x :: st) μ (if x < 0 then X else Y) := by
  intro p l e R s m args below meth c H locs D tc ls r ν hc hP hD hS hl hX
  exact lv_if_lt hc.1 hc.2.1 d ht (fun q => k1 p l e R s m args below meth c H locs D tc ls r ν hc hP hD hS hl (by rw [if_pos q] at hX; exact hX)) (fun q => k2 p l e R s m args below meth c H locs D tc ls r ν hc hP hD hS hl (by rw [if_neg q] at hX; exact hX))
theorem g_if_ge (tgt : Nat) {x : Int32} {off : Int} {Y : Option (ρ × Mem)} (d : decode C.2.1 pc = .ok (.ifCond .ge off, 3)) (ht : (pc : Int) + off = (tgt : Int)) (k1 : G C ad enc tgt L st μ X) (k2 : G C ad enc (pc + 3) L st μ Y) : G C ad enc pc L (.int x :: st) μ (if 0 ≤ x then X else Y) := by
  intro p l e R s m args below meth c H locs D tc ls r ν hc hP hD hS hl hX
  exact lv_if_ge hc.1 hc.2.1 d ht (fun q => k1 p l e R s m args below meth c H locs D tc ls r ν hc hP hD hS hl (by rw [if_pos q] at hX; exact hX)) (fun q => k2 p l e R s m args below meth c H locs D tc ls r ν hc hP hD hS hl (by rw [if_neg q] at hX; exact hX))
theorem g_if_gt (tgt : Nat) {x : Int32} {off : Int} {Y : Option (ρ × Mem)} (d : decode C.2.1 pc = .ok (.ifCond .gt off, 3)) (ht : (pc : Int) + off = (tgt : Int)) (k1 : G C ad enc tgt L st μ X) (k2 : G C ad enc (pc + 3) L st μ Y) : G C ad enc pc L (.int x :: st) μ (if 0 < x then X else Y) := by
  intro p l e R s m args below meth c H locs D tc ls r ν hc hP hD hS hl hX
  exact lv_if_gt hc.1 hc.2.1 d ht (fun q => k1 p l e R s m args below meth c H locs D tc ls r ν hc hP hD hS hl (by rw [if_pos q] at hX; exact hX)) (fun q => k2 p l e R s m args below meth c H locs D tc ls r ν hc hP hD hS hl (by rw [if_neg q] at hX; exact hX))
theorem g_if_le (tgt : Nat) {x : Int32} {off : Int} {Y : Option (ρ × Mem)} (d : decode C.2.1 pc = .ok (.ifCond .le off, 3)) (ht : (pc : Int) + off = (tgt : Int)) (k1 : G C ad enc tgt L st μ X) (k2 : G C ad enc (pc + 3) L st μ Y) : G C ad enc pc L (.int x :: st) μ (if x ≤ 0 then X else Y) := by
  intro p l e R s m args below meth c H locs D tc ls r ν hc hP hD hS hl hX
  exact lv_if_le hc.1 hc.2.1 d ht (fun q => k1 p l e R s m args below meth c H locs D tc ls r ν hc hP hD hS hl (by rw [if_pos q] at hX; exact hX)) (fun q => k2 p l e R s m args below meth c H locs D tc ls r ν hc hP hD hS hl (by rw [if_neg q] at hX; exact hX))
theorem g_istore_n (L' : List (Nat × Value)) {f : Fin 4} {i : Nat} {x : Int32} (d : decode C.2.1 pc = .ok (.istore_n f, 1)) (hi : (f : Nat) = i) (hn : i < C.2.2.1) (hL : (i, Value.int x) :: L.filter (fun q => !(q.1 == i) && !(q.1 + 1 == i && q.2.category == 2)) = L') (k : G C ad enc (pc + 1) L' st μ X) : G C ad enc pc L (.int x :: st) μ X := by
  intro p l e R s m args below meth c H locs D tc ls r ν hc hP hD hS hl hX
  exact lv_istore_n hc.1 hc.2.1 d hi hl hn hL (fun ls hl => k p l e R s m args below meth c H locs D tc ls r ν hc hP hD hS hl hX)
theorem g_istore_nB (L' : Int32 → List (Nat × Value)) {f : Fin 4} {i : Nat} {x : Int32} {Z : Int32 → Option (ρ × Mem)} (d : decode C.2.1 pc = .ok (.istore_n f, 1)) (hi : (f : Nat) = i) (hn : i < C.2.2.1) (hL : ∀ x, (i, Value.int x) :: L.filter (fun q => !(q.1 == i) && !(q.1 + 1 == i && q.2.category == 2)) = L' x) (k : ∀ x, G C ad enc (pc + 1) (L' x) st μ (Z x)) : G C ad enc pc L (.int x :: st) μ (bnd x Z) :=
  g_istore_n (L' x) d hi hn (hL x) (k x)
theorem g_istore (L' : List (Nat × Value)) {i : Nat} {x : Int32} (d : decode C.2.1 pc = .ok (.istore i, 2)) (hn : i < C.2.2.1) (hL : (i, Value.int x) :: L.filter (fun q => !(q.1 == i) && !(q.1 + 1 == i && q.2.category == 2)) = L') (k : G C ad enc (pc + 2) L' st μ X) : G C ad enc pc L (.int x :: st) μ X := by
  intro p l e R s m args below meth c H locs D tc ls r ν hc hP hD hS hl hX
  exact lv_istore hc.1 hc.2.1 d hl hn hL (fun ls hl => k p l e R s m args below meth c H locs D tc ls r ν hc hP hD hS hl hX)
theorem g_istoreB (L' : Int32 → List (Nat × Value)) {i : Nat} {x : Int32} {Z : Int32 → Option (ρ × Mem)} (d : decode C.2.1 pc = .ok (.istore i, 2)) (hn : i < C.2.2.1) (hL : ∀ x, (i, Value.int x) :: L.filter (fun q => !(q.1 == i) && !(q.1 + 1 == i && q.2.category == 2)) = L' x) (k : ∀ x, G C ad enc (pc + 2) (L' x) st μ (Z x)) : G C ad enc pc L (.int x :: st) μ (bnd x Z) :=
  g_istore (L' x) d hn (hL x) (k x)
theorem g_lstore_n (L' : List (Nat × Value)) {f : Fin 4} {i : Nat} {x : Int64} (d : decode C.2.1 pc = .ok (.lstore_n f, 1)) (hi : (f : Nat) = i) (hn : i + 1 < C.2.2.1) (hL : (i, Value.long x) :: L.filter (fun q => !(q.1 == i) && (!(q.1 == i + 1) && !(q.1 + 1 == i && q.2.category == 2))) = L') (k : G C ad enc (pc + 1) L' st μ X) : G C ad enc pc L (.long x :: st) μ X := by
  intro p l e R s m args below meth c H locs D tc ls r ν hc hP hD hS hl hX
  exact lv_lstore_n hc.1 hc.2.1 d hi hl hn hL (fun ls hl => k p l e R s m args below meth c H locs D tc ls r ν hc hP hD hS hl hX)
theorem g_lstore_nB (L' : Int64 → List (Nat × Value)) {f : Fin 4} {i : Nat} {x : Int64} {Z : Int64 → Option (ρ × Mem)} (d : decode C.2.1 pc = .ok (.lstore_n f, 1)) (hi : (f : Nat) = i) (hn : i + 1 < C.2.2.1) (hL : ∀ x, (i, Value.long x) :: L.filter (fun q => !(q.1 == i) && (!(q.1 == i + 1) && !(q.1 + 1 == i && q.2.category == 2))) = L' x) (k : ∀ x, G C ad enc (pc + 1) (L' x) st μ (Z x)) : G C ad enc pc L (.long x :: st) μ (bnd x Z) :=
  g_lstore_n (L' x) d hi hn (hL x) (k x)
theorem g_lstore (L' : List (Nat × Value)) {i : Nat} {x : Int64} (d : decode C.2.1 pc = .ok (.lstore i, 2)) (hn : i + 1 < C.2.2.1) (hL : (i, Value.long x) :: L.filter (fun q => !(q.1 == i) && (!(q.1 == i + 1) && !(q.1 + 1 == i && q.2.category == 2))) = L') (k : G C ad enc (pc + 2) L' st μ X) : G C ad enc pc L (.long x :: st) μ X := by
  intro p l e R s m args below meth c H locs D tc ls r ν hc hP hD hS hl hX
  exact lv_lstore hc.1 hc.2.1 d hl hn hL (fun ls hl => k p l e R s m args below meth c H locs D tc ls r ν hc hP hD hS hl hX)
theorem g_lstoreB (L' : Int64 → List (Nat × Value)) {i : Nat} {x : Int64} {Z : Int64 → Option (ρ × Mem)} (d : decode C.2.1 pc = .ok (.lstore i, 2)) (hn : i + 1 < C.2.2.1) (hL : ∀ x, (i, Value.long x) :: L.filter (fun q => !(q.1 == i) && (!(q.1 == i + 1) && !(q.1 + 1 == i && q.2.category == 2))) = L' x) (k : ∀ x, G C ad enc (pc + 2) (L' x) st μ (Z x)) : G C ad enc pc L (.long x :: st) μ (bnd x Z) :=
  g_lstore (L' x) d hn (hL x) (k x)
theorem g_astore_n (L' : List (Nat × Value)) {f : Fin 4} {i : Nat} {x : Nat} (d : decode C.2.1 pc = .ok (.astore_n f, 1)) (hi : (f : Nat) = i) (hn : i < C.2.2.1) (hL : (i, Value.ref x) :: L.filter (fun q => !(q.1 == i) && !(q.1 + 1 == i && q.2.category == 2)) = L') (k : G C ad enc (pc + 1) L' st μ X) : G C ad enc pc L (.ref x :: st) μ X := by
  intro p l e R s m args below meth c H locs D tc ls r ν hc hP hD hS hl hX
  exact lv_astore_n hc.1 hc.2.1 d hi hl hn hL (fun ls hl => k p l e R s m args below meth c H locs D tc ls r ν hc hP hD hS hl hX)
theorem g_astore (L' : List (Nat × Value)) {i : Nat} {x : Nat} (d : decode C.2.1 pc = .ok (.astore i, 2)) (hn : i < C.2.2.1) (hL : (i, Value.ref x) :: L.filter (fun q => !(q.1 == i) && !(q.1 + 1 == i && q.2.category == 2)) = L') (k : G C ad enc (pc + 2) L' st μ X) : G C ad enc pc L (.ref x :: st) μ X := by
  intro p l e R s m args below meth c H locs D tc ls r ν hc hP hD hS hl hX
  exact lv_astore hc.1 hc.2.1 d hl hn hL (fun ls hl => k p l e R s m args below meth c H locs D tc ls r ν hc hP hD hS hl hX)
theorem g_iincB (j : Nat) (n : Int) (w : Int32) (L' : Int32 → List (Nat × Value)) {i : Nat} {x : Int32} {Z : Int32 → Option (ρ × Mem)} (d : decode C.2.1 pc = .ok (.iinc i n, 3)) (hk : L[j]? = some (i, .int x)) (hw : Int32.ofInt n = w) (hn : i < C.2.2.1) (hL : ∀ v, (i, Value.int v) :: L.filter (fun q => !(q.1 == i) && !(q.1 + 1 == i && q.2.category == 2)) = L' v) (k : ∀ v, G C ad enc (pc + 3) (L' v) st μ (Z v)) : G C ad enc pc L st μ (bnd (x + w) Z) := by
  intro p l e R s m args below meth c H locs D tc ls r ν hc hP hD hS hl hX
  subst hw
  exact lv_iinc hc.1 hc.2.1 d hl hk rfl hn (hL _) (fun ls hl => k _ p l e R s m args below meth c H locs D tc ls r ν hc hP hD hS hl hX)
theorem g_ireturn {v : Int32} (d : decode C.2.1 pc = .ok (.ireturn, 1)) (hr : C.2.2.2.1 = some .int) : G C ad encI pc L [.int v] μ (some (v, μ)) := by
  intro p l e R s m args below meth c H locs D tc ls r ν hc hP hD hS hl hX
  cases hX
  exact W.iret hc.1 hc.2.1 (hc.2.2.2.2.2.2.1.trans hr) (fun t ht hW => ⟨rfl, by rw [ht]; exact hP, hS.F ht⟩) hS.2.2 d hc.2.2.2.2.2.2.2.1
theorem g_lreturn {v : Int64} (d : decode C.2.1 pc = .ok (.lreturn, 1)) (hr : C.2.2.2.1 = some .long) : G C ad encJ pc L [.long v] μ (some (v, μ)) := by
  intro p l e R s m args below meth c H locs D tc ls r ν hc hP hD hS hl hX
  cases hX
  exact W.lret hc.1 hc.2.1 (hc.2.2.2.2.2.2.1.trans hr) (fun t ht hW => ⟨rfl, by rw [ht]; exact hP, hS.F ht⟩) hS.2.2 d hc.2.2.2.2.2.2.2.1
theorem g_return (d : decode C.2.1 pc = .ok (.return_, 1)) (hr : C.2.2.2.1 = none) : G C ad encV pc L [] μ (some ((), μ)) := by
  intro p l e R s m args below meth c H locs D tc ls r ν hc hP hD hS hl hX
  cases hX
  exact W.vret hc.1 hc.2.1 (hc.2.2.2.2.2.2.1.trans hr) (fun t ht hW => ⟨rfl, by rw [ht]; exact hP, hS.F ht⟩) hS.2.2 d hc.2.2.2.2.2.2.2.1
theorem isB_nar {v : Int32} (h : isB v = true) : narrow .boolean (.int v) = .int v := by
  rcases of_decide_eq_true h with rfl | rfl <;> rfl
theorem g_zreturn {v : Int32} (hb : isB v = true) (d : decode C.2.1 pc = .ok (.ireturn, 1)) (hr : C.2.2.2.1 = some .boolean) : G C ad encI pc L [.int v] μ (some (v, μ)) := by
  intro p l e R s m args below meth c H locs D tc ls r ν hc hP hD hS hl hX
  cases hX
  exact W.zret hc.1 hc.2.1 (hc.2.2.2.2.2.2.1.trans hr) (isB_nar hb) (fun t ht hW => ⟨rfl, by rw [ht]; exact hP, hS.F ht⟩) hS.2.2 d hc.2.2.2.2.2.2.2.1
theorem g_zreturnG {v : Int32} (d : decode C.2.1 pc = .ok (.ireturn, 1)) (hr : C.2.2.2.1 = some .boolean) : G C ad encI pc L [.int v] μ (gd (isB v) (some (v, μ))) := g_gd (fun h => g_zreturn h d hr)
theorem g_tabIn (tgt : Nat) (off : Int) {dflt lo hi : Int} {offs : Array Int} {len : Nat} {x : Int32} (d : decode C.2.1 pc = .ok (.tableswitch dflt lo hi offs, len)) (h : (¬ x.toInt < lo ∧ ¬ hi < x.toInt) ∧ offs[(x.toInt - lo).toNat]? = some off ∧ (pc : Int) + off = (tgt : Int)) (k : G C ad enc tgt L st μ X) : G C ad enc pc L (.int x :: st) μ X := by
  intro p l e R s m args below meth c H locs D tc ls r ν hc hP hD hS hl hX
  exact lv_tableIn hc.1 hc.2.1 d h.1.1 h.1.2 h.2.1 h.2.2 (k p l e R s m args below meth c H locs D tc ls r ν hc hP hD hS hl hX)
theorem g_tabOut (tgt : Nat) {dflt lo hi : Int} {offs : Array Int} {len : Nat} {x : Int32} (d : decode C.2.1 pc = .ok (.tableswitch dflt lo hi offs, len)) (h : x.toInt < lo ∨ hi < x.toInt) (ht : (pc : Int) + dflt = (tgt : Int)) (k : G C ad enc tgt L st μ X) : G C ad enc pc L (.int x :: st) μ X := by
  intro p l e R s m args below meth c H locs D tc ls r ν hc hP hD hS hl hX
  exact lv_tableOut hc.1 hc.2.1 d h ht (k p l e R s m args below meth c H locs D tc ls r ν hc hP hD hS hl hX)
theorem g_look (tgt : Nat) (off : Int) {dflt : Int} {ps : Array (Int × Int)} {len : Nat} {x : Int32} (d : decode C.2.1 pc = .ok (.lookupswitch dflt ps, len)) (hp : (ps.toList.zip (ps.toList.drop 1)).all (fun (a, next) => a.1 < next.1) = true) (ho : Op.lookupswitch.offset ps.toList dflt x.toInt = off) (ht : (pc : Int) + off = (tgt : Int)) (k : G C ad enc tgt L st μ X) : G C ad enc pc L (.int x :: st) μ X := by
  intro p l e R s m args below meth c H locs D tc ls r ν hc hP hD hS hl hX
  exact lv_lookup hc.1 hc.2.1 d hp ho ht (k p l e R s m args below meth c H locs D tc ls r ν hc hP hD hS hl hX)
end GR
