/-! ===== a grid of 8 rows of 10 ints ===== -/
/-- the outer row, when the first i are laid into it -/
def zo (h0 i : Nat) : Nat → Value := fun j => if j < i then .ref (h0 + 1 + j) else .null
theorem zo_up (h0 i : Nat) : updV (zo h0 i) i (.ref (h0 + 1 + i)) = zo h0 (i + 1) := by
  funext j
  unfold updV zo
  by_cases e : j = i
  · rw [if_pos e, if_pos (by omega), e]
  · rw [if_neg e]
    by_cases h : j < i
    · rw [if_pos h, if_pos (by omega)]
    · rw [if_neg h, if_neg (by omega)]
abbrev zrow (cI : ClassId) : Cell := arrV cI 10 (fun _ => .int 0)
def zgr (T : State) (cA cI : ClassId) : Nat → State
  | 0 => T.pushCell (arrV cA 8 (zo T.heap.size 0))
  | i + 1 => ((zgr T cA cI i).pushCell (zrow cI)).setCell T.heap.size (arrV cA 8 (zo T.heap.size (i + 1)))
theorem zgr_f (T : State) (cA cI : ClassId) : ∀ i, (zgr T cA cI i).heap.size = T.heap.size + 1 + i ∧ (zgr T cA cI i).heap[T.heap.size]? = some (arrV cA 8 (zo T.heap.size i)) ∧ (zgr T cA cI i).vm = T.vm ∧ (zgr T cA cI i).slotsUsed = T.slotsUsed + 8 + i * 10 ∧ (∀ a, a < T.heap.size → (zgr T cA cI i).heap[a]? = T.heap[a]?) ∧ ∀ j, j < i → (zgr T cA cI i).heap[T.heap.size + 1 + j]? = some (zrow cI)
  | 0 => ⟨by simp [zgr], by simp [zgr], rfl, by simp [zgr, arrV_size], fun a ha => State.heap_pushCell_of_lt _ _ ha, fun j hj => absurd hj (Nat.not_lt_zero j)⟩
  | i + 1 => by
    obtain ⟨a1, a2, a3, a4, a5, a6⟩ := zgr_f T cA cI i
    have hlt : T.heap.size < (zgr T cA cI i).heap.size := by omega
    have hin : ((zgr T cA cI i).pushCell (zrow cI)).heap[T.heap.size]? = some (arrV cA 8 (zo T.heap.size i)) := by rw [State.heap_pushCell_of_lt (h := hlt)]; exact a2
    refine ⟨?_, State.heap_setCell_self hin, ?_, ?_, fun a ha => ?_, fun j hj => ?_⟩
    · simp [zgr, State.setCell, a1]; omega
    · simp [zgr, a3]
    · simp [zgr, a4, arrV_size]; omega
    · show (((zgr T cA cI i).pushCell (zrow cI)).setCell T.heap.size _).heap[a]? = _
      have hlt2 : a < (zgr T cA cI i).heap.size := by omega
      rw [State.heap_setCell_other (Nat.ne_of_gt ha), State.heap_pushCell_of_lt (h := hlt2)]
      exact a5 a ha
    · show (((zgr T cA cI i).pushCell (zrow cI)).setCell T.heap.size _).heap[_]? = _
      rw [State.heap_setCell_other (show T.heap.size ≠ T.heap.size + 1 + j by omega)]
      by_cases e : j = i
      · subst e
        rw [← a1]
        exact State.heap_pushCell_size _ _
      · have hlt2 : T.heap.size + 1 + j < (zgr T cA cI i).heap.size := by omega
        rw [State.heap_pushCell_of_lt (h := hlt2)]
        exact a6 j (by omega)
theorem zgr_top (T : State) (f : JFrame) (cA cI : ClassId) : ∀ i, zgr (T.setTop f) cA cI i = (zgr T cA cI i).setTop f
  | 0 => rfl
  | i + 1 => by simp only [zgr, zgr_top T f cA cI i, State.heap_setTop, State.pushCell_setTop, State.setCell_setTop]
section ZST
variable {p : Program} {l : Launch} {e : Env} {R : Room} {s : State} {m : MethodId} {args : Array Value} {below : List Frame} {meth : Method} {c : Code} {T : State} {locs : List Loc} {cells slots : Nat}
theorem zgr_st (X : Stand p l e R s m args below meth c T locs cells slots) (cA cI : ClassId) : ∀ i, ∃ L, (∀ q ∈ L, q.base = T.heap.size) ∧ Stand p l e R s m args below meth c (zgr T cA cI i) (locs ++ L) (cells + 1 + i) (slots + 8 + i * 10)
  | 0 => by
    have h := X.pushed (arrV cA 8 (zo T.heap.size 0))
    rw [arrV_size] at h
    exact ⟨[], fun q hq => (by cases hq), by simpa [zgr] using h⟩
  | i + 1 => by
    obtain ⟨L, hL, X1⟩ := zgr_st X cA cI i
    obtain ⟨a1, a2, -⟩ := zgr_f T cA cI i
    have hlt : T.heap.size < (zgr T cA cI i).heap.size := by omega
    have hin : ((zgr T cA cI i).pushCell (zrow cI)).heap[T.heap.size]? = some (arrV cA 8 (zo T.heap.size i)) := by rw [State.heap_pushCell_of_lt (h := hlt)]; exact a2
    have h := (X1.pushed (zrow cI)).stored hin i (.ref (T.heap.size + 1 + i))
    rw [arrV_store, zo_up, arrV_size] at h
    refine ⟨L ++ [⟨T.heap.size, i⟩], fun q hq => ?_, ?_⟩
    · rcases List.mem_append.mp hq with h1 | h1
      · exact hL q h1
      · rw [List.mem_singleton.mp h1]
    · rw [← List.append_assoc, show slots + 8 + (i + 1) * 10 = slots + 8 + i * 10 + 10 by omega]
      exact h
end ZST
section ZWP
variable {E : CtlPost} {e : Env} {d : Bool} {acts : List Action} {s : State}
theorem zwp_new {c cc : ClassId} {k : Class} {ty : FieldType} {len : Nat} {v : Value} (hk : s.vm.classes[c]? = some k) (hkind : k.kind = .array cc ty) (h1 : ¬ len > e.platform.arrayLengthLimit) (h2 : ¬ len * componentBytes ty > e.platform.maxHeapBytes) (hf : fits ty v = true) (hd : v.isDefault = true) {Q : Addr → Pre} (hc : s.heap.size < e.platform.maxCells) (hs : s.slotsUsed + len ≤ e.platform.maxSlots) (hq : Q s.heap.size d acts (s.pushCell (arrV c len (fun _ => v)))) : wp (Jvm.newArray c len v) Q E e d acts s := by
  have hfit : ∀ i w, (Array.replicate len v)[i]? = some w → s.fitsSlot c .none i w = true := by
    intro i w hw
    rw [Array.getElem?_replicate] at hw
    by_cases hi : i < len
    · rw [if_pos hi] at hw
      cases hw
      simp [State.fitsSlot, State.slotType?, hk, hkind, hf]
    · rw [if_neg hi] at hw; cases hw
  have hda : allocActs (Array.replicate len v) s.heap.size acts = acts := by
    unfold allocActs
    rw [if_pos]
    rw [Array.all_replicate]
    split <;> simp [hd]
  rw [← arrV_new] at hq
  simp only [Jvm.newArray, Jvm.arrayFits, wp_bind', W.ask, W.ite, h1, if_false, wp_pure', W.theClass, hk, hkind, h2, W.alloc, W.stop, Option.some.injEq, exists_eq_left', Array.size_replicate, hda]
  rw [if_neg (by omega)]
  exact ⟨hc, hs, hfit, hq⟩
theorem zwp_row {cI cc : ClassId} {k : Class} (hk : s.vm.classes[cI]? = some k) (hkind : k.kind = .array cc .int) (h1 : ¬ (10 : Nat) > e.platform.arrayLengthLimit) (h2 : ¬ 10 * componentBytes .int > e.platform.maxHeapBytes) {Q : Addr → Pre} (hc : s.heap.size < e.platform.maxCells) (hs : s.slotsUsed + 10 ≤ e.platform.maxSlots) (hq : Q s.heap.size d acts (s.pushCell (zrow cI))) : wp (multianewarray.make cI [10]) Q E e d acts s := by
  rw [multianewarray.make]
  simp only [wp_bind', W.ite, show ¬ (10 : Int32) < 0 by decide, if_false, wp_pure', W.theClass, hk, hkind, Option.some.injEq, exists_eq_left']
  exact zwp_new hk hkind h1 h2 rfl rfl hc hs hq
theorem zwp_grid {cA cI cc : ClassId} {k kI : Class} (hk : s.vm.classes[cA]? = some k) (hkind : k.kind = .array cI (.array .int)) (hkI : s.vm.classes[cI]? = some kI) (hkindI : kI.kind = .array cc .int) (h1 : ¬ (10 : Nat) > e.platform.arrayLengthLimit) (h2 : ¬ 10 * componentBytes .int > e.platform.maxHeapBytes) (hc : s.heap.size + 9 ≤ e.platform.maxCells) (hs : s.slotsUsed + 88 ≤ e.platform.maxSlots) {Q : Addr → Pre} (hq : ∀ d' acts', Q s.heap.size d' acts' (zgr s cA cI 8)) : wp (multianewarray.make cA [8, 10]) Q E e d acts s := by
  have hfind : ([(10 : Int32)].find? (· < 0)) = none := by decide
  have h8 : (8 : Int32).toNatClampNeg = 8 := rfl
  have hb : componentBytes (.array .int) = 4 := rfl
  have hb2 : componentBytes .int = 4 := rfl
  rw [hb2] at h2
  rw [multianewarray.make]
  simp only [wp_bind', W.ite, show ¬ (8 : Int32) < 0 by decide, if_false, wp_pure', W.theClass, hk, hkind, Option.some.injEq, exists_eq_left', h8]
  refine zwp_new hk hkind (by omega) (by rw [hb]; omega) rfl rfl (by omega) (by omega) ?_
  simp only [hfind]
  rw [ite_self, wp_bind', Std.Legacy.Range.forIn_eq_forIn_range']
  have hsz : ([:8] : Std.Legacy.Range).size = 8 := by simp [Std.Legacy.Range.size]
  rw [hsz]
  show wp (forIn (List.range' 0 8 1) PUnit.unit _) _ E e d acts _
  refine wp_forIn_inv (fun rest s' => ∃ i, i ≤ 8 ∧ rest = List.range' i (8 - i) ∧ s' = zgr s cA cI i) _ _ ⟨0, by decide, rfl, rfl⟩ ?_ ?_
  · rintro x rest s' d' acts' Q' ⟨i, hi, hl, rfl⟩ hnext
    have hlt : i < 8 := by
      rcases Nat.lt_or_ge i 8 with h | h
      · exact h
      · rw [show 8 - i = 0 by omega] at hl; simp at hl
    rw [show 8 - i = (8 - (i + 1)) + 1 by omega, List.range'_succ] at hl
    obtain ⟨rfl, hrest⟩ := List.cons.inj hl
    obtain ⟨a1, a2, a3, a4, a5, a6⟩ := zgr_f s cA cI x
    have hlt0 : s.heap.size < (zgr s cA cI x).heap.size := by omega
    simp only [wp_bind']
    refine zwp_row (by rw [a3]; exact hkI) hkindI h1 (by rw [hb2]; exact h2) (by omega) (by omega) ?_
    simp only [wp_bind', W.writeLoc, wp_pure']
    refine ⟨arrV cA 8 (zo s.heap.size x), by rw [State.heap_pushCell_of_lt (h := hlt0)]; exact a2, by simp [arrV], by rw [arrV_size]; exact hlt, ?_, hnext _ _ _ ⟨x + 1, hlt, hrest, ?_⟩⟩
    · simp [arrV, State.fitsSlot, State.slotType?, a3, hk, hkind, fits]
    · rw [a1, arrV_store, zo_up]; rfl
  · rintro s' d' acts' ⟨i, hi, hl, rfl⟩
    have hiN : i = 8 := by
      rcases Nat.lt_or_ge i 8 with h | h
      · rw [show 8 - i = (8 - (i + 1)) + 1 by omega, List.range'_succ] at hl; cases hl
      · omega
    subst hiN
    simp only [wp_pure']
    exact hq _ _
end ZWP
section ZW
variable {p : Program} {l : Launch} {e : Env} {R : Room} {s : State} {m : MethodId} {args : Array Value} {below : List Frame} {meth : Method} {c : Code} {H : Heap} {locs : List Loc} {cells slots : Nat} {Q : State → Prop}
theorem z_gridG {cc : ByteArray} (hexec : p.tables.exec = Jvm.exec) (hb : c.code = cc) {own : String} {index : Nat} (hown : s.vm.findClass own = some m.cls) (hclink : (Cond.classLink own index "[[I").before args s = true) {cA cI cc' : ClassId} {kA kI : Class} (hnameA : s.vm.findClass "[[I" = some cA) (hkA : s.vm.classes[cA]? = some kA) (hkindA : kA.kind = .array cI (.array .int)) (hkI : s.vm.classes[cI]? = some kI) (hkindI : kI.kind = .array cc' .int)
    {g : JFrame} (hg : g.method = m) {rest : List Value} (hstack : g.stack = .int 10 :: .int 8 :: rest) (hdg : decode cc g.pc = .ok (.multianewarray index 2, 4)) (hcells : cells + 9 ≤ R.cells) (hslots : slots + 88 ≤ R.slots)
    (kk : ∀ (L : List Loc) (H1 : Heap), (∀ q ∈ L, q.base = H.size) → H1.size = H.size + 9 → H1[H.size]? = some (arrV cA 8 (zo H.size 8)) → (∀ a, a < H.size → H1[a]? = H[a]?) → (∀ j, j < 8 → H1[H.size + 1 + j]? = some (zrow cI)) → W p l e R s m args below meth c H1 (locs ++ L) (cells + 9) (slots + 88) Q { g with pc := g.pc + 4, stack := .ref H.size :: rest }) : W p l e R s m args below meth c H locs cells slots Q g := by
  intro T hT X
  subst hT; subst hb; subst hg
  have hpl : e.platform.magicAccessors = ({} : Platform).magicAccessors := by rw [X.admits.platform]
  obtain ⟨c0, hfc0, hcl⟩ := Cond.classLink_spec hown hclink e.platform hpl
  cases Option.some.inj (hnameA.symm.trans hfc0)
  obtain ⟨hg₁, hwarm₁, hready₁⟩ := State.classEntry (e := e) X.warmed hcl
  generalize T.vm.noted g.method.cls index (.cls cA) = vm₁ at hg₁ hwarm₁ hready₁
  have hal : s.vm.Alike vm₁ := hwarm₁.alike
  obtain ⟨kA₁, hkA₁, heA⟩ := hal.2.2 _ _ hkA
  obtain ⟨kI₁, hkI₁, heI⟩ := hal.2.2 _ _ hkI
  have hkindA₁ : kA₁.kind = .array cI (.array .int) := by rw [heA]; exact hkindA
  have hkindI₁ : kI₁.kind = .array cc' .int := by rw [heI]; exact hkindI
  obtain ⟨hr1, hr2⟩ := X.roomAbove hcells hslots
  obtain ⟨L, hL, XF⟩ := zgr_st (X.noted hwarm₁) cA cI 8
  obtain ⟨a1, a2, a3, a4, a5, a6⟩ := zgr_f (T.setVm vm₁) cA cI 8
  obtain ⟨t, b1, b2⟩ := kk L (zgr (T.setVm vm₁) cA cI 8).heap hL a1 a2 a5 a6 _ rfl XF
  refine ⟨t, ?_, b2⟩
  have hl1 : ¬ (10 : Nat) > e.platform.arrayLengthLimit := by rw [Launch.admits_arrayLengthLimit X.admits]; decide
  have hh1 : ¬ 10 * componentBytes .int > e.platform.maxHeapBytes := by rw [Launch.admits_maxHeapBytes X.admits]; decide
  jvm_step X.here [hexec, hdg]
  simp only [multianewarray.sem, wp_bind', W.resolveClassAt_links (State.method?_setTop g X.here.top) hg₁]
  rw [W.popN, if_neg (by decide)]
  refine ⟨g, State.topJava?_setTop' (s := T.setVm vm₁) g X.here.top, [.int 8, .int 10], rest, rfl, hstack, ?_⟩
  simp only [List.mapM_cons, List.mapM_nil, wp_bind', wp_pure']
  refine zwp_grid (k := kA₁) (kI := kI₁) (cI := cI) (cc := cc') hkA₁ hkindA₁ hkI₁ hkindI₁ hl1 hh1 (by show T.heap.size + 9 ≤ _; omega) (by show T.slotsUsed + 88 ≤ _; omega) (fun d' acts' => ?_)
  have eS : ((T.setTop g).setVm vm₁).setTop { g with stack := rest } = (T.setVm vm₁).setTop { g with stack := rest } := by
    show ((T.setVm vm₁).setTop g).setTop _ = _
    rw [State.setTop_setTop]
  rw [eS, zgr_top]
  simp only [wp_bind', W.mark, W.pushRef, State.topJava?_setTop' _ XF.here.top, Option.some.injEq, exists_eq_left', State.setTop_setTop, State.heap_setTop]
  intro acts
  simp [jvm, XF.here.top]
  exact b1
end ZW

/-- the classes of arrays, as they hang together -/
def Kg (tc : Nat → ClassId) (U : State) : Prop := ∃ (kA kI : Class) (cc : ClassId), U.vm.classes[tc 2]? = some kA ∧ kA.kind = .array (tc 0) (.array .int) ∧ U.vm.classes[tc 0]? = some kI ∧ kI.kind = .array cc .int
theorem Kg.moved {tc : Nat → ClassId} {u U : State} (hal : u.vm.Alike U.vm) (h : Kg tc u) : Kg tc U := by
  obtain ⟨kA, kI, cc, h1, h2, h3, h4⟩ := h
  obtain ⟨kA₁, g1, e1⟩ := hal.2.2 _ _ h1
  obtain ⟨kI₁, g2, e2⟩ := hal.2.2 _ _ h3
  exact ⟨kA₁, kI₁, cc, g1, by rw [e1]; exact h2, g2, by rw [e2]; exact h4⟩
def zref (q : Nat) : vp_A := (8, .inr (.inr (.inr (.inr (fun i => if i < 8 then some (q + 1 + i) else none)))))
def zgl (tc : Nat → ClassId) (q : Nat) : va_W := [(q, .inl (tc 2, zref q)), (q + 1 + 0, .inl (tc 0, 10, .inl fun _ => 0)), (q + 1 + 1, .inl (tc 0, 10, .inl fun _ => 0)), (q + 1 + 2, .inl (tc 0, 10, .inl fun _ => 0)), (q + 1 + 3, .inl (tc 0, 10, .inl fun _ => 0)), (q + 1 + 4, .inl (tc 0, 10, .inl fun _ => 0)), (q + 1 + 5, .inl (tc 0, 10, .inl fun _ => 0)), (q + 1 + 6, .inl (tc 0, 10, .inl fun _ => 0)), (q + 1 + 7, .inl (tc 0, 10, .inl fun _ => 0))]
theorem zgl_at {tc : Nat → ClassId} {q k : Nat} {x : Nat × va_E} (h : (zgl tc q)[k]? = some x) : k < 9 ∧ x.1 = q + k ∧ ((k = 0 ∧ x.2 = .inl (tc 2, zref q)) ∨ (0 < k ∧ x.2 = .inl (tc 0, 10, .inl fun _ => 0))) := by
  have hk : k < 9 := (List.getElem?_eq_some_iff.mp h).1
  rcases (show k = 0 ∨ k = 1 ∨ k = 2 ∨ k = 3 ∨ k = 4 ∨ k = 5 ∨ k = 6 ∨ k = 7 ∨ k = 8 by omega) with rfl | rfl | rfl | rfl | rfl | rfl | rfl | rfl | rfl <;> cases h
  · exact ⟨hk, rfl, Or.inl ⟨rfl, rfl⟩⟩
  all_goals exact ⟨hk, rfl, Or.inr ⟨by decide, rfl⟩⟩
section ZR
variable {p : Program} {l : Launch} {e : Env} {R : Room} {s : State} {m : MethodId} {args : Array Value} {below : List Frame} {meth : Method} {c : Code} {H : Heap} {locs : List Loc} {cells slots : Nat} {Q : State → Prop}
variable {cc : ByteArray} {pc : Nat} {ls : Array Slot} {rest : List Value} {D : va_G} {tc : Nat → ClassId} {A : Nat → Prop} {ws : va_W} {H0 : Heap}
theorem z_newI (hexec : p.tables.exec = Jvm.exec) (hb : c.code = cc) (harr : (Cond.arrayClass .int).before args s = true) (hK : Ka D tc s) (hP : va_P D cls ws H) (hD : va_D A ws) (hS : va_S A H0 H locs) (hA : ∀ q, H0.size ≤ q → A q) {n : Int32} (N : Nat) (hn : ¬ n < 0) (hN : n.toNatClampNeg = N) (hbytes : N * 4 ≤ 536870912) (hcells : cells + 1 ≤ R.cells) (hslots : slots + N ≤ R.slots) (hdg : decode cc pc = .ok (.newarray .int, 2))
    (kk : ∀ (q : Nat) (H1 : Heap), va_P D cls (ws ++ [(q, .inl (tc 0, N, .inl fun _ => 0))]) H1 → va_D A (ws ++ [(q, .inl (tc 0, N, .inl fun _ => 0))]) → va_S A H0 H1 locs → W p l e R s m args below meth c H1 locs (cells + 1) (slots + N) Q (F0 m (pc + 2) ls (.ref q :: rest))) : W p l e R s m args below meth c H locs cells slots Q (F0 m pc ls (.int n :: rest)) := by
  refine va_newa (atype := .int) (a0 := (N, .inl fun _ => 0)) hexec hb harr rfl hK.1 hP hD hS hA (fun _ => rfl) hn hN hbytes hcells hslots hdg (fun q cA H1 hK1 hP1 hD1 hS1 => ?_)
  have e1 : s.vm.findClass ("[" ++ (FieldType.int).toString) = some cA := (hK1.2 3 (cA, .int) rfl).2
  have e2 : s.vm.findClass ("[" ++ (FieldType.int).toString) = some (tc 0) := (hK.1.2 0 (tc 0, .int) rfl).2
  cases Option.some.inj (e1.symm.trans e2)
  exact kk q H1 hP1 hD1 hS1
theorem z_newJ (hexec : p.tables.exec = Jvm.exec) (hb : c.code = cc) (harr : (Cond.arrayClass .long).before args s = true) (hK : Ka D tc s) (hP : va_P D cls ws H) (hD : va_D A ws) (hS : va_S A H0 H locs) (hA : ∀ q, H0.size ≤ q → A q) {n : Int32} (N : Nat) (hn : ¬ n < 0) (hN : n.toNatClampNeg = N) (hbytes : N * 8 ≤ 536870912) (hcells : cells + 1 ≤ R.cells) (hslots : slots + N ≤ R.slots) (hdg : decode cc pc = .ok (.newarray .long, 2))
    (kk : ∀ (q : Nat) (H1 : Heap), va_P D cls (ws ++ [(q, .inl (tc 1, N, .inr (.inl fun _ => 0)))]) H1 → va_D A (ws ++ [(q, .inl (tc 1, N, .inr (.inl fun _ => 0)))]) → va_S A H0 H1 locs → W p l e R s m args below meth c H1 locs (cells + 1) (slots + N) Q (F0 m (pc + 2) ls (.ref q :: rest))) : W p l e R s m args below meth c H locs cells slots Q (F0 m pc ls (.int n :: rest)) := by
  refine va_newa (atype := .long) (a0 := (N, .inr (.inl fun _ => 0))) hexec hb harr rfl hK.1 hP hD hS hA (fun _ => rfl) hn hN hbytes hcells hslots hdg (fun q cA H1 hK1 hP1 hD1 hS1 => ?_)
  have e1 : s.vm.findClass ("[" ++ (FieldType.long).toString) = some cA := (hK1.2 3 (cA, .long) rfl).2
  have e2 : s.vm.findClass ("[" ++ (FieldType.long).toString) = some (tc 1) := (hK.1.2 1 (tc 1, .long) rfl).2
  cases Option.some.inj (e1.symm.trans e2)
  exact kk q H1 hP1 hD1 hS1
theorem z_grid (hexec : p.tables.exec = Jvm.exec) (hb : c.code = cc) {own : String} {index : Nat} (hown : s.vm.findClass own = some m.cls) (hclink : (Cond.classLink own index "[[I").before args s = true) (hK : Ka D tc s) (hG : Kg tc s) (hP : va_P D cls ws H) (hD : va_D A ws) (hS : va_S A H0 H locs) (hA : ∀ q, H0.size ≤ q → A q) (hcells : cells + 9 ≤ R.cells) (hslots : slots + 88 ≤ R.slots) (hdg : decode cc pc = .ok (.multianewarray index 2, 4))
    (kk : ∀ (q : Nat) (H1 : Heap) (locs1 : List Loc), va_P D cls (ws ++ zgl tc q) H1 → va_D A (ws ++ zgl tc q) → va_S A H0 H1 locs1 → W p l e R s m args below meth c H1 locs1 (cells + 9) (slots + 88) Q (F0 m (pc + 4) ls (.ref q :: rest))) : W p l e R s m args below meth c H locs cells slots Q (F0 m pc ls (.int 10 :: .int 8 :: rest)) := by
  obtain ⟨kA, kI, cc', h1, h2, h3, h4⟩ := hG
  have e2 : s.vm.findClass "[[I" = some (tc 2) := (hK.1.2 2 (tc 2, .array .int) rfl).2
  refine z_gridG hexec hb hown hclink e2 h1 h2 h3 h4 rfl rfl hdg hcells hslots (fun L H1 hL hz ho hold hrow => ?_)
  have hrf : (fun j => va_rf (if j < 8 then some (H.size + 1 + j) else none)) = zo H.size 8 := by
    funext j
    unfold zo
    by_cases hj : j < 8
    · rw [if_pos hj, if_pos hj]; rfl
    · rw [if_neg hj, if_neg hj]; rfl
  have hPz : va_P D cls (zgl tc H.size) H1 := by
    intro k x hx
    obtain ⟨a1, a2, ⟨rfl, a3⟩ | ⟨a0, a3⟩⟩ := zgl_at hx
    · unfold va_at
      rw [a3, a2]
      show H1[H.size]? = some (arrV (tc 2) 8 (fun j => va_rf (if j < 8 then some (H.size + 1 + j) else none)))
      rw [hrf]; exact ho
    · unfold va_at
      rw [a3, a2]
      show H1[H.size + k]? = some (arrV (tc 0) 10 fun _ => .int 0)
      have := hrow (k - 1) (by omega)
      rw [show H.size + 1 + (k - 1) = H.size + k by omega] at this
      exact this
  have hDz : va_D A (zgl tc H.size) := by
    refine ⟨fun i j x y hi hj hxy => ?_, fun k x hx => ?_⟩
    · have h1 := (zgl_at hi).2.1
      have h2 := (zgl_at hj).2.1
      omega
    · rw [(zgl_at hx).2.1]
      exact hA _ (Nat.le_trans hS.1 (Nat.le_add_right _ _))
  have hlt : ∀ (k : Nat) (x : Nat × va_E), ws[k]? = some x → x.1 < H.size := fun k x hx => (hP k x hx).lt
  refine kk H.size H1 (locs ++ L) ((hP.kept (fun k x hx => hold x.1 (hlt k x hx))).app hPz) (hD.app hDz (fun i j x y hi hj => ?_)) ⟨Nat.le_trans hS.1 (by omega), fun a x1 x2 => (hold a (Nat.lt_of_lt_of_le x1 hS.1)).trans (hS.2.1 a x1 x2), fun q hq => ?_⟩
  · have h1 := hlt i x hi
    have h2 := (zgl_at hj).2.1
    omega
  · rcases List.mem_append.mp hq with h | h
    · exact hS.2.2 q h
    · rw [hL q h]; exact hA _ hS.1
end ZR
