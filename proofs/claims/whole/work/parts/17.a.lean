/-! ===== a grid of 8 rows of 10 ints ===== -/
/-- the outer row, when the first i are laid into it -/
def zo (h0 i : Nat) : Nat → Value := fun j => if j < i then .ref (h0 + 1 + j) else .null
theorem zo_up (h0 i : Nat) : updV (zo h0 i) i (.ref (h0 + 1 + i)) = zo h0 (i + 1) := by
  funext j
  unfold updV zo
  by_cases e : j = i
  · rw [if_pos e, if_pos (by omega), e]
  · rw [if_neg e]
    by_cases h : j < i
    · rw [if_pos h, if_pos (by omega)]
    · rw [if_neg h, if_neg (by omega)]
abbrev zrow (cI : ClassId) : Cell := arrV cI 10 (fun _ => .int 0)
def zgr (T : State) (cA cI : ClassId) : Nat → State
  | 0 => T.pushCell (arrV cA 8 (zo T.heap.size 0))
  | i + 1 => ((zgr T cA cI i).pushCell (zrow cI)).setCell T.heap.size (arrV cA 8 (zo T.heap.size (i + 1)))
theorem zgr_f (T : State) (cA cI : ClassId) : ∀ i, (zgr T cA cI i).heap.size = T.heap.size + 1 + i ∧ (zgr T cA cI i).heap[T.heap.size]? = some (arrV cA 8 (zo T.heap.size i)) ∧ (zgr T cA cI i).vm = T.vm ∧ (zgr T cA cI i).slotsUsed = T.slotsUsed + 8 + i * 10 ∧ (∀ a, a < T.heap.size → (zgr T cA cI i).heap[a]? = T.heap[a]?) ∧ ∀ j, j < i → (zgr T cA cI i).heap[T.heap.size + 1 + j]? = some (zrow cI)
  | 0 => ⟨by simp [zgr], by simp [zgr], rfl, by simp [zgr, arrV_size], fun a ha => State.heap_pushCell_of_lt _ _ ha, fun j hj => absurd hj (Nat.not_lt_zero j)⟩
  | i + 1 => by
    obtain ⟨a1, a2, a3, a4, a5, a6⟩ := zgr_f T cA cI i
    have hlt : T.heap.size < (zgr T cA cI i).heap.size := by omega
    have hin : ((zgr T cA cI i).pushCell (zrow cI)).heap[T.heap.size]? = some (arrV cA 8 (zo T.heap.size i)) := by rw [State.heap_pushCell_of_lt (h := hlt)]; exact a2
    refine ⟨?_, State.heap_setCell_self hin, ?_, ?_, fun a ha => ?_, fun j hj => ?_⟩
    · simp [zgr, State.setCell, a1]; omega
    · simp [zgr, a3]
    · simp [zgr, a4, arrV_size]; omega
    · show (((zgr T cA cI i).pushCell (zrow cI)).setCell T.heap.size _).heap[a]? = _
      have hlt2 : a < (zgr T cA cI i).heap.size := by omega
      rw [State.heap_setCell_other (Nat.ne_of_gt ha), State.heap_pushCell_of_lt (h := hlt2)]
      exact a5 a ha
    · show (((zgr T cA cI i).pushCell (zrow cI)).setCell T.heap.size _).heap[_]? = _
      rw [State.heap_setCell_other (show T.heap.size ≠ T.heap.size + 1 + j by omega)]
      by_cases e : j = i
      · subst e
        rw [← a1]
        exact State.heap_pushCell_size _ _
      · have hlt2 : T.heap.size + 1 + j < (zgr T cA cI i).heap.size := by omega
        rw [State.heap_pushCell_of_lt (h := hlt2)]
        exact a6 j (by omega)
theorem zgr_top (T : State) (f : JFrame) (cA cI : ClassId) : ∀ i, zgr (T.setTop f) cA cI i = (zgr T cA cI i).setTop f
  | 0 => rfl
  | i + 1 => by simp only [zgr, zgr_top T f cA cI i, State.heap_setTop, State.pushCell_setTop, State.setCell_setTop]
section ZST
variable {p : Program} {l : Launch} {e : Env} {R : Room} {s : State} {m : MethodId} {args : Array Value} {below : List Frame} {meth : Method} {c : Code} {T : State} {locs : List Loc} {cells slots : Nat}
theorem zgr_st (X : Stand p l e R s m args below meth c T locs cells slots) (cA cI : ClassId) : ∀ i, ∃ L, (∀ q ∈ L, q.base = T.heap.size) ∧ Stand p l e R s m args below meth c (zgr T cA cI i) (locs ++ L) (cells + 1 + i) (slots + 8 + i * 10)
  | 0 => by
    have h := X.pushed (arrV cA 8 (zo T.heap.size 0))
    rw [arrV_size] at h
    exact ⟨[], fun q hq => (by cases hq), by simpa [zgr] using h⟩
  | i + 1 => by
    obtain ⟨L, hL, X1⟩ := zgr_st X cA cI i
    obtain ⟨a1, a2, -⟩ := zgr_f T cA cI i
    have hlt : T.heap.size < (zgr T cA cI i).heap.size := by omega
    have hin : ((zgr T cA cI i).pushCell (zrow cI)).heap[T.heap.size]? = some (arrV cA 8 (zo T.heap.size i)) := by rw [State.heap_pushCell_of_lt (h := hlt)]; exact a2
    have h := (X1.pushed (zrow cI)).stored hin i (.ref (T.heap.size + 1 + i))
    rw [arrV_store, zo_up, arrV_size] at h
    refine ⟨L ++ [⟨T.heap.size, i⟩], fun q hq => ?_, ?_⟩
    · rcases List.mem_append.mp hq with h1 | h1
      · exact hL q h1
      · rw [List.mem_singleton.mp h1]
    · rw [← List.append_assoc, show slots + 8 + (i + 1) * 10 = slots + 8 + i * 10 + 10 by omega]
      exact h
end ZST
section ZWP
variable {E : CtlPost} {e : Env} {d : Bool} {acts : List Action} {s : State}
theorem zwp_new {c cc : ClassId} {k : Class} {ty : FieldType} {len : Nat} {v : Value} (hk : s.vm.classes[c]? = some k) (hkind : k.kind = .array cc ty) (h1 : ¬ len > e.platform.arrayLengthLimit) (h2 : ¬ len * componentBytes ty > e.platform.maxHeapBytes) (hf : fits ty v = true) (hd : v.isDefault = true) {Q : Addr → Pre} (hc : s.heap.size < e.platform.maxCells) (hs : s.slotsUsed + len ≤ e.platform.maxSlots) (hq : Q s.heap.size d acts (s.pushCell (arrV c len (fun _ => v)))) : wp (Jvm.newArray c len v) Q E e d acts s := by
  have hfit : ∀ i w, (Array.replicate len v)[i]? = some w → s.fitsSlot c .none i w = true := by
    intro i w hw
    rw [Array.getElem?_replicate] at hw
    by_cases hi : i < len
    · rw [if_pos hi] at hw
      cases hw
      simp [State.fitsSlot, State.slotType?, hk, hkind, hf]
    · rw [if_neg hi] at hw; cases hw
  have hda : allocActs (Array.replicate len v) s.heap.size acts = acts := by
    unfold allocActs
    rw [if_pos]
    rw [Array.all_replicate]
    split <;> simp [hd]
  rw [← arrV_new] at hq
  simp only [Jvm.newArray, Jvm.arrayFits, wp_bind', W.ask, W.ite, h1, if_false, wp_pure', W.theClass, hk, hkind, h2, W.alloc, W.stop, Option.some.injEq, exists_eq_left', Array.size_replicate, hda]
  rw [if_neg (by omega)]
  exact ⟨hc, hs, hfit, hq⟩
theorem zwp_row {cI cc : ClassId} {k : Class} (hk : s.vm.classes[cI]? = some k) (hkind : k.kind = .array cc .int) (h1 : ¬ (10 : Nat) > e.platform.arrayLengthLimit) (h2 : ¬ 10 * componentBytes .int > e.platform.maxHeapBytes) {Q : Addr → Pre} (hc : s.heap.size < e.platform.maxCells) (hs : s.slotsUsed + 10 ≤ e.platform.maxSlots) (hq : Q s.heap.size d acts (s.pushCell (zrow cI))) : wp (multianewarray.make cI [10]) Q E e d acts s := by
  rw [multianewarray.make]
  simp only [wp_bind', W.ite, show ¬ (10 : Int32) < 0 by decide, if_false, wp_pure', W.theClass, hk, hkind, Option.some.injEq, exists_eq_left']
  exact zwp_new hk hkind h1 h2 rfl rfl hc hs hq
theorem zwp_grid {cA cI cc : ClassId} {k kI : Class} (hk : s.vm.classes[cA]? = some k) (hkind : k.kind = .array cI (.array .int)) (hkI : s.vm.classes[cI]? = some kI) (hkindI : kI.kind = .array cc .int) (h1 : ¬ (10 : Nat) > e.platform.arrayLengthLimit) (h2 : ¬ 10 * componentBytes .int > e.platform.maxHeapBytes) (hc : s.heap.size + 9 ≤ e.platform.maxCells) (hs : s.slotsUsed + 88 ≤ e.platform.maxSlots) {Q : Addr → Pre} (hq : ∀ d' acts', Q s.heap.size d' acts' (zgr s cA cI 8)) : wp (multianewarray.make cA [8, 10]) Q E e d acts s := by
  have hfind : ([(10 : Int32)].find? (· < 0)) = none := by decide
  have h8 : (8 : Int32).toNatClampNeg = 8 := rfl
  have hb : componentBytes (.array .int) = 4 := rfl
  have hb2 : componentBytes .int = 4 := rfl
  rw [hb2] at h2
  rw [multianewarray.make]
  simp only [wp_bind', W.ite, show ¬ (8 : Int32) < 0 by decide, if_false, wp_pure', W.theClass, hk, hkind, Option.some.injEq, exists_eq_left', h8]
  refine zwp_new hk hkind (by omega) (by rw [hb]; omega) rfl rfl (by omega) (by omega) ?_
  simp only [hfind]
  rw [ite_self, wp_bind', Std.Legacy.Range.forIn_eq_forIn_range']
  have hsz : ([:8] : Std.Legacy.Range).size = 8 := by simp [Std.Legacy.Range.size]
  rw [hsz]
  show wp (forIn (List.range' 0 8 1) PUnit.unit _) _ E e d acts _
  refine wp_forIn_inv (fun rest s' => ∃ i, i ≤ 8 ∧ rest = List.range' i (8 - i) ∧ s' = zgr s cA cI i) _ _ ⟨0, by decide, rfl, rfl⟩ ?_ ?_
  · rintro x rest s' d' acts' Q' ⟨i, hi, hl, rfl⟩ hnext
    have hlt : i < 8 := by
      rcases Nat.lt_or_ge i 8 with h | h
      · exact h
      · rw [show 8 - i = 0 by omega] at hl; simp at hl
    rw [show 8 - i = (8 - (i + 1)) + 1 by omega, List.range'_succ] at hl
    obtain ⟨rfl, hrest⟩ := List.cons.inj hl
    obtain ⟨a1, a2, a3, a4, a5, a6⟩ := zgr_f s cA cI x
    have hlt0 : s.heap.size < (zgr s cA cI x).heap.size := by omega
    simp only [wp_bind']
    refine zwp_row (by rw [a3]; exact hkI) hkindI h1 (by rw [hb2]; exact h2) (by omega) (by omega) ?_
    simp only [wp_bind', W.writeLoc, wp_pure']
    refine ⟨arrV cA 8 (zo s.heap.size x), by rw [State.heap_pushCell_of_lt (h := hlt0)]; exact a2, by simp [arrV], by rw [arrV_size]; exact hlt, ?_, hnext _ _ _ ⟨x + 1, hlt, hrest, ?_⟩⟩
    · simp [arrV, State.fitsSlot, State.slotType?, a3, hk, hkind, fits]
    · rw [a1, arrV_store, zo_up]; rfl
  · rintro s' d' acts' ⟨i, hi, hl, rfl⟩
    have hiN : i = 8 := by
      rcases Nat.lt_or_ge i 8 with h | h
      · rw [show 8 - i = (8 - (i + 1)) + 1 by omega, List.range'_succ] at hl; cases hl
      · omega
    subst hiN
    simp only [wp_pure']
    exact hq _ _
end ZWP
section ZW
variable {p : Program} {l : Launch} {e : Env} {R : Room} {s : State} {m : MethodId} {args : Array Value} {below : List Frame} {meth : Method} {c : Code} {H : Heap} {locs : List Loc} {cells slots : Nat} {Q : State → Prop}
theorem z_gridG {cc : ByteArray} (hexec : p.tables.exec = Jvm.exec) (hb : c.code = cc) {own : String} {index : Nat} (hown : s.vm.findClass own = some m.cls) (hclink : (Cond.classLink own index "[[I").before args s = true) (hover : (Cond.arrayOver (.array .int)).before args s = true) (harr : (Cond.arrayClass .int).before args s = true)
    {g : JFrame} (hg : g.method = m) {rest : List Value} (hstack : g.stack = .int 10 :: .int 8 :: rest) (hdg : decode cc g.pc = .ok (.multianewarray index 2, 4)) (hcells : cells + 9 ≤ R.cells) (hslots : slots + 88 ≤ R.slots)
    (kk : ∀ (cA cI : ClassId) (kA kI : Class) (L : List Loc) (H1 : Heap), s.vm.findClass "[[I" = some cA → s.vm.findClass "[I" = some cI → s.vm.classes[cA]? = some kA → kA.kind = .array cI (.array .int) → (∀ q ∈ L, q.base = H.size) → H1.size = H.size + 9 → H1[H.size]? = some (arrV cA 8 (zo H.size 8)) → (∀ a, a < H.size → H1[a]? = H[a]?) → (∀ j, j < 8 → H1[H.size + 1 + j]? = some (zrow cI)) → W p l e R s m args below meth c H1 (locs ++ L) (cells + 9) (slots + 88) Q { g with pc := g.pc + 4, stack := .ref H.size :: rest }) : W p l e R s m args below meth c H locs cells slots Q g := by
  intro T hT X
  subst hT; subst hb; subst hg
  have hpl : e.platform.magicAccessors = ({} : Platform).magicAccessors := by rw [X.admits.platform]
  obtain ⟨cI, cA, kA, hcomp, hidx, hkA, hkindA, hnameA⟩ := arrayOverA_spec hover
  obtain ⟨cI', kI, cc', hcomp', hkI, hkindI⟩ := Cond.arrayClass_spec harr
  cases Option.some.inj (hcomp'.symm.trans hcomp)
  obtain ⟨c0, hfc0, hcl⟩ := Cond.classLink_spec hown hclink e.platform hpl
  cases Option.some.inj (hnameA.symm.trans hfc0)
  obtain ⟨hg₁, hwarm₁, hready₁⟩ := State.classEntry (e := e) X.warmed hcl
  generalize T.vm.noted g.method.cls index (.cls cA) = vm₁ at hg₁ hwarm₁ hready₁
  have hal : s.vm.Alike vm₁ := hwarm₁.alike
  obtain ⟨kA₁, hkA₁, heA⟩ := hal.2.2 _ _ hkA
  obtain ⟨kI₁, hkI₁, heI⟩ := hal.2.2 _ _ hkI
  have hkindA₁ : kA₁.kind = .array cI (.array .int) := by rw [heA]; exact hkindA
  have hkindI₁ : kI₁.kind = .array cc' .int := by rw [heI]; exact hkindI
  obtain ⟨hr1, hr2⟩ := X.roomAbove hcells hslots
  obtain ⟨L, hL, XF⟩ := zgr_st (X.noted hwarm₁) cA cI 8
  obtain ⟨a1, a2, a3, a4, a5, a6⟩ := zgr_f (T.setVm vm₁) cA cI 8
  obtain ⟨t, b1, b2⟩ := kk cA cI kA kI L (zgr (T.setVm vm₁) cA cI 8).heap hnameA hcomp hkA hkindA hL a1 a2 a5 a6 _ rfl XF
  refine ⟨t, ?_, b2⟩
  have hl1 : ¬ (10 : Nat) > e.platform.arrayLengthLimit := by rw [Launch.admits_arrayLengthLimit X.admits]; decide
  have hh1 : ¬ 10 * componentBytes .int > e.platform.maxHeapBytes := by rw [Launch.admits_maxHeapBytes X.admits]; decide
  jvm_step X.here [hexec, hdg]
  simp only [multianewarray.sem, wp_bind', W.resolveClassAt_links (State.method?_setTop g X.here.top) hg₁]
  rw [W.popN, if_neg (by decide)]
  refine ⟨g, State.topJava?_setTop' (s := T.setVm vm₁) g X.here.top, [.int 8, .int 10], rest, rfl, hstack, ?_⟩
  simp only [List.mapM_cons, List.mapM_nil, wp_bind', wp_pure']
  refine zwp_grid (k := kA₁) (kI := kI₁) (cI := cI) (cc := cc') hkA₁ hkindA₁ hkI₁ hkindI₁ hl1 hh1 (by show T.heap.size + 9 ≤ _; omega) (by show T.slotsUsed + 88 ≤ _; omega) (fun d' acts' => ?_)
  have eS : ((T.setTop g).setVm vm₁).setTop { g with stack := rest } = (T.setVm vm₁).setTop { g with stack := rest } := by
    show ((T.setVm vm₁).setTop g).setTop _ = _
    rw [State.setTop_setTop]
  rw [eS, zgr_top]
  simp only [wp_bind', W.mark, W.pushRef, State.topJava?_setTop' _ XF.here.top, Option.some.injEq, exists_eq_left', State.setTop_setTop, State.heap_setTop]
  intro acts
  simp [jvm, XF.here.top]
  exact b1
end ZW
