/-! ===== more rows ===== -/
def jrem (x y : Int32) : Int32 := x - x / y * y
def jremL (x y : Int64) : Int64 := x - x / y * y
def jshl (x y : Int32) : Int32 := x <<< (y &&& 31)
def jshr (x y : Int32) : Int32 := x >>> (y &&& 31)
def jushr (x y : Int32) : Int32 := (x.toUInt32 >>> (y.toUInt32 &&& Int32.toUInt32 31)).toInt32
def jlshl (x : Int64) (y : Int32) : Int64 := x <<< (y.toInt64 &&& 63)
def nz (y : Int32) : Bool := decide (¬ y = 0)
def nzL (y : Int64) : Bool := decide (¬ y = 0)
def St (k : Nat) : Prop := k = 2 ∨ k = 14 ∨ k = 26
theorem sT2 : St 2 := Or.inl rfl
theorem sT14 : St 14 := Or.inr (Or.inl rfl)
theorem sT26 : St 26 := Or.inr (Or.inr rfl)
theorem st_o {k : Nat} (h : St k) : lay k = (6, 0) := by rcases h with rfl | rfl | rfl <;> rfl
theorem st_1 {k : Nat} (h : St k) : lay (k + 1) = (0, 8) := by rcases h with rfl | rfl | rfl <;> rfl
theorem st_2 {k : Nat} (h : St k) : lay (k + 2) = (0, 8) := by rcases h with rfl | rfl | rfl <;> rfl
theorem st_3 {k : Nat} (h : St k) : lay (k + 3) = (2, 8) := by rcases h with rfl | rfl | rfl <;> rfl
theorem st_i {k i : Nat} (h : St k) (hi : i < 8) : lay (k + 3 + 1 + i) = (0, 10) := by
  have key : ∀ a, a < 8 → lay (2 + 3 + 1 + a) = (0, 10) ∧ lay (14 + 3 + 1 + a) = (0, 10) ∧ lay (26 + 3 + 1 + a) = (0, 10) := by decide +kernel
  rcases h with rfl | rfl | rfl
  · exact (key i hi).1
  · exact (key i hi).2.1
  · exact (key i hi).2.2
def allne : List Int32 → Int32 → Prop
  | [], _ => True
  | v :: vs, x => ¬ x = v ∧ allne vs x
def tcov (vs : List Int32) (lo hi : Int) (offs : Array Int) (dflt : Int) : Bool := (List.range (hi - lo + 1).toNat).all (fun i => vs.any (fun v => v.toInt == lo + i) || decide (offs[i]? = some dflt))
theorem allne_any {vs : List Int32} {x : Int32} (h : allne vs x) : vs.any (fun v => v.toInt == x.toInt) = false := by
  induction vs with
  | nil => rfl
  | cons v vs ih =>
    rw [List.any_cons, ih h.2, Bool.or_false]
    apply Bool.eq_false_iff.mpr
    intro q
    exact h.1 (Int32.toInt_inj.mp (by simpa using q)).symm
section GX
variable {C : Cfg} {ad : Nat → Nat} {ρ : Type} {enc : ρ → Option Value} {pc : Nat} {L : List (Nat × Value)} {st : List Value} {μ : Mem} {X : Option (ρ × Mem)}
theorem g_ishl' {x y : Int32} (d : decode C.2.1 pc = .ok (.ishl, 1)) (k : G C ad enc (pc + 1) L (.int (jshl x y) :: st) μ X) : G C ad enc pc L (.int y :: .int x :: st) μ X := g_ishl d k
theorem g_ishr' {x y : Int32} (d : decode C.2.1 pc = .ok (.ishr, 1)) (k : G C ad enc (pc + 1) L (.int (jshr x y) :: st) μ X) : G C ad enc pc L (.int y :: .int x :: st) μ X := g_ishr d k
theorem g_iushr' {x y : Int32} (d : decode C.2.1 pc = .ok (.iushr, 1)) (k : G C ad enc (pc + 1) L (.int (jushr x y) :: st) μ X) : G C ad enc pc L (.int y :: .int x :: st) μ X := g_iushr d k
theorem g_lshl' {x : Int64} {y : Int32} (d : decode C.2.1 pc = .ok (.lshl, 1)) (k : G C ad enc (pc + 1) L (.long (jlshl x y) :: st) μ X) : G C ad enc pc L (.int y :: .long x :: st) μ X := g_lshl d k
theorem g_irem' {x y : Int32} (d : decode C.2.1 pc = .ok (.irem, 1)) (h0 : ¬ y = 0) (k : G C ad enc (pc + 1) L (.int (jrem x y) :: st) μ X) : G C ad enc pc L (.int y :: .int x :: st) μ X := g_irem d h0 k
theorem g_lrem' {x y : Int64} (d : decode C.2.1 pc = .ok (.lrem, 1)) (h0 : ¬ y = 0) (k : G C ad enc (pc + 1) L (.long (jremL x y) :: st) μ X) : G C ad enc pc L (.long y :: .long x :: st) μ X := g_lrem d h0 k
theorem g_iremG {x y : Int32} (d : decode C.2.1 pc = .ok (.irem, 1)) (k : G C ad enc (pc + 1) L (.int (jrem x y) :: st) μ X) : G C ad enc pc L (.int y :: .int x :: st) μ (gd (nz y) X) := g_gd (fun h => g_irem' d (of_decide_eq_true h) k)
theorem g_lremG {x y : Int64} (d : decode C.2.1 pc = .ok (.lrem, 1)) (k : G C ad enc (pc + 1) L (.long (jremL x y) :: st) μ X) : G C ad enc pc L (.long y :: .long x :: st) μ (gd (nzL y) X) := g_gd (fun h => g_lrem' d (of_decide_eq_true h) k)
theorem g_idivG {x y : Int32} (d : decode C.2.1 pc = .ok (.idiv, 1)) (k : G C ad enc (pc + 1) L (.int (x / y) :: st) μ X) : G C ad enc pc L (.int y :: .int x :: st) μ (gd (nz y) X) := g_gd (fun h => g_idiv d (of_decide_eq_true h) k)
theorem g_ldivG {x y : Int64} (d : decode C.2.1 pc = .ok (.ldiv, 1)) (k : G C ad enc (pc + 1) L (.long (x / y) :: st) μ X) : G C ad enc pc L (.long y :: .long x :: st) μ (gd (nzL y) X) := g_gd (fun h => g_ldiv d (of_decide_eq_true h) k)
theorem g_join {α : Type} {f : α} {Z : α → Option (ρ × Mem)} (R : α → Prop) (h1 : R f) (h2 : ∀ kb, R kb → G C ad enc pc L st μ (Z kb)) : G C ad enc pc L st μ (bnd f Z) := h2 f h1
theorem g_swx {x : Int32} {Z : Int32 → Option (ρ × Mem)} (h : ∀ z, G C ad enc pc L (.int z :: st) μ (Z z)) : G C ad enc pc L (.int x :: st) μ (bnd x Z) := h x
theorem g_tabD (tgt : Nat) {dflt lo hi : Int} {offs : Array Int} {len : Nat} {x : Int32} (d : decode C.2.1 pc = .ok (.tableswitch dflt lo hi offs, len)) (vs : List Int32) (hc : tcov vs lo hi offs dflt = true) (hne : allne vs x) (ht : (pc : Int) + dflt = (tgt : Int)) (k : G C ad enc tgt L st μ X) : G C ad enc pc L (.int x :: st) μ X := by
  by_cases h : x.toInt < lo ∨ hi < x.toInt
  · exact g_tabOut tgt d h ht k
  · refine g_tabIn tgt dflt d ⟨⟨fun q => h (Or.inl q), fun q => h (Or.inr q)⟩, ?_, ht⟩ k
    have h1 : ¬ x.toInt < lo := fun q => h (Or.inl q)
    have h2 : ¬ hi < x.toInt := fun q => h (Or.inr q)
    have h3 := List.all_eq_true.mp hc (x.toInt - lo).toNat (List.mem_range.mpr (by omega))
    rw [show lo + ((x.toInt - lo).toNat : Int) = x.toInt by omega, allne_any hne, Bool.false_or] at h3
    exact of_decide_eq_true h3
theorem look_def2 {a b oa ob dflt : Int} {x : Int32} {va vb : Int32} (ha : va.toInt = a) (hb : vb.toInt = b) (h1 : ¬ x = va) (h2 : ¬ x = vb) : Op.lookupswitch.offset [(a, oa), (b, ob)] dflt x.toInt = dflt := by
  have e1 : ¬ a = x.toInt := fun q => h1 (Int32.toInt_inj.mp (ha.trans q)).symm
  have e2 : ¬ b = x.toInt := fun q => h2 (Int32.toInt_inj.mp (hb.trans q)).symm
  simp [Op.lookupswitch.offset, e1, e2, Ne.symm e1, Ne.symm e2]
end GX
