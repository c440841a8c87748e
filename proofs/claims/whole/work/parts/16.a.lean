/-! ===== the law: rows at its frame ===== -/
theorem CI_low {s : Zs} {μ ν : Mem} (hs : SOk s) (h : ∀ a, a < 47 → ν.1 a = μ.1 a) (hc : CI s μ) : CI s ν := by
  obtain ⟨a, b, c, d, e⟩ := hc
  exact ⟨CV_eq hs.1.1.1 (fun x x1 x2 => h x (by omega)) a, ⟨by rw [h 38 (by decide)]; exact b.1, fun i hi => by rw [h 39 (by decide)]; exact b.2 i hi⟩, ⟨by rw [h 40 (by decide)]; exact c.1, fun i hi => by rw [h 41 (by decide)]; exact c.2 i hi⟩, fun i hi => by rw [h 1 (by decide)]; exact d i hi, CK_eq hs.2.2.2 (fun x hx => h x (by omega)) e⟩
theorem MI_high {s : Zs} {μ ν : Mem} (h : ∀ a, 47 ≤ a → a < 62 → ν.1 a = μ.1 a) (hc : MI s μ) : MI s ν := by
  obtain ⟨a, b, c, d, e⟩ := hc
  refine ⟨⟨by rw [h 47 (by decide) (by decide)]; exact a.1, by rw [h 47 (by decide) (by decide)]; exact a.2.1, fun i hi => by rw [h 51 (by decide) (by decide), h 50 (by decide) (by decide), h 49 (by decide) (by decide)]; exact a.2.2 i hi⟩, ⟨by rw [h 47 (by decide) (by decide)]; exact b.1, fun i hi => by rw [h 52 (by decide) (by decide)]; exact b.2 i hi⟩, ⟨by rw [h 47 (by decide) (by decide)]; exact c.1, fun i hi => by rw [h 61 (by decide) (by decide)]; exact c.2 i hi⟩, fun i hi => by rw [h 48 (by decide) (by decide)]; exact d i hi, MK_eq (by rw [h 47 (by decide) (by decide)]) (fun j => by rw [h 58 (by decide) (by decide)]) e⟩
/-- class and model, one behind the other -/
theorem two {ρ : Type} {f g : Mem → Option (ρ × Mem)} {s : Zs} {μ : Mem} (h : ∀ μ μ', CI s μ → MI s μ' → D μ μ' (f μ) (g μ')) (hc : CI s μ) (hm : MI s μ) : ∃ r ν ξ s', f μ = some (r, ν) ∧ g ν = some (r, ξ) ∧ SOk s' ∧ CI s' ξ ∧ MI s' ξ := by
  obtain ⟨r, s1, h1, ⟨ν, q1, c1, f1⟩, -⟩ := h μ μ hc hm
  have hm' : MI s ν := MI_high (fun a x1 x2 => (f1 a (by omega)).1) hm
  obtain ⟨r2, s2, h2, ⟨ν2, q2, c2, f2⟩, ⟨ξ, q3, c3, f3⟩⟩ := h μ ν hc hm'
  rw [q1] at q2
  cases q2
  exact ⟨r, ν, ξ, s2, q1, q3, h2, CI_low h2 (fun a x => (f3 a (by omega)).1) c2, c3⟩
theorem wl_D {tc : Nat → ClassId} {ad : Nat → Nat} {A : Nat → Prop} {μ ν : Mem} (hD : va_D A (wl tc ad μ)) : va_D A (wl tc ad ν) := by
  have key : ∀ (i : Nat) (x : Nat × va_E), (wl tc ad ν)[i]? = some x → ∃ y, (wl tc ad μ)[i]? = some y ∧ y.1 = x.1 := by
    intro i x hx
    have hi : i < NC := by have := (List.getElem?_eq_some_iff.mp hx).1; rwa [wl_len] at this
    rw [wl_at hi] at hx
    cases hx
    exact ⟨_, wl_at hi, rfl⟩
  refine ⟨fun i j x y hi hj hxy => ?_, fun k q hk => ?_⟩
  · obtain ⟨x0, h1, h2⟩ := key i x hi
    obtain ⟨y0, h3, h4⟩ := key j y hj
    exact hD.1 i j x0 y0 h1 h3 (h2.trans (hxy.trans h4.symm))
  · obtain ⟨q0, h1, h2⟩ := key k q hk
    rw [← h2]
    exact hD.2 k q0 h1
section LAW
/-- what stands fast at the law's frame -/
def LK (p : Program) (s : State) (m : MethodId) (meth : Method) (c : Code) (b L : Nat) (xs : Nat → Int32) (D : va_G) (tc : Nat → ClassId) (ad : Nat → Nat) : Prop :=
  p.tables.exec = Jvm.exec ∧ c.code = code ∧ c.maxLocals = 4 ∧ s.vm.findClass RL = some m.cls ∧ (∀ w ∈ TB, w.before #[Value.ref b] s = true) ∧ va_X b L xs s s.heap ∧ b < s.heap.size ∧ Ka D tc s ∧ (∀ q, A62 ad q → s.heap.size ≤ q) ∧ meth.sig.returnType = ret ∧ meth.locks = false ∧ L ≤ 2560 ∧ TX (fun q => s.heap.size ≤ q) s s.heap
def LW (p : Program) (l : Launch) (e : Env) (s : State) (m : MethodId) (below : List Frame) (meth : Method) (c : Code) (b : Nat) (D : va_G) (tc : Nat → ClassId) (ad : Nat → Nat) (nC nS : Nat) (Q : State → Prop) (pc : Nat) (Lc : List (Nat × Value)) (st : List Value) (μ : Mem) : Prop :=
  ∀ (H : Heap) (locs : List Loc) (ls : Array Slot), va_P D cls (wl tc ad μ) H → va_D (A62 ad) (wl tc ad μ) → va_S (fun q => s.heap.size ≤ q) s.heap H locs → lv_has ls 4 Lc → W p l e room_1 s m #[Value.ref b] below meth c H locs nC nS Q (F0 m pc ls st)
variable {p : Program} {l : Launch} {e : Env} {s : State} {m : MethodId} {below : List Frame} {meth : Method} {c : Code} {b L : Nat} {xs : Nat → Int32} {D : va_G} {tc : Nat → ClassId} {ad : Nat → Nat} {nC nS : Nat} {Q : State → Prop} {pc : Nat} {Lc : List (Nat × Value)} {st : List Value} {μ : Mem}
theorem l_aload (hk : LK p s m meth c b L xs D tc ad) (j : Nat) {f : Fin 4} {i x : Nat} (d : decode code pc = .ok (.aload_n f, 1)) (hi : (f : Nat) = i) (hj : Lc[j]? = some (i, .ref x)) (k : LW p l e s m below meth c b D tc ad nC nS Q (pc + 1) Lc (.ref x :: st) μ) : LW p l e s m below meth c b D tc ad nC nS Q pc Lc st μ := fun H locs ls hP hD hS hl => lv_aload_n hk.1 hk.2.1 d hi (lv_at hl j hj) (k H locs ls hP hD hS hl)
theorem l_iload (hk : LK p s m meth c b L xs D tc ad) (j : Nat) {f : Fin 4} {i : Nat} {x : Int32} (d : decode code pc = .ok (.iload_n f, 1)) (hi : (f : Nat) = i) (hj : Lc[j]? = some (i, .int x)) (k : LW p l e s m below meth c b D tc ad nC nS Q (pc + 1) Lc (.int x :: st) μ) : LW p l e s m below meth c b D tc ad nC nS Q pc Lc st μ := fun H locs ls hP hD hS hl => lv_iload_n hk.1 hk.2.1 d hi (lv_at hl j hj) (k H locs ls hP hD hS hl)
theorem l_iconst (hk : LK p s m meth c b L xs D tc ad) (v : Nat) {n : Int} (d : decode code pc = .ok (.iconst n, 1)) (hv : Int32.ofInt n = nI v) (k : LW p l e s m below meth c b D tc ad nC nS Q (pc + 1) Lc (.int (nI v) :: st) μ) : LW p l e s m below meth c b D tc ad nC nS Q pc Lc st μ := fun H locs ls hP hD hS hl => lv_iconst hk.1 hk.2.1 d hv (k H locs ls hP hD hS hl)
theorem l_iadd (hk : LK p s m meth c b L xs D tc ad) {x y : Nat} (d : decode code pc = .ok (.iadd, 1)) (k : LW p l e s m below meth c b D tc ad nC nS Q (pc + 1) Lc (.int (nI (x + y)) :: st) μ) : LW p l e s m below meth c b D tc ad nC nS Q pc Lc (.int (nI y) :: .int (nI x) :: st) μ := fun H locs ls hP hD hS hl => lv_iadd hk.1 hk.2.1 d (by rw [nI_add]; exact k H locs ls hP hD hS hl)
theorem l_sld (hk : LK p s m meth c b L xs D tc ad) {j : Nat} (hj : j < L) (d : decode code pc = .ok (.iaload, 1)) (k : LW p l e s m below meth c b D tc ad nC nS Q (pc + 1) Lc (.int (xs j) :: st) μ) : LW p l e s m below meth c b D tc ad nC nS Q pc Lc (.int (nI j) :: .ref b :: st) μ := fun H locs ls hP hD hS hl => va_sld hk.1 hk.2.1 hk.2.2.2.2.2.1 hk.2.2.2.2.2.2.1 (Nat.not_le.mpr hk.2.2.2.2.2.2.1) hS (vp_in_nI hj (by have := hk.2.2.2.2.2.2.2.2.2.2.2.1; omega)) d (by
  rw [nI_clamp (by have := hk.2.2.2.2.2.2.2.2.2.2.2.1; omega)]
  exact k H locs ls hP hD hS hl)
theorem l_back {σ : Type} {enc2 : σ → Option Value} {r2 : σ} {ν2 : Mem} {a : Array Value} {st1 st2 : List Value} {H : Heap} {locs : List Loc} {ls : Array Slot} (hk : LK p s m meth c b L xs D tc ad) (hD : va_D (A62 ad) (wl tc ad μ)) (hS : va_S (fun q => s.heap.size ≤ q) s.heap H locs) (hl : lv_has ls 4 Lc)
    (hr : va_Run p l e room_1 s m #[Value.ref b] below meth c H locs nC nS 0 0 (F0 m pc ls st1) st2 (Qr D tc ad enc2 r2 ν2 a) (A62 ad)) (kk : LW p l e s m below meth c b D tc ad nC nS Q (pc + 3) Lc ((enc2 r2).toList ++ st2) ν2) : W p l e room_1 s m #[Value.ref b] below meth c H locs nC nS Q (F0 m pc ls st1) := by
  intro T hT XX
  obtain ⟨v, st₀, t, T', L', h0, X', hL, e1, e2, ⟨hv, hb, hz, hkp⟩, stp⟩ := hr T hT XX
  cases hv
  rw [h0] at hz hkp
  have hA := hk.2.2.2.2.2.2.2.2.1
  have hS' : va_S (fun q => s.heap.size ≤ q) s.heap T'.heap (locs ++ L') := ⟨Nat.le_trans hS.1 (by rw [e1]; exact hz), fun q h1 h2 => by rw [e1, hkp q (Nat.lt_of_lt_of_le h1 hS.1) (fun q' => h2 (hA q q'))]; exact hS.2.1 q h1 h2, fun q hq => by
      rcases List.mem_append.mp hq with h | h
      · exact hS.2.2 q h
      · exact hA _ (hL q h)⟩
  obtain ⟨t2, a1, b1⟩ := kk T'.heap (locs ++ L') ls (by rw [e1]; exact hb) (wl_D hD) hS' hl T' rfl X'
  exact ⟨t2, stp t2 a1, b1⟩
theorem l_call {σ : Type} {enc2 : σ → Option Value} {k cc i n N : Nat} {T : u_T} {y : MethodName} {C' : Cfg} {st1 : List Value} {r2 : σ} {ν2 : Mem} {Y : Option (σ × Mem)} (As : List Value) (hk : LK p s m meth c b L xs D tc ad) (hlay : lay k = (cc + 3, 0)) (hcl : cls[cc]? = some (y.cls, T, N)) (hM : Mv y C' n) (hL : Cond.methodLink RL i y ∈ TB) (hct : Ct y C' ad enc2 (.ref (ad k) :: As) μ Y) (hY : Y = some (r2, ν2)) (hn : As.length = n) (hdep : C'.2.2.2.2 ≤ 10 ∧ C'.2.2.1 ≤ 20) (hst : st1 = As.reverse ++ .ref (ad k) :: st) (hW : (st.map fun v => v.category).sum ≤ 8) (d : decode code pc = .ok (.invokevirtual i, 3)) (kk : LW p l e s m below meth c b D tc ad nC nS Q (pc + 3) Lc ((enc2 r2).toList ++ st) ν2) (hnC : nC ≤ 600000 ∧ nS ≤ 7302250) : LW p l e s m below meth c b D tc ad nC nS Q pc Lc st1 μ := by
  obtain ⟨⟨M1, M2, M3, M4⟩, M5, M6⟩ := hM
  intro H locs ls hP hD hS hl
  have hts := hk.2.2.2.2.1
  have hK := hk.2.2.2.2.2.2.2.1
  have he := wl_in (tc := tc) (ad := ad) (μ := μ) (lay_lt hlay (Or.inl (by omega))) (ce_obj hlay)
  have hroom : (rmd C'.2.2.2.2).frames + 1 ≤ room_1.frames ∧ 8 + (C'.2.2.1 + 11) + (rmd C'.2.2.2.2).locals ≤ room_1.locals := by
    show C'.2.2.2.2 + 1 ≤ 14 ∧ 8 + (C'.2.2.1 + 11) + 39 * C'.2.2.2.2 ≤ 546
    omega
  have hpre : PreV s H y.cls (ad k) (va_Pc (.ref (ad k) :: As) (fun U => va_P D cls (wl tc ad μ) U.heap ∧ va_D (A62 ad) (wl tc ad μ) ∧ Ka D tc U ∧ TX (A62 ad) U U.heap)) As := ⟨blind, va_recv hK.1 hP hcl he, fun U hU hW => ⟨rfl, by rw [hU]; exact hP, hD, hK.warm hW, (hk.2.2.2.2.2.2.2.2.2.2.2.2.go hS hU hW).narrow hk.2.2.2.2.2.2.2.2.1⟩⟩
  subst hst
  refine l_back hk hD hS hl (a := (Value.ref (ad k) :: As).toArray) (st2 := st) ?_ kk
  have hfix : CallFix p m c code 4 s #[Value.ref b] TB RL := ⟨hk.1, hk.2.1, hk.2.2.1, hk.2.2.2.1, hts⟩
  exact va_runV hfix (hct l D tc r2 ν2 hY) ⟨⟨rfl, rfl, hroom.1, hroom.2, pay_in hts (tb_good M1), List.mem_cons_self, hts _ M1, hts _ M2, M3, mo_len M4, hts _ hL⟩, hts _ M5, hts _ M6⟩ hpre rfl hn hl.1 rfl (lv_room hW) d ⟨hnC.1, hnC.2⟩
theorem l_same (hk : LK p s m meth c b L xs D tc ad) {x : Int32} {off : Int} (tgt : Nat) (d : decode code pc = .ok (.if_icmp .eq off, 3)) (ht : (pc : Int) + off = (tgt : Int)) (k : LW p l e s m below meth c b D tc ad nC nS Q tgt Lc st μ) : LW p l e s m below meth c b D tc ad nC nS Q pc Lc (.int x :: .int x :: st) μ := fun H locs ls hP hD hS hl => lv_icmp_eq hk.1 hk.2.1 d ht (fun _ => k H locs ls hP hD hS hl) (fun q => absurd rfl q)
theorem lg_same (x : Int64) : lg_cmp x x = 0 := by
  unfold lg_cmp
  rw [if_neg (fun h => Int64.lt_irrefl h), if_pos rfl]
theorem l_sameL (hk : LK p s m meth c b L xs D tc ad) {x : Int64} {off : Int} (tgt : Nat) (d : decode code pc = .ok (.lcmp, 1)) (d2 : decode code (pc + 1) = .ok (.ifCond .eq off, 3)) (ht : ((pc + 1 : Nat) : Int) + off = (tgt : Int)) (k : LW p l e s m below meth c b D tc ad nC nS Q tgt Lc st μ) : LW p l e s m below meth c b D tc ad nC nS Q pc Lc (.long x :: .long x :: st) μ := fun H locs ls hP hD hS hl => W.lcmp hk.1 hk.2.1 d (by
  rw [lg_same]
  exact lv_if_eq hk.1 hk.2.1 d2 ht (fun _ => k H locs ls hP hD hS hl) (fun q => absurd rfl q))
/-- a case of the law -/
def CaseOk (p : Program) (l : Launch) (e : Env) (s : State) (m : MethodId) (below : List Frame) (meth : Method) (c : Code) (b L : Nat) (D : va_G) (tc : Nat → ClassId) (ad : Nat → Nat) (nC nS : Nat) (Q : State → Prop) (at0 : Nat) : Prop :=
  ∀ (i : Nat) (z : Zs) (μ : Mem), i + 5 ≤ L → SOk z → CI z μ → MI z μ → (∀ z' ν, SOk z' → CI z' ν → MI z' ν → LW p l e s m below meth c b D tc ad nC nS Q 884 [(3, .int (nI i)), (0, .ref b), (1, .ref (ad 0)), (2, .ref (ad 47))] [] ν) → LW p l e s m below meth c b D tc ad nC nS Q at0 [(3, .int (nI i)), (0, .ref b), (1, .ref (ad 0)), (2, .ref (ad 47))] [] μ
end LAW
