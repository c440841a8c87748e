/-! ===== a line: class and model ===== -/
theorem nlt0 {a : Nat} (h : a < 2 ^ 31) : ¬ nI a < (0 : Int32) := nI_nlt (b := 0) (Nat.zero_le _) h
theorem nlt1 {a : Nat} (h : a < 2 ^ 31) (h1 : 1 ≤ a) : ¬ nI a < (1 : Int32) := nI_nlt (b := 1) h1 h
theorem le_0 {a : Nat} (h : a < 2 ^ 31) : (0 : Int32) ≤ nI a := nI_le (a := 0) (Nat.zero_le _) h
theorem le_8 {a : Nat} (h : a < 2 ^ 31) (h1 : 8 ≤ a) : (8 : Int32) ≤ nI a := nI_le (a := 8) h1 h
theorem le_9 {a : Nat} (h1 : a ≤ 9) : nI a ≤ (9 : Int32) := nI_le (b := 9) h1 (by decide)
section LN
variable {n : Nat} {μ : Mem} {T : Nat} {ch : Nat → Nat}
theorem p2_at (hk : Lok T ch) (hc : LC T ch μ) {i : Nat} (hi : i < T) : fX2_at n (nI i) μ = some (nI (ch i), μ) := by
  have h96 := hk.1
  unfold fX2_at
  rw [if_neg (nlt0 (by omega)), hc.1, if_neg (by rw [nI_leI (by omega) (by omega)]; omega), inb_nI (by omega) (by decide), gd_true, nI_clamp (by omega), hc.2 i hi]
theorem LC_fr {lo hi : Nat} {ν : Mem} (h : fr lo hi μ ν) (hh : hi ≤ 38 ∨ 40 ≤ lo) (hc : LC T ch μ) : LC T ch ν := ⟨by rw [(h 38 (by omega)).1]; exact hc.1, fun i hi => by rw [(h 39 (by omega)).1]; exact hc.2 i hi⟩
theorem p3_rename (hn : 200 ≤ n) (hk : Lok T ch) (hc : LC T ch μ) {k0 N w a S : Nat} (hk0 : k0 + 12 ≤ 38) (hN : N ≤ 8) (h3 : μ.1 k0 3 = nI N) (hw : w < N) (h1 : 1 ≤ S) (h9 : S ≤ 9) (hT : a + S ≤ T) (hL : ∀ j, j < S → 97 ≤ ch (a + j)) : Ok (nI 1) (fun ν => ν.1 (k0 + 2) w = nI S ∧ (∀ j, j < S → ν.1 (k0 + 3 + 1 + w) j = nI (ch (a + j) - 97)) ∧ (∀ j, j ≠ w → ν.1 (k0 + 2) j = μ.1 (k0 + 2) j) ∧ (∀ x, x ≠ k0 + 2 → x ≠ k0 + 3 + 1 + w → ν.1 x = μ.1 x) ∧ ν.2 = μ.2) (fX3_rename n k0 (nI w) (nI a) (nI (a + S)) μ) := by
  have h96 := hk.1
  unfold fX3_rename
  have hh : fX3_has n k0 (nI w) μ = some (nI 1, μ) := by
    unfold fX3_has
    rw [if_neg (nlt0 (by omega)), h3, if_neg (by rw [nI_leI (by omega) (by omega)]; omega)]
    rfl
  rw [bnd, pk_sub (by omega), Nat.add_sub_cancel_left, hh, bd_some, if_neg (by decide), if_neg (nlt1 (by omega) h1), if_pos (le_9 h9)]
  refine loop_inv (fun F j x => fX3_rename_L32 n k0 (nI w) (nI a) (nI S) F (nI j) x) (fun j x => (∀ l, l < j → x.1 (k0 + 3 + 1 + w) l = nI (ch (a + l) - 97)) ∧ (∀ y, y ≠ k0 + 3 + 1 + w → x.1 y = μ.1 y) ∧ x.2 = μ.2) _ S ?_ ?_ n 0 μ ⟨fun l hl => by omega, fun _ _ => rfl, rfl⟩ (by omega) (by omega)
  · intro F x ⟨g1, g2, g3⟩
    rw [fX3_rename_L32, if_pos (nI_le (Nat.le_refl _) (by omega)), inb_nI (by omega) (by decide), gd_true, nI_clamp (by omega), bnd]
    refine ⟨_, rfl, by rw [setI1_eq, upd_eq], fun j hj => by rw [setI1_ne (by omega)]; exact g1 j hj, fun j hj => by rw [setI1_eq, upd_ne hj, g2 _ (by omega)], fun y h1 h2 => by rw [setI1_ne h1]; exact g2 y h2, g3⟩
  · intro F j x hj ⟨g1, g2, g3⟩ ih
    have hcx : LC T ch x := ⟨by rw [g2 38 (by omega)]; exact hc.1, fun i hi => by rw [g2 39 (by omega)]; exact hc.2 i hi⟩
    rw [fX3_rename_L32, if_neg (by rw [nI_leI (by omega) (by omega)]; omega), inb_nI (by omega) (by decide), gd_true, nI_add, p2_at hk hcx (by omega), bd_some, inb_nI (by omega) (by decide), gd_true, nI_clamp (by omega), nI_clamp (by omega), show (97 : Int32) = nI 97 from rfl, pk_sub (hL j hj), bnd, bnd, nI_1]
    refine ih _ ⟨fun l hl => ?_, fun y hy => by rw [setI1_ne hy]; exact g2 y hy, g3⟩
    rw [setI1_eq, upd_get]
    by_cases e : l = j
    · rw [if_pos e, e]
    · rw [if_neg e]; exact g1 l (by omega)
theorem p3_obey (hn : 200 ≤ n) (hk : Lok T ch) {v : Vw} (hv : V9 v) (hc : CV 14 v μ) (hl : LC T ch μ) {p q : Nat} (hsp : SP T ch p q) : match ob ch v p q with | none => fX3_obey n 14 (nI p) (nI (q - 1)) μ = some (nI 0, μ) | some w => Ok (nI 1) (fun ν => CV 14 w ν ∧ fr 14 26 μ ν) (fX3_obey n 14 (nI p) (nI (q - 1)) μ) := by
  have h8 := hv.1.1
  have h96 := hk.1
  obtain ⟨s1, s2, s3, s4, s5⟩ := hsp
  have hcp := hk.2 p (by omega)
  have name : (ch p = 115 ∨ ch p = 110) → p + 5 ≤ q ∧ q ≤ p + 13 ∧ ∀ j, j < q - 1 - (p + 3) → 97 ≤ ch (p + 3 + j) ∧ ch (p + 3 + j) ≤ 122 := by
    intro hb
    rcases s5 with ⟨u1, -⟩ | ⟨-, -, u3, u4, u5⟩
    · omega
    · exact ⟨u3, u4, fun j hj => u5 (p + 3 + j) (by omega) (by omega)⟩
  have e110 : nI (ch p) = 110 ↔ ch p = 110 := nI_eq (b := 110) (by omega) (by decide)
  have e115 : nI (ch p) = 115 ↔ ch p = 115 := nI_eq (b := 115) (by omega) (by decide)
  have e114 : nI (ch p) = 114 ↔ ch p = 114 := nI_eq (b := 114) (by omega) (by decide)
  unfold fX3_obey ob
  rw [p2_at hk hl (by omega), bd_some]
  by_cases h1 : ch p = 115
  · obtain ⟨f1, f2, f3⟩ := name (Or.inl h1)
    have hkn : kn (ch (p + 1)) < 6 := by
      rcases s5 with ⟨u1, -⟩ | ⟨⟨-, u2⟩ | ⟨u1, -⟩, -⟩
      · omega
      · exact u2
      · omega
    have hc1 := hk.2 (p + 1) (by omega)
    rw [if_pos h1, if_pos (show nI (ch p) = 115 from e115.mpr h1)]
    unfold fX3_append
    rw [nI_1, p2_at hk hl (by omega), bd_some, p2_kindOf hc1, bd_some, hc.1]
    have hki : kni (ch (p + 1)) = nI (kn (ch (p + 1))) := by unfold kni; rw [if_pos hkn]
    by_cases hN : 8 ≤ vN v
    · rw [if_pos hN, if_pos (le_8 (by omega) hN), bd_some]
      rfl
    · rw [if_neg hN, if_neg (show ¬ (8 : Int32) ≤ nI (vN v) by rw [lit_8, nI_leI (by decide) (by omega)]; exact hN), hki, if_pos (le_0 (by omega)), inb_nI (by omega) (by decide), gd_true, nI_clamp (by omega), bnd, bnd, show (setI μ (14 + 1) (vN v) (nI (kn (ch (p + 1))))).1 14 3 = nI (vN v) from (by rw [setI1_ne (by decide)]; exact hc.1), nI_1]
      generalize hx : setI (setI μ (14 + 1) (vN v) (nI (kn (ch (p + 1))))) 14 3 (nI (vN v + 1)) = x
      have x3 : x.1 14 3 = nI (vN v + 1) := by rw [← hx, setI1_eq, upd_eq]
      have x4 : x.1 14 4 = nI (vr v) := by rw [← hx, setI1_eq, upd_ne (by decide), setI1_ne (by decide)]; exact hc.2.1
      have xk : x.1 15 = upd (μ.1 15) (vN v) (nI (kn (ch (p + 1)))) := by rw [← hx, setI1_ne (by decide), setI1_eq]
      have xo : ∀ y, y ≠ 14 → y ≠ 15 → x.1 y = μ.1 y := fun y h1 h2 => by rw [← hx, setI1_ne h1, setI1_ne h2]
      have x2 : x.2 = μ.2 := by rw [← hx]; rfl
      have hlx : LC T ch x := ⟨by rw [xo 38 (by decide) (by decide)]; exact hl.1, fun i hi => by rw [xo 39 (by decide) (by decide)]; exact hl.2 i hi⟩
      obtain ⟨s', q', g1, g2, g3, g4, g5⟩ := p3_rename (μ := x) hn hk hlx (k0 := 14) (N := vN v + 1) (w := vN v) (a := p + 3) (S := q - 1 - (p + 3)) (by decide) (by omega) x3 (by omega) (by omega) (by omega) (by omega) (fun j hj => (f3 j hj).1)
      rw [x3, show nI (vN v + 1) - 1 = nI (vN v) from pk_sub (b := 1) (by omega), lit_3, nI_add, show nI (q - 1) = nI (p + 3 + (q - 1 - (p + 3))) by congr 1; omega, q', bd_some, show isB (nI 1) = true from rfl, gd_true, bd_some, show isB (nI 1) = true from rfl, gd_true]
      refine ⟨s', rfl, ⟨by rw [g4 14 (by decide) (by omega)]; exact x3, by rw [g4 14 (by decide) (by omega)]; exact x4, fun j hj => ?_⟩, fun y hy => ⟨by rw [g4 y (by omega) (by omega), xo y (by omega) (by omega)], by rw [g5, x2]⟩⟩
      have hj : j < vN v + 1 := hj
      show s'.1 15 j = nI (if j = vN v then _ else kd v j) ∧ s'.1 16 j = nI (if j = vN v then _ else sz v j) ∧ ∀ l, l < (if j = vN v then _ else sz v j) → s'.1 (14 + 3 + 1 + j) l = nI (if j = vN v then _ else nm v j l)
      rw [g4 15 (by decide) (by omega), xk, upd_get]
      by_cases e : j = vN v
      · rw [if_pos e, if_pos e, if_pos e, e]
        refine ⟨rfl, g1, fun l hl => ?_⟩
        rw [if_pos rfl]
        exact g2 l hl
      · have hjj : j < vN v := by omega
        obtain ⟨r1, r2, r3⟩ := hc.2.2 j hjj
        rw [if_neg e, if_neg e, if_neg e, g3 j e, xo 16 (by decide) (by decide)]
        refine ⟨r1, r2, fun l hl => ?_⟩
        rw [if_neg e, g4 _ (by omega) (by omega), xo _ (by omega) (by omega)]
        exact r3 l hl
  · rw [if_neg h1, if_neg (show ¬ nI (ch p) = 115 from fun x => h1 (e115.mp x))]
    by_cases h2 : ch p = 110
    · obtain ⟨f1, f2, f3⟩ := name (Or.inr h2)
      have hd : 48 ≤ ch (p + 1) ∧ ch (p + 1) ≤ 57 := by
        rcases s5 with ⟨u1, -⟩ | ⟨⟨u1, -⟩ | ⟨-, u2⟩, -⟩
        · omega
        · omega
        · exact u2
      rw [if_pos h2, if_pos (show nI (ch p) = 110 from e110.mpr h2), nI_1, p2_at hk hl (by omega), bd_some, show (48 : Int32) = nI 48 from rfl, pk_sub hd.1, lit_3, nI_add]
      by_cases hw : ch (p + 1) - 48 < vN v
      · rw [if_pos hw]
        obtain ⟨s', q', g1, g2, g3, g4, g5⟩ := p3_rename (μ := μ) hn hk hl (k0 := 14) (N := vN v) (w := ch (p + 1) - 48) (a := p + 3) (S := q - 1 - (p + 3)) (by decide) (by omega) hc.1 hw (by omega) (by omega) (by omega) (fun j hj => (f3 j hj).1)
        rw [show nI (q - 1) = nI (p + 3 + (q - 1 - (p + 3))) by congr 1; omega, q', bd_some, show isB (nI 1) = true from rfl, gd_true]
        refine ⟨s', rfl, ⟨by rw [g4 14 (by decide) (by omega)]; exact hc.1, by rw [g4 14 (by decide) (by omega)]; exact hc.2.1, fun j hj => ?_⟩, fun y hy => ⟨g4 y (by omega) (by omega), by rw [g5]⟩⟩
        have hj : j < vN v := hj
        obtain ⟨r1, r2, r3⟩ := hc.2.2 j hj
        show s'.1 15 j = nI (kd v j) ∧ s'.1 16 j = nI (if j = ch (p + 1) - 48 then _ else sz v j) ∧ ∀ l, l < (if j = ch (p + 1) - 48 then _ else sz v j) → s'.1 (14 + 3 + 1 + j) l = nI (if j = ch (p + 1) - 48 then _ else nm v j l)
        rw [g4 15 (by decide) (by omega)]
        by_cases e : j = ch (p + 1) - 48
        · rw [if_pos e]
          refine ⟨r1, by rw [e]; exact g1, fun l hl => ?_⟩
          rw [if_pos e, e]
          exact g2 l hl
        · rw [if_neg e, g3 j e]
          refine ⟨r1, r2, fun l hl => ?_⟩
          rw [if_neg e, g4 _ (by omega) (by omega)]
          exact r3 l hl
      · rw [if_neg hw]
        unfold fX3_rename
        rw [bnd, p3_has_f hv.1 hc (by
          rintro ⟨j, hj, e⟩
          rw [nI_eq (by omega) (by omega)] at e
          omega), bd_some, if_pos (show nI 0 = 0 from rfl)]
        rfl
    · rw [if_neg h2, if_neg (fun x => h2 (e110.mp x))]
      have fin : ∀ r, CV 14 (rgv v r) (setI μ 14 4 (nI r)) ∧ fr 14 26 μ (setI μ 14 4 (nI r)) := fun r => ⟨⟨by rw [setI1_eq, upd_ne (by decide)]; exact hc.1, by rw [setI1_eq, upd_eq]; rfl, fun j hj => by rw [setI1_ne (by omega), setI1_ne (by omega), setI1_ne (by omega)]; exact hc.2.2 j hj⟩, fr_I (by decide) (by decide)⟩
      by_cases h3 : ch p = 114
      · rw [if_pos h3, if_pos (e114.mpr h3)]
        exact ⟨_, rfl, fin 1⟩
      · rw [if_neg h3, if_neg (fun x => h3 (e114.mp x))]
        exact ⟨_, rfl, fin 0⟩
theorem kn_59 : ∀ c, kn c < 6 → c ≠ 59 := by
  intro c h e
  rw [e] at h
  exact absurd h (by decide)
theorem SP_59 {p q i : Nat} (h : SP T ch p q) (h1 : p ≤ i) (h2 : i < q - 1) : ch i ≠ 59 := by
  obtain ⟨s1, s2, s3, s4, s5⟩ := h
  rcases s5 with ⟨u1, u2⟩ | ⟨u1, u2, u3, u4, u5⟩
  · have : i = p := by omega
    rw [this]; omega
  · by_cases a : i = p
    · rw [a]; omega
    by_cases b : i = p + 1
    · rw [b]
      rcases u1 with ⟨-, x⟩ | ⟨-, x, y⟩
      · exact kn_59 _ x
      · omega
    by_cases c : i = p + 2
    · rw [c]; omega
    · have := u5 i (by omega) h2
      omega
theorem p4_scan (hk : Lok T ch) {p q k : Nat} (hsp : SP T ch p q) {x : Mem} (hl : LC T ch x) : ∀ d i F, i + d = q - 1 → p ≤ i → fX4_readSigns_L36 n (F + d) (nI k) (nI p) (nI i) x = fX4_readSigns_L36 n F (nI k) (nI p) (nI (q - 1)) x
  | 0, i, F, h, _ => by rw [show i = q - 1 by omega]; rfl
  | d + 1, i, F, h, hp => by
    have h96 := hk.1
    have hq := hsp.2.1
    have hs := hsp.1
    have h59 := SP_59 hsp hp (by omega)
    rw [← Nat.add_assoc, fX4_readSigns_L36, hl.1, if_neg (by rw [nI_leI (by omega) (by omega)]; omega), p2_at hk hl (by omega), bd_some, if_neg (by
      rw [show (59 : Int32) = nI 59 from rfl, nI_eq (by have := hk.2 i (by omega); omega) (by decide)]; exact h59), bnd, nI_1]
    exact p4_scan hk hsp hl d (i + 1) F (by omega) (by omega)
theorem p4_reads (hn : 200 ≤ n) (hk : Lok T ch) {m : Nat} {st : Nat → Nat} (hst : STS T ch m st) (hl : LC T ch μ) : ∀ (d k : Nat) (v : Vw) (x : Mem) (F : Nat), k + d = m → T - st k + 2 ≤ F → V9 v → CV 14 v x → fr 14 26 μ x → match rnS ch st d k v with | .inl j => Ok (-2000 - nI (st j)) (fun ν => fr 14 26 μ ν) (fX4_readSigns_L36 n F (nI k) (nI (st k)) (nI (st k)) x) | .inr w => Ok (nI m) (fun ν => CV 2 w ν ∧ fr 2 26 μ ν) (fX4_readSigns_L36 n F (nI k) (nI (st k)) (nI (st k)) x)
  | 0, k, v, x, F, hd, hF, hv, hc, hf => by
    have h96 := hk.1
    have hlx := LC_fr hf (by decide) hl
    obtain ⟨F, rfl⟩ : ∃ G, F = G + 1 := ⟨F - 1, by omega⟩
    have hkm : k = m := by omega
    show Ok (nI m) _ _
    rw [hkm, hst.2.1, fX4_readSigns_L36, hlx.1, if_pos (nI_le (Nat.le_refl _) (by omega))]
    obtain ⟨s', q', g1, g2⟩ := p3_take (n := n) (by omega) hv.1 (k0 := 2) (k1 := 14) (by decide) hc
    rw [q', bd_some]
    exact ⟨s', rfl, g1, fr_tr (fr_wd hf (by decide) (by decide)) (fr_wd g2 (by decide) (by decide))⟩
  | d + 1, k, v, x, F, hd, hF, hv, hc, hf => by
    have h96 := hk.1
    have hlx := LC_fr hf (by decide) hl
    have hsp := hst.2.2.2.2 k (by omega)
    have hq := hsp.2.1
    have hs := hsp.1
    have ho := p3_obey (n := n) hn hk hv hc hlx hsp
    obtain ⟨F, rfl⟩ : ∃ G, F = G + 1 + (st (k + 1) - 1 - st k) := ⟨F - 1 - (st (k + 1) - 1 - st k), by omega⟩
    rw [p4_scan hk hsp hlx (st (k + 1) - 1 - st k) (st k) (F + 1) (by omega) (Nat.le_refl _), fX4_readSigns_L36, hlx.1, if_neg (by rw [nI_leI (by omega) (by omega)]; omega), p2_at hk hlx (by omega), bd_some, if_pos (by rw [hsp.2.2.1]; rfl), rnS]
    cases e : ob ch v (st k) (st (k + 1)) with
    | none =>
      rw [e] at ho
      have ho : fX3_obey n 14 _ _ _ = _ := ho
      show Ok _ _ _
      rw [ho, bd_some, if_pos (show nI 0 = 0 from rfl)]
      exact ⟨x, rfl, hf⟩
    | some w =>
      rw [e] at ho
      obtain ⟨s', q', g1, g2⟩ := ho
      have q' : fX3_obey n 14 _ _ _ = _ := q'
      rw [q', bd_some, if_neg (by decide), bnd, bnd, bnd, nI_1, nI_1, Nat.sub_add_cancel (by omega)]
      exact p4_reads hn hk hst hl d (k + 1) w s' F (by omega) (by omega) (ob_ok hv hsp e) g1 (fr_tr hf g2)
/-- what a line leaves -/
def FL (μ ν : Mem) : Prop := (∀ a, (a < 2 ∨ 26 ≤ a) → a ≠ 38 → ν.1 a = μ.1 a ∧ ν.2 a = μ.2 a) ∧ ν.1 38 1 = nI 0
theorem FL_of {ν : Mem} (h : fr 2 26 μ ν) : FL μ (setI ν 38 1 0) := ⟨fun a h1 h2 => ⟨by rw [setI1_ne h2]; exact (h a h1).1, (h a h1).2⟩, by rw [setI1_eq, upd_eq]; rfl⟩
theorem CV_38 {k : Nat} {v : Vw} {x : Int32} (hk : k + 12 ≤ 38) (hv : Vok v) (hc : CV k v μ) : CV k v (setI μ 38 1 x) := CV_fr hv (fr_I (lo := 38) (hi := 39) (by decide) (by decide)) (Or.inl hk) hc
theorem p4_lineB (hn : 200 ≤ n) (hk : Lok T ch) {v : Vw} (hv : V9 v) (hc : CV 2 v μ) (hl : LC T ch μ) {e : Nat} (he : e ≤ T) (ha : au T ch T 0 0 = some e) : Ok (-1000 - nI e) (fun ν => CV 2 v ν ∧ FL μ ν) (fX4_line n μ) := by
  have h96 := hk.1
  unfold fX4_line fX4_readSigns
  rw [p2_first hn hk hl, bd_some, ha, aui, if_neg (nlt0 (by omega)), bd_some, bnd]
  exact ⟨_, rfl, CV_38 (by decide) hv.1 hc, FL_of fr_rf⟩
theorem p4_lineG (hn : 200 ≤ n) (hk : Lok T ch) {v : Vw} (hv : V9 v) (hc : CV 2 v μ) (hl : LC T ch μ) (ha : au T ch T 0 0 = none) {m : Nat} {st : Nat → Nat} (hst : STS T ch m st) : match rnS ch st m 0 v with | .inl j => Ok (-2000 - nI (st j)) (fun ν => CV 2 v ν ∧ FL μ ν) (fX4_line n μ) | .inr w => Ok (nI m) (fun ν => CV 2 w ν ∧ V9 w ∧ FL μ ν) (fX4_line n μ) := by
  have h96 := hk.1
  unfold fX4_line fX4_readSigns
  rw [p2_first hn hk hl, bd_some, ha, aui, if_pos (by decide)]
  obtain ⟨x, q', g1, g2⟩ := p3_take (n := n) (by omega) hv.1 (k0 := 14) (k1 := 2) (by decide) hc
  rw [q', bd_some]
  have key := p4_reads (n := n) hn hk hst hl m 0 v x n (by omega) (by omega) hv g1 g2
  have hV : ∀ d k v w, k + d = m → V9 v → rnS ch st d k v = .inr w → V9 w := by
    intro d
    induction d with
    | zero => intro k v w _ hv h; rw [rnS] at h; cases h; exact hv
    | succ d ih =>
      intro k v w hd hv h
      rw [rnS] at h
      cases e : ob ch v (st k) (st (k + 1)) with
      | none => rw [e] at h; cases h
      | some u => rw [e] at h; exact ih (k + 1) u w (by omega) (ob_ok hv (hst.2.2.2.2 k (by omega)) e) h
  rw [hst.1] at key
  cases e : rnS ch st m 0 v with
  | inl j =>
    rw [e] at key
    obtain ⟨s', q2, r1⟩ := key
    have q2 : fX4_readSigns_L36 n n 0 0 0 x = _ := q2
    show Ok _ _ _
    rw [q2, bd_some, bnd]
    exact ⟨_, rfl, CV_38 (by decide) hv.1 (CV_fr hv.1 r1 (by decide) hc), FL_of (fr_wd r1 (by decide) (by decide))⟩
  | inr w =>
    rw [e] at key
    obtain ⟨s', q2, r1, r2⟩ := key
    have q2 : fX4_readSigns_L36 n n 0 0 0 x = _ := q2
    have hw := hV m 0 v w (by omega) hv e
    show Ok _ _ _
    rw [q2, bd_some, bnd]
    exact ⟨_, rfl, CV_38 (by decide) hw.1 r1, hw, FL_of r2⟩
/-- what the model's line leaves -/
def MFL (μ ν : Mem) : Prop := (∀ a, a ≠ 47 → a ≠ 49 → a ≠ 50 → a ≠ 51 → a ≠ 58 → (a < 53 ∨ 57 < a) → ν.1 a = μ.1 a) ∧ ν.2 = μ.2 ∧ (∀ f, f ≠ 4 → f ≠ 5 → f ≠ 12 → f ≠ 13 → f ≠ 14 → f ≠ 17 → f ≠ 18 → ν.1 47 f = μ.1 47 f) ∧ ν.1 47 12 = nI 0 ∧ (∀ u, Vok u → KV 0 u μ → KV 0 u ν)
theorem KV_58 {w : Nat} {u : Vw} {ν : Mem} (h : ∀ j, ν.1 58 j = μ.1 58 j) (hk : KV w u μ) : KV w u ν := ⟨by rw [h]; exact hk.1, by rw [h]; exact hk.2.1, fun i hi => by rw [h, h]; exact ⟨(hk.2.2 i hi).1, (hk.2.2 i hi).2.1, fun j hj => by rw [h]; exact (hk.2.2 i hi).2.2 j hj⟩⟩
theorem p5_obeys (hn : 200 ≤ n) (hk : Lok T ch) {m : Nat} {st : Nat → Nat} (hst : STS T ch m st) {v : Vw} (hv : V9 v) (hkv : KV 1 v μ) (ht : ∀ i, i < T → μ.1 52 i = nI (ch i)) (h14 : μ.1 47 14 = nI m) (htb : ∀ j, j < m → TB1 ch (st j) (st (j + 1)) j μ) : ∀ (d k : Nat) (w : Vw) (x : Mem) (F : Nat), k + d = m → d + 2 ≤ F → V9 w → MV w x → CF μ x → match rnS ch st d k w with | .inl j => Ok (-2000 - nI (st j)) (fun ν => MV v ν ∧ (∀ j, ν.1 58 j = μ.1 58 j) ∧ PF μ ν) (fX5_line_L86 n F (nI k) x) | .inr w' => Ok (nI m) (fun ν => MV w' ν ∧ CF μ ν) (fX5_line_L86 n F (nI k) x)
  | 0, k, w, x, F, hd, hF, hw, hc, hf => by
    have h96 := hk.1
    have h2m := hst.2.2.2.1
    obtain ⟨F, rfl⟩ : ∃ G, F = G + 1 := ⟨F - 1, by omega⟩
    have hkm : k = m := by omega
    show Ok (nI m) _ _
    rw [hkm, fX5_line_L86, hf.2.2 14 (by decide) (by decide), h14, if_pos (nI_le (Nat.le_refl _) (by omega))]
    exact ⟨x, rfl, hc, hf⟩
  | d + 1, k, w, x, F, hd, hF, hw, hc, hf => by
    have h96 := hk.1
    have h2m := hst.2.2.2.1
    have hsp := hst.2.2.2.2 k (by omega)
    obtain ⟨F, rfl⟩ : ∃ G, F = G + 1 := ⟨F - 1, by omega⟩
    have htx : TB1 ch (st k) (st (k + 1)) k x := by
      have := htb k (by omega)
      unfold TB1 at this ⊢
      rw [hf.1 53 (by decide) (by decide) (by decide) (by decide), hf.1 54 (by decide) (by decide) (by decide) (by decide), hf.1 55 (by decide) (by decide) (by decide) (by decide), hf.1 56 (by decide) (by decide) (by decide) (by decide), hf.1 57 (by decide) (by decide) (by decide) (by decide)]
      exact this
    have ho := p5_comes (n := n) hn hk hw hc (fun i hi => by rw [hf.1 52 (by decide) (by decide) (by decide) (by decide)]; exact ht i hi) (show k < 50 by omega) hsp htx
    rw [fX5_line_L86, hf.2.2 14 (by decide) (by decide), h14, if_neg (by rw [nI_leI (by omega) (by omega)]; omega), rnS]
    cases e : ob ch w (st k) (st (k + 1)) with
    | none =>
      rw [e] at ho
      have ho : fX5_comes n _ _ = _ := ho
      obtain ⟨s', q', g1, g2, g3⟩ := p5_load (n := n) hn hv.1 (w := 1) (by decide) (KV_58 (ν := x) (fun j => by rw [hf.1 58 (by decide) (by decide) (by decide) (by decide)]) hkv)
      have q' : fX5_passesAll n 1 0 x = _ := q'
      show Ok _ _ _
      rw [ho, bd_some, if_pos (show nI 0 = 0 from rfl), q', bd_some, inb_nI (by omega) (by decide), gd_true, nI_clamp (by omega), g3.1 54 (by decide) (by decide) (by decide) (by decide) (by decide), htx.2.1]
      exact ⟨s', rfl, g1, fun j => by rw [g2, hf.1 58 (by decide) (by decide) (by decide) (by decide)], PF_tr (CF_PF hf) g3⟩
    | some w' =>
      rw [e] at ho
      obtain ⟨s', q', g1, g2⟩ := ho
      have q' : fX5_comes n _ _ = _ := q'
      rw [q', bd_some, if_neg (by decide), bnd, nI_1]
      exact p5_obeys hn hk hst hv hkv ht h14 htb d (k + 1) w' s' F (by omega) (by omega) (ob_ok hw hsp e) g1 (CF_tr hf g2)
theorem p5_lineT (hn : 200 ≤ n) (hk : Lok T ch) {v : Vw} (hv : V9 v) (hc : MV v μ) (hl : LM T ch μ) : (∃ e, e ≤ T ∧ au T ch T 0 0 = some e ∧ Ok (-1000 - nI e) (fun ν => MV v ν ∧ MFL μ ν) (fX5_line n μ)) ∨ (au T ch T 0 0 = none ∧ ∃ m st, STS T ch m st ∧ match rnS ch st m 0 v with | .inl j => Ok (-2000 - nI (st j)) (fun ν => MV v ν ∧ MFL μ ν) (fX5_line n μ) | .inr w => Ok (nI m) (fun ν => MV w ν ∧ MFL μ ν) (fX5_line n μ)) := by
  have h96 := hk.1
  unfold fX5_line
  rw [bnd, bnd]
  have l0 : LF μ (setI (setI μ 47 13 0) 47 14 0) := LF_tr LF_13 LF_14
  refine p5_parse (μ := μ) hn hk (Rr := fun X => (∃ e, e ≤ T ∧ au T ch T 0 0 = some e ∧ Ok (-1000 - nI e) (fun ν => MV v ν ∧ MFL μ ν) X) ∨ (au T ch T 0 0 = none ∧ ∃ m st, STS T ch m st ∧ match rnS ch st m 0 v with | .inl j => Ok (-2000 - nI (st j)) (fun ν => MV v ν ∧ MFL μ ν) X | .inr w => Ok (nI m) (fun ν => MV w ν ∧ MFL μ ν) X)) ?_ ?_ hl n 0 0 (fun _ => 0) _ (by omega) (Nat.zero_le _) (by decide) rfl rfl (fun j hj => by omega) rfl l0 (by rw [setI1_eq, upd_ne (by decide), setI1_eq, upd_eq]; rfl) (by rw [setI1_eq, upd_eq]; rfl) (fun j hj => by omega)
  · intro m st ν hst ha hf h14 htb
    refine Or.inr ⟨ha, m, st, hst, ?_⟩
    have hcv : MV v (setI ν 47 12 0) := by
      obtain ⟨a, b, c⟩ := hc
      refine ⟨by rw [setI1_eq, upd_ne (by decide), hf.2.2 4 (by decide) (by decide)]; exact a, by rw [setI1_eq, upd_ne (by decide), hf.2.2 5 (by decide) (by decide)]; exact b, fun i hi => ?_⟩
      rw [setI1_ne (by decide), setI1_ne (by decide), setI1_ne (by decide), hf.1 51 (by decide) (by decide), hf.1 50 (by decide) (by decide), hf.1 49 (by decide) (by decide)]
      exact c i hi
    obtain ⟨x, q', g1, g2, g3, g4⟩ := p5_save (n := n) hn hv.1 hcv (w := 1) (by decide)
    have q' : fX5_passesAll n 1 1 _ = _ := q'
    have mk : ∀ ξ, PF x ξ → (∀ j, ξ.1 58 j = x.1 58 j) → MFL μ ξ := by
      intro ξ h1 h2
      refine ⟨fun a x1 x2 x3 x4 x5 x6 => ?_, ?_, fun f x1 x2 x3 x4 x5 x6 x7 => ?_, ?_, fun u hu hku => KV_58 h2 (g3 u ?_ hu)⟩
      · rw [h1.1 a x1 x2 x3 x4 x5, g4.1 a x1 x2 x3 x4 x5, setI1_ne x1, hf.1 a x1 x6]
      · rw [h1.2.1, g4.2.1]; exact hf.2.1
      · rw [h1.2.2 f x1 x2 x6 x7, g4.2.2 f x1 x2 x6 x7, setI1_eq, upd_ne x3, hf.2.2 f x4 x5]
      · rw [h1.2.2 12 (by decide) (by decide) (by decide) (by decide), g4.2.2 12 (by decide) (by decide) (by decide) (by decide), setI1_eq, upd_eq]; rfl
      · exact KV_58 (μ := μ) (fun j => by rw [setI1_ne (by decide), hf.1 58 (by decide) (by decide)]) hku
    have key := p5_obeys (μ := x) hn hk hst hv g2 (fun i hi => by rw [g4.1 52 (by decide) (by decide) (by decide) (by decide) (by decide), setI1_ne (by decide), hf.1 52 (by decide) (by decide)]; exact hl.2 i hi) (by rw [g4.2.2 14 (by decide) (by decide) (by decide) (by decide), setI1_eq, upd_ne (by decide)]; exact h14) (fun j hj => by
      have := htb j hj
      unfold TB1 at this ⊢
      have hset : ∀ a, 53 ≤ a → a ≤ 57 → x.1 a = ν.1 a := fun a h1 h2 => by rw [g4.1 a (by omega) (by omega) (by omega) (by omega) (by omega), setI1_ne (by omega)]
      rw [hset 53 (by decide) (by decide), hset 54 (by decide) (by decide), hset 55 (by decide) (by decide), hset 56 (by decide) (by decide), hset 57 (by decide) (by decide)]
      exact this) m 0 v x n (by omega) (by have := hst.2.2.2.1; omega) hv g1 CF_rf
    rw [bnd, if_neg (by decide), q', bd_some]
    cases e : rnS ch st m 0 v with
    | inl j =>
      rw [e] at key
      obtain ⟨ξ, q2, r1, r2, r3⟩ := key
      exact ⟨ξ, q2, r1, mk ξ r3 r2⟩
    | inr w =>
      rw [e] at key
      obtain ⟨ξ, q2, r1, r2⟩ := key
      exact ⟨ξ, q2, r1, mk ξ (CF_PF r2) (fun j => by rw [r2.1 58 (by decide) (by decide) (by decide) (by decide)])⟩
  · intro e ν he ha hf h13
    refine Or.inl ⟨e, he, ha, ?_⟩
    rw [bnd, if_pos (show nI 0 = 0 from rfl), setI1_eq, upd_ne (by decide), h13]
    refine ⟨_, rfl, ?_, ⟨fun a x1 x2 x3 x4 x5 x6 => by rw [setI1_ne x1, hf.1 a x1 x6], hf.2.1, fun f x1 x2 x3 x4 x5 x6 x7 => by rw [setI1_eq, upd_ne x3, hf.2.2 f x4 x5], by rw [setI1_eq, upd_eq]; rfl, fun u hu hku => KV_58 (μ := μ) (fun j => by rw [setI1_ne (by decide), hf.1 58 (by decide) (by decide)]) hku⟩⟩
    obtain ⟨a, b, c⟩ := hc
    refine ⟨by rw [setI1_eq, upd_ne (by decide), hf.2.2 4 (by decide) (by decide)]; exact a, by rw [setI1_eq, upd_ne (by decide), hf.2.2 5 (by decide) (by decide)]; exact b, fun i hi => ?_⟩
    rw [setI1_ne (by decide), setI1_ne (by decide), setI1_ne (by decide), hf.1 51 (by decide) (by decide), hf.1 50 (by decide) (by decide), hf.1 49 (by decide) (by decide)]
    exact c i hi
end LN
