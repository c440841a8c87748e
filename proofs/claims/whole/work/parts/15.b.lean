/-! ===== each call: class and model alike ===== -/
section TW
variable {n : Nat} {s : Zs} {μ μ' : Mem}
theorem tw_letter (hs : SOk s) (hc : CI s μ) (hm : MI s μ') (a : Int32) : D μ μ' (fX4_letter n a μ) (fX5_letter n a μ') := by
  have h96 := hs.2.1.1
  have hl := hc.2.1
  have hl' := hm.2.1
  unfold fX4_letter fX5_letter fX5_bound
  simp only [bnd]
  rcases tri a 0 255 0 255 rfl rfl (by decide) (by decide) (by decide) with ⟨h1, h2⟩ | ⟨j, h1, h2, e, h3, h4, h5, h6⟩ | ⟨j, h1, h2, e, h3, h4, h5, h6⟩
  · rw [if_neg h2, if_neg h2, bd_some, if_neg (by decide), if_neg (by decide)]
    exact D_ref hs hc hm (c := 4) (by decide)
  · rw [if_pos h3, if_neg h6, if_pos h3, if_pos h4, bd_some, if_pos rfl, hl'.1, hl.1]
    by_cases hT : (zT s) < 96
    · rw [if_pos (show nI (zT s) < 96 from nI_lt (b := 96) hT (by decide)), if_neg (show ¬ nI (zT s) = 96 by rw [lit_96, nI_eq (by omega) (by decide)]; omega), if_pos rfl, inb_nI hT (by decide), gd_true, nI_clamp (by omega)]
      unfold fX2_append
      simp only [bnd]
      rw [hl.1, if_pos (show nI (zT s) < 96 from nI_lt (b := 96) hT (by decide)), inb_nI hT (by decide), gd_true, nI_clamp (by omega), bd_some, show (setI μ 39 (zT s) a).1 38 1 = nI (zT s) from (by rw [setI1_ne (by decide)]; exact hl.1), show (setI μ' 52 (zT s) a).1 47 12 = nI (zT s) from (by rw [setI1_ne (by decide)]; exact hl'.1), nI_1, setI1_eq, upd_eq, setI1_eq, upd_eq]
      refine ⟨_, (zv s, zT s + 1, fun i => if i = zT s then j else zc s i, zR s, zg s, zf s, zk s), ⟨hs.1, ⟨by show zT s + 1 ≤ 96; omega, fun i hi => ?_⟩, hs.2.2⟩, ⟨_, rfl, ⟨?_, ⟨?_, fun i hi => ?_⟩, ⟨?_, fun i hi => ?_⟩, fun i hi => ?_, ?_⟩, fr_tr (fr_I (by decide) (by decide)) (fr_I (by decide) (by decide))⟩, ⟨_, rfl, ⟨⟨?_, ?_, fun i hi => ?_⟩, ⟨?_, fun i hi => ?_⟩, ⟨?_, fun i hi => ?_⟩, fun i hi => ?_, ?_⟩, fr_tr (fr_I (by decide) (by decide)) (fr_I (by decide) (by decide))⟩⟩
      · have hi : i < zT s + 1 := hi
        show (if i = zT s then j else zc s i) < 256
        by_cases e : i = zT s
        · rw [if_pos e]; omega
        · rw [if_neg e]; exact hs.2.1.2 i (by omega)
      · exact CV_eq hs.1.1.1 (fun x x1 x2 => by rw [setI1_ne (by omega), setI1_ne (by omega)]) hc.1
      · rw [setI1_eq, upd_eq]
      · have hi : i < zT s + 1 := hi
        show (setI (setI μ 39 (zT s) a) 38 1 _).1 39 i = nI (if i = zT s then j else zc s i)
        rw [setI1_ne (by decide), setI1_eq, upd_get]
        by_cases e2 : i = zT s
        · rw [if_pos e2, if_pos e2, e]
        · rw [if_neg e2, if_neg e2]; exact hl.2 i (by omega)
      · rw [setI1_ne (by decide), setI1_ne (by decide)]; exact hc.2.2.1.1
      · rw [setI1_ne (by decide), setI1_ne (by decide)]; exact hc.2.2.1.2 i hi
      · rw [setI1_ne (by decide), setI1_ne (by decide)]; exact hc.2.2.2.1 i hi
      · exact CK_eq hs.2.2.2 (fun x hx => by rw [setI1_ne (by omega), setI1_ne (by omega)]) hc.2.2.2.2
      · rw [setI1_eq, upd_ne (by decide), setI1_ne (by decide)]; exact hm.1.1
      · rw [setI1_eq, upd_ne (by decide), setI1_ne (by decide)]; exact hm.1.2.1
      · rw [setI1_ne (by decide), setI1_ne (by decide), setI1_ne (by decide), setI1_ne (by decide), setI1_ne (by decide), setI1_ne (by decide)]; exact hm.1.2.2 i hi
      · rw [setI1_eq, upd_eq]
      · have hi : i < zT s + 1 := hi
        show (setI (setI μ' 52 (zT s) a) 47 12 _).1 52 i = nI (if i = zT s then j else zc s i)
        rw [setI1_ne (by decide), setI1_eq, upd_get]
        by_cases e2 : i = zT s
        · rw [if_pos e2, if_pos e2, e]
        · rw [if_neg e2, if_neg e2]; exact hl'.2 i (by omega)
      · rw [setI1_eq, upd_ne (by decide), setI1_ne (by decide)]; exact hm.2.2.1.1
      · rw [setI1_ne (by decide), setI1_ne (by decide)]; exact hm.2.2.1.2 i hi
      · rw [setI1_ne (by decide), setI1_ne (by decide)]; exact hm.2.2.2.1 i hi
      · have hk := hm.2.2.2.2
        show MK (zk s) _
        cases e' : zk s with
        | none =>
          rw [e'] at hk
          have hk : μ'.1 47 16 = nI 0 := hk
          show (setI (setI μ' 52 (zT s) a) 47 12 _).1 47 16 = nI 0
          rw [setI1_eq, upd_ne (by decide), setI1_ne (by decide)]; exact hk
        | some u =>
          rw [e'] at hk
          exact ⟨by rw [setI1_eq, upd_ne (by decide), setI1_ne (by decide)]; exact hk.1, KV_58 (fun x => by rw [setI1_ne (by decide), setI1_ne (by decide)]) hk.2⟩
    · rw [if_neg (show ¬ nI (zT s) < 96 from nI_nlt (b := 96) (by omega) (by omega)), if_pos (show nI (zT s) = 96 by rw [show zT s = 96 by omega]; rfl), if_neg (by decide)]
      exact D_ref hs hc hm (c := 6) (by decide)
  · rw [if_pos h3, if_pos h6, if_pos h3, if_neg h4, bd_some, if_neg (by decide), if_neg (by decide)]
    exact D_ref hs hc hm (c := 6) (by decide)
theorem tw_line (hn : 400 ≤ n) (hs : SOk s) (hc : CI s μ) (hm : MI s μ') : D μ μ' (fX4_line n μ) (fX5_line n μ') := by
  have fin : ∀ (w : Vw) (r : Int32), V9 w → Ok r (fun ν => CV 2 w ν ∧ FL μ ν) (fX4_line n μ) → Ok r (fun ν => MV w ν ∧ MFL μ' ν) (fX5_line n μ') → D μ μ' (fX4_line n μ) (fX5_line n μ') := by
    intro w r hw ⟨ν, q1, g1, g2, g3⟩ ⟨ξ, q2, k1, k2, k3, k4, k5, k6⟩
    have hkk := hm.2.2.2.2
    refine ⟨r, (w, 0, zc s, zR s, zg s, zf s, zk s), ⟨hw, ⟨Nat.zero_le _, fun i hi => absurd hi (Nat.not_lt_zero _)⟩, hs.2.2⟩, ⟨ν, q1, ⟨g1, ⟨g3, fun i hi => absurd hi (Nat.not_lt_zero _)⟩, ⟨?_, fun i hi => ?_⟩, fun i hi => ?_, ?_⟩, fun a ha => g2 a (by omega) (by omega)⟩, ⟨ξ, q2, ⟨k1, ⟨k5, fun i hi => absurd hi (Nat.not_lt_zero _)⟩, ⟨?_, fun i hi => ?_⟩, fun i hi => ?_, ?_⟩, fun a ha => ⟨k2 a (by omega) (by omega) (by omega) (by omega) (by omega) (by omega), by rw [k3]⟩⟩⟩
    · rw [(g2 40 (by decide) (by decide)).1]; exact hc.2.2.1.1
    · rw [(g2 41 (by decide) (by decide)).1]; exact hc.2.2.1.2 i hi
    · rw [(g2 1 (by decide) (by decide)).1]; exact hc.2.2.2.1 i hi
    · exact CK_eq hs.2.2.2 (fun x hx => (g2 x (by omega) (by omega)).1) hc.2.2.2.2
    · rw [k4 22 (by decide) (by decide) (by decide) (by decide) (by decide) (by decide) (by decide)]; exact hm.2.2.1.1
    · rw [k2 61 (by decide) (by decide) (by decide) (by decide) (by decide) (by decide)]; exact hm.2.2.1.2 i hi
    · rw [k2 48 (by decide) (by decide) (by decide) (by decide) (by decide) (by decide)]; exact hm.2.2.2.1 i hi
    · have h16 := k4 16 (by decide) (by decide) (by decide) (by decide) (by decide) (by decide) (by decide)
      have hu := hs.2.2.2
      show MK (zk s) ξ
      cases e' : zk s with
      | none =>
        rw [e'] at hkk
        have hkk : μ'.1 47 16 = nI 0 := hkk
        show ξ.1 47 16 = nI 0
        rw [h16]; exact hkk
      | some u =>
        rw [e'] at hkk
        exact ⟨by rw [h16]; exact hkk.1, k6 u (hu u e').1 hkk.2⟩
  rcases p5_lineT (n := n) (by omega) hs.2.1 hs.1 hm.1 hm.2.1 with ⟨e, he, ha, hX⟩ | ⟨ha, m, st, hst, hX⟩
  · exact fin (zv s) _ hs.1 (p4_lineB (by omega) hs.2.1 hs.1 hc.1 hc.2.1 he ha) hX
  · have hY := p4_lineG (n := n) (by omega) hs.2.1 hs.1 hc.1 hc.2.1 ha hst
    cases e : rnS (zc s) st m 0 (zv s) with
    | inl j =>
      rw [e] at hX hY
      exact fin (zv s) _ hs.1 hY hX
    | inr w =>
      rw [e] at hX hY
      obtain ⟨ν, q1, g1, g2, g3⟩ := hY
      exact fin w _ g2 ⟨ν, q1, g1, g3⟩ hX
theorem tw_station (hn : 400 ≤ n) (hs : SOk s) (hc : CI s μ) (hm : MI s μ') (a b : Int32) : D μ μ' (fX4_station n a b μ) (fX5_station n a b μ') := by
  have h8 := hs.1.1.1
  unfold fX4_station fX5_station
  rcases stO (n := n) hs a with ⟨i, hi, e, g1, g2⟩ | ⟨g1, g2⟩
  · subst e
    rw [g1 2 μ hc.1, g2 μ' hm.1, bd_some, bd_some, if_neg z1, if_neg z1, bnd, bnd]
    obtain ⟨r1, r2, r3⟩ := hc.1.2.2 i hi
    obtain ⟨t1, t2, t3⟩ := hm.1.2.2 i hi
    by_cases e0 : b = 0
    · rw [if_pos e0, if_pos e0, inb_nI (by omega) (by decide), inb_nI (by omega) (by decide), gd_true, gd_true, nI_clamp (by omega), r1, t1]
      exact D_pure hs hc hm _
    rw [if_neg e0, if_neg e0]
    by_cases e1 : b = 1
    · rw [if_pos e1, if_pos e1, inb_nI (by omega) (by decide), inb_nI (by omega) (by decide), gd_true, gd_true, nI_clamp (by omega), r2, t2]
      exact D_pure hs hc hm _
    rw [if_neg e1, if_neg e1]
    by_cases e2 : b = 2
    · rw [if_pos e2, if_pos e2, p3_rides (by omega) hs.1.1 hc.1 hi, p5_rides (by omega) hs.1.1 hm.1 hi, bd_some, bd_some]
      exact D_pure hs hc hm _
    rw [if_neg e2, if_neg e2]
    by_cases e3 : b = 3
    · rw [if_pos e3, if_pos e3, p3_stops (by omega) hs.1.1 hc.1 hi, p5_stops (by omega) hs.1.1 hm.1 hi, bd_some, bd_some]
      exact D_pure hs hc hm _
    rw [if_neg e3, if_neg e3]
    exact D_ref hs hc hm (c := 2) (by decide)
  · rw [g1 2 μ hc.1, g2 μ' hm.1, bd_some, bd_some, if_pos z0, if_pos z0]
    exact D_ref hs hc hm (c := 1) (by decide)
theorem tw_name (hn : 400 ≤ n) (hs : SOk s) (hc : CI s μ) (hm : MI s μ') (a b : Int32) : D μ μ' (fX4_name n a b μ) (fX5_name n a b μ') := by
  have h8 := hs.1.1.1
  unfold fX4_name fX5_name
  rcases stO (n := n) hs a with ⟨i, hi, e, g1, g2⟩ | ⟨g1, g2⟩
  · subst e
    rw [g1 2 μ hc.1, g2 μ' hm.1, bd_some, bd_some, if_neg z1, if_neg z1]
    obtain ⟨r1, r2, r3⟩ := hc.1.2.2 i hi
    obtain ⟨t1, t2, t3⟩ := hm.1.2.2 i hi
    have hz := hs.1.1.2.2 i hi
    unfold fX5_isIn
    rw [inb_nI (by omega) (by decide), inb_nI (by omega) (by decide), gd_true, gd_true, nI_clamp (by omega), r2, t2, lit_1, pk_sub hz.2.1]
    rcases tri b 0 (nI (sz (zv s) i - 1)) 0 (sz (zv s) i - 1) rfl rfl (by omega) (by omega) (by decide) with ⟨h1, h2⟩ | ⟨j, h1, h2, e, h3, h4, h5, h6⟩ | ⟨j, h1, h2, e, h3, h4, h5, h6⟩
    · rw [if_pos h1, if_pos h1, bd_some, if_pos rfl]
      exact D_ref hs hc hm (c := 1) (by decide)
    · subst e
      rw [if_neg h5, if_neg h5, if_neg h6, bd_some, if_neg z1, if_pos (nI_lt (by omega) (by omega)), gd_true, inb_nI (by omega) (by decide), gd_true, nI_clamp (by omega), lit_10, pk_mul, nI_add, inb_nI (by omega) (by decide), gd_true, nI_clamp (by omega), t3 j (by omega), show 5 + 1 + i = 2 + 3 + 1 + i by omega, r3 j (by omega)]
      exact D_pure hs hc hm _
    · subst e
      rw [if_neg h5, if_neg h5, if_pos h6, bd_some, if_pos rfl, if_neg (nI_nlt (by omega) h2)]
      exact D_ref hs hc hm (c := 1) (by decide)
  · rw [g1 2 μ hc.1, g2 μ' hm.1, bd_some, bd_some, if_pos z0, if_pos z0]
    exact D_ref hs hc hm (c := 1) (by decide)
def kdv (v : Vw) (i K : Nat) : Vw := (vN v, vr v, fun j => if j = i then K else kd v j, v.2.2.2.1, v.2.2.2.2)
theorem D_view {ρ : Type} {w : Vw} {X Y : Option (ρ × Mem)} (hs : SOk s) (hc : CI s μ) (hm : MI s μ') (hw : V9 w) (r : ρ) (h1 : Ok r (fun ν => CV 2 w ν ∧ ∀ a, (a < 2 ∨ 26 ≤ a) → ν.1 a = μ.1 a ∧ ν.2 a = μ.2 a) X) (h2 : Ok r (fun ν => MV w ν ∧ fM μ' ν) Y) : D μ μ' X Y := by
  obtain ⟨ν, q1, g1, g2⟩ := h1
  obtain ⟨ξ, q2, g3, g4⟩ := h2
  refine ⟨r, (w, zT s, zc s, zR s, zg s, zf s, zk s), ⟨hw, hs.2⟩, ⟨ν, q1, ⟨g1, ⟨?_, fun i hi => ?_⟩, ⟨?_, fun i hi => ?_⟩, fun i hi => ?_, CK_eq hs.2.2.2 (fun x hx => (g2 x (by omega)).1) hc.2.2.2.2⟩, fun a ha => g2 a (by omega)⟩, ⟨ξ, q2, ?_, fM_fr g4⟩⟩
  · rw [(g2 38 (by decide)).1]; exact hc.2.1.1
  · rw [(g2 39 (by decide)).1]; exact hc.2.1.2 i hi
  · rw [(g2 40 (by decide)).1]; exact hc.2.2.1.1
  · rw [(g2 41 (by decide)).1]; exact hc.2.2.1.2 i hi
  · rw [(g2 1 (by decide)).1]; exact hc.2.2.2.1 i hi
  · obtain ⟨a, b, c, d, e⟩ := hm
    refine ⟨g3, ⟨by rw [g4.2.2.1 12 (by decide) (by decide) (by decide) (by decide) (by decide) (by decide)]; exact b.1, fun i hi => by rw [g4.1 52 (by decide)]; exact b.2 i hi⟩, ⟨by rw [g4.2.2.1 22 (by decide) (by decide) (by decide) (by decide) (by decide) (by decide)]; exact c.1, fun i hi => by rw [g4.1 61 (by decide)]; exact c.2 i hi⟩, fun i hi => by rw [g4.1 48 (by decide)]; exact d i hi, ?_⟩
    have h16 := g4.2.2.1 16 (by decide) (by decide) (by decide) (by decide) (by decide) (by decide)
    have hu := hs.2.2.2
    show MK (zk s) ξ
    cases e' : zk s with
    | none =>
      rw [e'] at e
      have e : μ'.1 47 16 = nI 0 := e
      show ξ.1 47 16 = nI 0
      rw [h16]; exact e
    | some u =>
      rw [e'] at e
      obtain ⟨x, y⟩ := e
      exact ⟨by rw [h16]; exact x, g4.2.2.2 u (hu u e').1 y⟩
theorem tw_kind (hs : SOk s) (hc : CI s μ) (hm : MI s μ') (a b : Int32) : D μ μ' (fX4_kind n a b μ) (fX5_kind n a b μ') := by
  have h8 := hs.1.1.1
  unfold fX4_kind fX5_kind
  simp only [bnd]
  rcases stO (n := n) hs a with ⟨i, hi, e, g1, g2⟩ | ⟨g1, g2⟩
  · subst e
    rw [g1 2 μ hc.1, g2 μ' hm.1, bd_some, bd_some, if_neg z1, if_neg z1]
    unfold fX5_isIn
    rcases tri b 0 5 0 5 rfl rfl (by decide) (by decide) (by decide) with ⟨h1, h2⟩ | ⟨j, h1, h2, e, h3, h4, h5, h6⟩ | ⟨j, h1, h2, e, h3, h4, h5, h6⟩
    · rw [if_pos h1, if_pos h1, bd_some, if_pos rfl]
      exact D_ref hs hc hm (c := 2) (by decide)
    · rw [if_neg h5, if_neg h5, if_neg h6, if_pos h4, bd_some, if_neg (by decide), inb_nI (by omega) (by decide), inb_nI (by omega) (by decide), gd_true, gd_true, nI_clamp (by omega), (hc.1.2.2 i hi).1, (hm.1.2.2 i hi).1]
      refine D_view (w := kdv (zv s) i j) hs hc hm ⟨⟨h8, hs.1.1.2.1, fun x hx => ?_⟩, hs.1.2⟩ _ ⟨_, rfl, ⟨by rw [setI1_ne (by decide)]; exact hc.1.1, by rw [setI1_ne (by decide)]; exact hc.1.2.1, fun x hx => ?_⟩, fun x hx => ⟨setI1_ne (by omega), rfl⟩⟩ ⟨_, rfl, ⟨by rw [setI1_ne (by decide)]; exact hm.1.1, by rw [setI1_ne (by decide)]; exact hm.1.2.1, fun x hx => ?_⟩, fM_P3 ⟨fun x x1 x2 x3 => setI1_ne x3, rfl⟩⟩
      · have := hs.1.1.2.2 x hx
        refine ⟨?_, this.2⟩
        show (if x = i then j else kd (zv s) x) ≤ 5
        by_cases q : x = i
        · rw [if_pos q]; exact h2
        · rw [if_neg q]; exact this.1
      · obtain ⟨r1, r2, r3⟩ := hc.1.2.2 x hx
        refine ⟨?_, by rw [setI1_ne (by omega)]; exact r2, fun l hl => by rw [setI1_ne (by omega)]; exact r3 l hl⟩
        show (setI μ 3 i b).1 3 x = nI (if x = i then j else kd (zv s) x)
        rw [setI1_eq, upd_get]
        by_cases q : x = i
        · rw [if_pos q, if_pos q, e]
        · rw [if_neg q, if_neg q]; exact r1
      · obtain ⟨r1, r2, r3⟩ := hm.1.2.2 x hx
        refine ⟨?_, by rw [setI1_ne (by omega)]; exact r2, fun l hl => by rw [setI1_ne (by omega)]; exact r3 l hl⟩
        show (setI μ' 51 i b).1 51 x = nI (if x = i then j else kd (zv s) x)
        rw [setI1_eq, upd_get]
        by_cases q : x = i
        · rw [if_pos q, if_pos q, e]
        · rw [if_neg q, if_neg q]; exact r1
    · rw [if_neg h5, if_neg h5, if_pos h6, if_neg h4, bd_some, if_pos rfl]
      exact D_ref hs hc hm (c := 2) (by decide)
  · rw [g1 2 μ hc.1, g2 μ' hm.1, bd_some, bd_some, if_pos z0, if_pos z0]
    exact D_ref hs hc hm (c := 1) (by decide)
theorem tw_form (hs : SOk s) (hc : CI s μ) (hm : MI s μ') (a : Int32) : D μ μ' (fX4_form n a μ) (fX5_form n a μ') := by
  have hr := hs.1.1.2.1
  unfold fX4_form fX5_form
  simp only [bnd]
  rcases chO (n := n) (a := a) with ⟨ha, g1, g2⟩ | ⟨ha, g1, g2⟩
  · rw [g1, g2, bd_some, bd_some, if_neg z1, if_neg z1]
    have hrr : ∀ Z, D μ μ' (some (nI (vr (zv s)), setI μ 2 4 a)) Z → D μ μ' (if μ.1 2 4 = 0 then if a = 1 then some ((0 : Int32), setI μ 2 4 1) else some (0, setI μ 2 4 0) else if a = 1 then some (1, setI μ 2 4 1) else some (1, setI μ 2 4 0)) Z := by
      intro Z h
      rcases (show vr (zv s) = 0 ∨ vr (zv s) = 1 by omega) with q | q
      · rw [if_pos (by rw [hc.1.2.1, q]; rfl)]
        rw [q] at h
        rcases ha with rfl | rfl
        · exact h
        · exact h
      · rw [if_neg (by rw [hc.1.2.1, q]; decide)]
        rw [q] at h
        rcases ha with rfl | rfl
        · exact h
        · exact h
    refine hrr _ ?_
    rw [hm.1.2.1]
    obtain ⟨j, hj, rfl⟩ : ∃ j, j ≤ 1 ∧ a = nI j := by
      rcases ha with rfl | rfl
      · exact ⟨0, by decide, rfl⟩
      · exact ⟨1, by decide, rfl⟩
    exact D_view (w := rgv (zv s) j) hs hc hm (rgv_ok hs.1 hj) _ ⟨_, rfl, ⟨by rw [setI1_eq, upd_ne (by decide)]; exact hc.1.1, by rw [setI1_eq, upd_eq]; rfl, fun x hx => by rw [setI1_ne (by omega), setI1_ne (by omega), setI1_ne (by omega)]; exact hc.1.2.2 x hx⟩, fun x hx => ⟨setI1_ne (by omega), rfl⟩⟩ ⟨_, rfl, ⟨by rw [setI1_eq, upd_ne (by decide)]; exact hm.1.1, by rw [setI1_eq, upd_eq]; rfl, fun x hx => by rw [setI1_ne (by decide), setI1_ne (by decide), setI1_ne (by decide)]; exact hm.1.2.2 x hx⟩, ⟨fun x hx => setI1_ne (by omega), fun _ _ => rfl, fun f _ h5 _ _ _ _ => by rw [setI1_eq, upd_ne h5], fun u _ hk => KV_58 (fun x => by rw [setI1_ne (by decide)]) hk⟩⟩
  · rw [g1, g2, bd_some, bd_some, if_pos z0, if_pos z0]
    exact D_ref hs hc hm (c := 2) (by decide)
end TW
