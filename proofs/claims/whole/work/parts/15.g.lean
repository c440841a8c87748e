/-! ===== misspelt ===== -/
theorem sm_le {f : Nat → Nat} {B : Nat} : ∀ m, (∀ i, i < m → f i ≤ B) → fb_sm f m ≤ m * B
  | 0, _ => Nat.zero_le _
  | m + 1, h => by
    have h1 := sm_le m (fun i hi => h i (by omega))
    have h2 := h m (by omega)
    show fb_sm f m + f m ≤ (m + 1) * B
    rw [Nat.succ_mul]; omega
def ft (Rn : Nat) (sg : Nat → Nat) (v : Vw) : Bool := !decide (fb_sm (Bwd (vN v) (rb v) sg Rn (Rn - 1)) (vN v) = 0)
def qm (Rn : Nat) (sg : Nat → Nat) (v : Vw) (i l : Nat) : Bool := !decide (l = sz v i) && ft Rn sg (spv v i l)
def b2 (A : Bool) : Int32 := if A = true then nI 1 else nI 0
theorem Bwd_lt {v : Vw} (h8 : vN v ≤ 8) {Rn : Nat} (h12 : Rn ≤ 12) {sg : Nat → Nat} (i : Nat) : Bwd (vN v) (rb v) sg Rn (Rn - 1) i ≤ 8 ^ 11 := Nat.le_trans (Bwd_le h8 (Rn - 1) i) (Nat.pow_le_pow_right (by decide) (by omega))
section MS
variable {n : Nat} {v : Vw} {μ : Mem} {Rn : Nat} {sg : Nat → Nat}
theorem x4_fits (hn : 400 ≤ n) (hv : Vok v) (hk : Sok Rn sg) (hR : 0 < Rn) {k : Nat} (hk2 : k + 12 ≤ 42) (hc : CV k v μ) (hs : SC Rn sg μ) : Ok (b2 (ft Rn sg v)) (fun ν => fr 42 47 μ ν) (fX4_someWayFits n k μ) := by
  have h8 := hv.1
  have h12 := hk.1
  obtain ⟨a, q1, g1, g2⟩ := p0_lay (n := n) (by omega) hv hk2 hc
  obtain ⟨b, q2, t1, t2⟩ := p0_fit (n := n) (by omega) hv g1 hk (SC_fr g2 (by decide) hs) hR
  have e60 : (8 : Nat) ^ 11 < 2 ^ 60 := by decide
  have hB : ∀ i, i < vN v → Bwd (vN v) (rb v) sg Rn (Rn - 1) i < 2 ^ 60 := fun i _ => Nat.lt_of_le_of_lt (Bwd_lt h8 h12 i) e60
  have hlt := fsS_lt (Bwd (vN v) (rb v) sg Rn (Rn - 1)) (vN v)
  have h256 : 2 ^ vN v ≤ 2 ^ 8 := Nat.pow_le_pow_right (by decide) h8
  have e256 : (2 : Nat) ^ 8 = 256 := by decide
  have hz := fsS_zero (Bwd (vN v) (rb v) sg Rn (Rn - 1)) (vN v)
  unfold fX4_someWayFits
  rw [q1, bd_some, q2, bd_some, p0_fstat (by omega) hv (NK_fr t2 (by decide) g1) t1 hB, bd_some]
  by_cases h0 : fb_sm (Bwd (vN v) (rb v) sg Rn (Rn - 1)) (vN v) = 0
  · rw [if_pos (show nI (fsS (Bwd (vN v) (rb v) sg Rn (Rn - 1)) (vN v)) = 0 by rw [hz.mpr h0]; rfl)]
    unfold ft
    rw [decide_eq_true h0]
    exact ⟨b, rfl, fr_tr g2 (fr_wd t2 (by decide) (by decide))⟩
  · rw [if_neg (show ¬ nI (fsS (Bwd (vN v) (rb v) sg Rn (Rn - 1)) (vN v)) = 0 by rw [lit_0, nI_eq (by omega) (by decide)]; exact fun q => h0 (hz.mp q))]
    unfold ft
    rw [decide_eq_false h0]
    exact ⟨b, rfl, fr_tr g2 (fr_wd t2 (by decide) (by decide))⟩
theorem c_miss (hn : 400 ≤ n) (hv : V9 v) (hk : Sok Rn sg) (hR : 0 < Rn) {i : Nat} (hi : i < vN v) : ∀ (d l F : Nat) (μ : Mem), l + d = 10 → 1 ≤ l → d + 1 ≤ F → CV 2 v μ → SC Rn sg μ → Ok (b2 (anyb (qm Rn sg v i) d l)) (fun ν => fC μ ν) (fX4_canBeMisspelt_L2 n (nI i) F (nI l) μ)
  | 0, l, F, μ, hd, hl, hF, hc, hs => by
    obtain ⟨F, rfl⟩ : ∃ G, F = G + 1 := ⟨F - 1, by omega⟩
    rw [fX4_canBeMisspelt_L2, if_pos (show (9 : Int32) < nI l from nI_lt (a := 9) (by omega) (by omega))]
    exact ⟨μ, rfl, fC_rf⟩
  | d + 1, l, F, μ, hd, hl, hF, hc, hs => by
    have h8 := hv.1.1
    obtain ⟨F, rfl⟩ : ∃ G, F = G + 1 := ⟨F - 1, by omega⟩
    have hs9 := hv.2 i hi
    rw [fX4_canBeMisspelt_L2, if_neg (show ¬ (9 : Int32) < nI l from nI_nlt (a := 9) (by omega) (by omega)), inb_nI (by omega) (by decide), gd_true, nI_clamp (by omega), show μ.1 4 i = nI (sz v i) from (hc.2.2 i hi).2.1, anyb]
    simp only [bnd, nI_1]
    have next : ∀ ξ, fC μ ξ → qm Rn sg v i l = false → Ok (b2 (qm Rn sg v i l || anyb (qm Rn sg v i) d (l + 1))) (fun ν => fC μ ν) (fX4_canBeMisspelt_L2 n (nI i) F (nI (l + 1)) ξ) := by
      intro ξ hf hq
      obtain ⟨ζ, e1, e2⟩ := c_miss hn hv hk hR hi d (l + 1) F ξ (by omega) (by omega) (by omega) (CV_eq h8 (fun x x1 x2 => (hf x (by omega) (by omega)).1) hc) ⟨by rw [(hf 40 (by decide) (by decide)).1]; exact hs.1, fun j hj => by rw [(hf 41 (by decide) (by decide)).1]; exact hs.2 j hj⟩
      rw [hq, Bool.false_or]
      exact ⟨ζ, e1, fC_tr hf e2⟩
    by_cases e : l = sz v i
    · rw [if_pos (show nI l = nI (sz v i) by rw [e])]
      exact next μ fC_rf (by unfold qm; rw [decide_eq_true e]; rfl)
    · rw [if_neg (show ¬ nI l = nI (sz v i) by rw [nI_eq (by omega) (by omega)]; exact e)]
      obtain ⟨ν, q, w1, w2⟩ := p3_take (n := n) (by omega) hv.1 (k0 := 14) (k1 := 2) (by decide) hc
      obtain ⟨ξ, q2, w3, w4⟩ := p3_spell (n := n) (by omega) hv.1 hi w1 hl (show l ≤ 9 by omega)
      have f2 : fC μ ξ := fC_tr (fC_try w2 (by decide) (by decide)) (fC_try w4 (by decide) (by decide))
      obtain ⟨ζ, q3, w5⟩ := x4_fits (n := n) hn (spv_ok hv.1 hl (show l ≤ 9 by omega)) hk hR (k := 14) (by decide) w3 ⟨by rw [(f2 40 (by decide) (by decide)).1]; exact hs.1, fun j hj => by rw [(f2 41 (by decide) (by decide)).1]; exact hs.2 j hj⟩
      have f3 := fC_tr f2 (fC_net w5 (by decide) (by decide))
      rw [q, bd_some, q2, bd_some, q3, bd_some]
      cases hf : ft Rn sg (spv v i l) with
      | false =>
        rw [show b2 false = 0 from rfl, if_pos rfl]
        exact next ζ f3 (by unfold qm; rw [hf, Bool.and_false])
      | true =>
        rw [show b2 true = 1 from rfl, if_neg (by decide), show qm Rn sg v i l = true by unfold qm; rw [hf, decide_eq_false e]; rfl, Bool.true_or]
        exact ⟨ζ, rfl, f3⟩
theorem SM_fM {ν : Mem} (h : fM μ ν) (hs : SM Rn sg μ) : SM Rn sg ν := ⟨by rw [h.2.2.1 22 (by decide) (by decide) (by decide) (by decide) (by decide) (by decide)]; exact hs.1, fun i hi => by rw [h.1 61 (by decide)]; exact hs.2 i hi⟩
theorem m_fits (hn : 400 ≤ n) (hv : Vok v) (hk : Sok Rn sg) (hR : 0 < Rn) (hc : MV v μ) (hs : SM Rn sg μ) : ∃ y ν, fX5_fitsAll n μ = some (y, ν) ∧ (lg_cmp y 0 ≤ 0 ↔ ft Rn sg v = false) ∧ fr 59 61 μ ν := by
  have h8 := hv.1
  have h12 := hk.1
  obtain ⟨ν, q, w⟩ := p5_fitsAll (n := n) (by omega) hv hc hk hs hR
  have hle := sm_le (f := Bwd (vN v) (rb v) sg Rn (Rn - 1)) (B := 8 ^ 11) (vN v) (fun i _ => Bwd_lt h8 h12 i)
  have e63 : 8 * (8 : Nat) ^ 11 < 2 ^ 63 := by decide
  have hlt : fb_sm (Bwd (vN v) (rb v) sg Rn (Rn - 1)) (vN v) < 2 ^ 63 := Nat.lt_of_le_of_lt (Nat.le_trans hle (Nat.mul_le_mul_right _ h8)) e63
  refine ⟨_, ν, q, ?_, w⟩
  rw [cmp0' hlt]
  unfold ft
  by_cases h0 : fb_sm (Bwd (vN v) (rb v) sg Rn (Rn - 1)) (vN v) = 0
  · rw [decide_eq_true h0]; exact ⟨fun _ => rfl, fun _ => h0⟩
  · rw [decide_eq_false h0]; exact ⟨fun q => absurd q h0, fun q => by cases q⟩
theorem m_miss (hn : 400 ≤ n) (hv : V9 v) (hk : Sok Rn sg) (hR : 0 < Rn) {i : Nat} (hi : i < vN v) : ∀ (d l F : Nat) (A : Bool) (μ : Mem), l + d = 10 → 1 ≤ l → d + 1 ≤ F → MV v μ → SM Rn sg μ → Ok (b2 (A || anyb (qm Rn sg v i) d l)) (fun ν => MV v ν ∧ fM μ ν) (fX5_wouldFit_L12 n (nI i) (nI (sz v i)) F (b2 A) (nI l) μ)
  | 0, l, F, A, μ, hd, hl, hF, hc, hs => by
    obtain ⟨F, rfl⟩ : ∃ G, F = G + 1 := ⟨F - 1, by omega⟩
    rw [fX5_wouldFit_L12, if_pos (show (9 : Int32) < nI l from nI_lt (a := 9) (by omega) (by omega)), show isB (b2 A) = true by cases A <;> rfl, gd_true, anyb, Bool.or_false]
    exact ⟨μ, rfl, hc, fM_rf⟩
  | d + 1, l, F, A, μ, hd, hl, hF, hc, hs => by
    have h8 := hv.1.1
    obtain ⟨F, rfl⟩ : ∃ G, F = G + 1 := ⟨F - 1, by omega⟩
    have hs9 := hv.2 i hi
    rw [fX5_wouldFit_L12, if_neg (show ¬ (9 : Int32) < nI l from nI_nlt (a := 9) (by omega) (by omega)), anyb, ← Bool.or_assoc]
    simp only [bnd, nI_1]
    by_cases e : l = sz v i
    · rw [if_pos (show nI l = nI (sz v i) by rw [e]), show qm Rn sg v i l = false by unfold qm; rw [decide_eq_true e]; rfl, Bool.or_false]
      exact m_miss hn hv hk hR hi d (l + 1) F A μ (by omega) (by omega) (by omega) hc hs
    · rw [if_neg (show ¬ nI l = nI (sz v i) by rw [nI_eq (by omega) (by omega)]; exact e)]
      obtain ⟨a, r1, s1, s2, s3, s4⟩ := p5_save (n := n) (by omega) hv.1 hc (w := 1) (by decide)
      have r1 : fX5_passesAll n 1 1 μ = _ := r1
      obtain ⟨b, r2, t1, t2⟩ := p5_called (n := n) (by omega) hv.1 s1 hi (show l ≤ 9 by omega)
      have f2 : fM μ b := fM_tr (fM_save s4 s3) (fM_P3 t2)
      have hqm : qm Rn sg v i l = ft Rn sg (spv v i l) := by unfold qm; rw [decide_eq_false e]; rfl
      have fin : ∀ c, fM μ c → (∀ j, c.1 58 j = a.1 58 j) → ∀ A' : Bool, A' = (A || qm Rn sg v i l) → Ok (b2 (A || qm Rn sg v i l || anyb (qm Rn sg v i) d (l + 1))) (fun ν => MV v ν ∧ fM μ ν) (bd (fX5_passesAll n 1 0 c) fun r10 m9 => fX5_wouldFit_L12 n (nI i) (nI (sz v i)) F (b2 A') (nI (l + 1)) m9) := by
        intro c hf h58 A' hA
        obtain ⟨g, r4, u1, u2, u3⟩ := p5_load (n := n) (μ := c) (by omega) hv.1 (w := 1) (by decide) (KV_58 h58 s2)
        have r4 : fX5_passesAll n 1 0 c = _ := r4
        have f4 := fM_tr hf (fM_load u3 u2)
        obtain ⟨x, e1, e2, e3⟩ := m_miss hn hv hk hR hi d (l + 1) F A' g (by omega) (by omega) (by omega) u1 (SM_fM f4 hs)
        rw [r4, bd_some, ← hA]
        exact ⟨x, e1, e2, fM_tr f4 e3⟩
      have hb58 : ∀ j, b.1 58 j = a.1 58 j := fun j => by rw [t2.1 58 (by decide) (by decide) (by decide)]
      rw [r1, bd_some, r2, bd_some]
      cases A with
      | true =>
        rw [if_neg (show ¬ b2 true = 0 by decide)]
        exact fin b f2 hb58 true (by rw [Bool.true_or])
      | false =>
        obtain ⟨y, c, r3, hy, w⟩ := m_fits (n := n) hn (spv_ok hv.1 hl (show l ≤ 9 by omega)) hk hR t1 (SM_fM f2 hs)
        have f3 := fM_tr f2 (fM_59 w (by decide) (by decide))
        have hc58 : ∀ j, c.1 58 j = a.1 58 j := fun j => by rw [(w 58 (by decide)).1]; exact hb58 j
        rw [if_pos (show b2 false = 0 from rfl), r3, bd_some]
        cases hf : ft Rn sg (spv v i l) with
        | false =>
          rw [if_pos (hy.mpr hf)]
          exact fin c f3 hc58 false (by rw [hqm, hf]; rfl)
        | true =>
          rw [if_neg (fun q => by rw [hy.mp q] at hf; cases hf)]
          exact fin c f3 hc58 true (by rw [hqm, hf]; rfl)
end MS
section MT
variable {n : Nat} {s : Zs}
theorem w_miss (hn : 400 ≤ n) (hs : SOk s) (hR : 0 < zR s) : ∀ (d k F F' : Nat) (x : Int32) (μ μ' : Mem), k + d = vN (zv s) → d + 1 ≤ F → d + 1 ≤ F' → CI s μ → MI s μ' → E s μ μ' (fX4_misspelt_L34 n F x (nI k) μ) (fX5_misspelt_L29 n F' x (nI k) μ')
  | 0, k, F, F', x, μ, μ', hd, hF, hF', hc, hm => by
    have h8 := hs.1.1.1
    obtain ⟨F, rfl⟩ : ∃ G, F = G + 1 := ⟨F - 1, by omega⟩
    obtain ⟨F', rfl⟩ : ∃ G, F' = G + 1 := ⟨F' - 1, by omega⟩
    rw [fX4_misspelt_L34, fX5_misspelt_L29, hc.1.1, hm.1.1, if_pos (nI_le (by omega) (by omega)), if_pos (nI_le (by omega) (by omega))]
    exact E_pure hm.1 _
  | d + 1, k, F, F', x, μ, μ', hd, hF, hF', hc, hm => by
    have h8 := hs.1.1.1
    obtain ⟨F, rfl⟩ : ∃ G, F = G + 1 := ⟨F - 1, by omega⟩
    obtain ⟨F', rfl⟩ : ∃ G, F' = G + 1 := ⟨F' - 1, by omega⟩
    have hgo : ¬ nI (vN (zv s)) ≤ nI k := by rw [nI_leI (by omega) (by omega)]; omega
    obtain ⟨a, q1, f1⟩ := c_miss (n := n) hn hs.1 hs.2.2.1 hR (i := k) (by omega) 9 1 n μ (by omega) (by omega) (by omega) hc.1 hc.2.2.1
    obtain ⟨b, q2, t1, f2⟩ := m_miss (n := n) hn hs.1 hs.2.2.1 hR (i := k) (by omega) 9 1 n false μ' (by omega) (by omega) (by omega) hm.1 hm.2.2.1
    have q1 : fX4_canBeMisspelt n (nI k) μ = _ := q1
    have q2' : fX5_wouldFit n (nI k) μ' = some (b2 (anyb (qm (zR s) (zg s) (zv s) k) 9 1), b) := by
      unfold fX5_wouldFit
      rw [inb_nI (by omega) (by decide), gd_true, nI_clamp (by omega), (hm.1.2.2 k (by omega)).2.1, bnd]
      exact q2
    rw [fX4_misspelt_L34, fX5_misspelt_L29, hc.1.1, hm.1.1, if_neg hgo, if_neg hgo, q1, bd_some, q2', bd_some]
    simp only [bnd, nI_1]
    have ih := fun y => w_miss hn hs hR d (k + 1) F F' y a b (by omega) (by omega) (by omega) (CI_fC hs f1 hc) (MI_fM hs f2 t1 hm)
    cases anyb (qm (zR s) (zg s) (zv s) k) 9 1 with
    | false =>
      rw [if_pos (show b2 false = 0 from rfl), if_pos (show b2 false = 0 from rfl), i_or0]
      exact E_tr f1 f2 (ih x)
    | true =>
      rw [if_neg (show ¬ b2 true = 0 by decide), if_neg (show ¬ b2 true = 0 by decide)]
      exact E_tr f1 f2 (ih _)
theorem tw_misspelt {μ μ' : Mem} (hn : 400 ≤ n) (hs : SOk s) (hc : CI s μ) (hm : MI s μ') : D μ μ' (fX4_misspelt n μ) (fX5_misspelt n μ') := by
  have h8 := hs.1.1.1
  have h12 := hs.2.2.1.1
  unfold fX4_misspelt fX5_misspelt
  rw [hc.2.2.1.1, hm.2.2.1.1]
  by_cases h0 : zR s = 0
  · rw [h0, if_pos z0, if_pos z0]
    exact D_ref hs hc hm (c := 3) (by decide)
  · have hne : ¬ nI (zR s) = 0 := by rw [lit_0, nI_eq (by omega) (by decide)]; exact h0
    obtain ⟨a, q1, w1⟩ := x4_fits (n := n) hn hs.1.1 hs.2.2.1 (by omega) (k := 2) (by decide) hc.1 hc.2.2.1
    obtain ⟨y, b, q2, hy, w2⟩ := m_fits (n := n) hn hs.1.1 hs.2.2.1 (by omega) hm.1 hm.2.2.1
    have f1 : fC μ a := fC_net w1 (by decide) (by decide)
    have f2 : fM μ' b := fM_59 w2 (by decide) (by decide)
    have hmb : MV (zv s) b := MV_fr w2 (Or.inr (by decide)) hm.1
    rw [if_neg hne, if_neg hne, q1, bd_some, q2, bd_some]
    cases hf : ft (zR s) (zg s) (zv s) with
    | false =>
      rw [if_pos (show b2 false = 0 from rfl), if_pos (hy.mpr hf)]
      exact E_D hs hc hm (E_tr f1 f2 (w_miss hn hs (by omega) (vN (zv s)) 0 n n 0 a b (by omega) (by omega) (by omega) (CI_fC hs f1 hc) (MI_fM hs f2 hmb hm)))
    | true =>
      rw [if_neg (show ¬ b2 true = 0 by decide), if_neg (fun q => by rw [hy.mp q] at hf; cases hf)]
      exact D_same hs hc hm _ ⟨a, rfl, f1⟩ ⟨b, rfl, hmb, f2⟩
end MT
