/-! ===== changed, misspelt ===== -/
def anyb (p : Nat → Bool) : Nat → Nat → Bool
  | 0, _ => false
  | d + 1, i => p i || anyb p d (i + 1)
theorem anyb_iff {p : Nat → Bool} : ∀ d i, anyb p d i = true ↔ ∃ j, i ≤ j ∧ j < i + d ∧ p j = true
  | 0, i => ⟨fun h => (by cases h), fun ⟨j, h1, h2, _⟩ => by omega⟩
  | d + 1, i => by
    rw [anyb, Bool.or_eq_true, anyb_iff d (i + 1)]
    constructor
    · rintro (h | ⟨j, h1, h2, h3⟩)
      · exact ⟨i, Nat.le_refl _, by omega, h⟩
      · exact ⟨j, by omega, by omega, h3⟩
    · rintro ⟨j, h1, h2, h3⟩
      by_cases e : j = i
      · subst e; exact Or.inl h3
      · exact Or.inr ⟨j, by omega, by omega, h3⟩
def ch1 (v : Vw) (k : Nat) : Vw := chv v (k / 2) (k % 2)
def ca1 (v : Vw) (k : Nat) : Bool := can v (k / 2) (k % 2)
def q1 (v : Vw) (k : Nat) : Bool := ca1 v k && decide (nv (ch1 v k) = 0)
def q2 (v : Vw) (k l : Nat) : Bool := ca1 v k && (ca1 v l && decide (nv (ch1 (ch1 v k) l) = 0))
def qa (v : Vw) (k l : Nat) : Bool := decide (l = k) && q1 v k
def qb (v : Vw) (k l : Nat) : Bool := !decide (l / 2 = k / 2) && q2 v k l
def enc (A B : Bool) : Int32 := if A = true then 1 else if B = true then 2 else -9
def qp (v : Vw) (k : Nat) : Bool := anyb (q2 v k) (2 * vN v - (k - k % 2 + 2)) (k - k % 2 + 2)
theorem enc_eq (v : Vw) : enc (anyb (fun k => anyb (qa v k) (2 * vN v - k) k) (2 * vN v) 0) (anyb (fun k => anyb (qb v k) (2 * vN v - k) k) (2 * vN v) 0) = enc (anyb (q1 v) (2 * vN v) 0) (anyb (qp v) (2 * vN v) 0) := by
  congr 1
  · rw [Bool.eq_iff_iff, anyb_iff, anyb_iff]
    constructor
    · rintro ⟨k, h1, h2, h3⟩
      obtain ⟨l, h4, h5, h6⟩ := (anyb_iff _ _).mp h3
      unfold qa at h6
      rw [Bool.and_eq_true] at h6
      exact ⟨k, h1, h2, h6.2⟩
    · rintro ⟨k, h1, h2, h3⟩
      refine ⟨k, h1, h2, (anyb_iff _ _).mpr ⟨k, Nat.le_refl _, by omega, ?_⟩⟩
      unfold qa
      rw [h3, decide_eq_true rfl]; rfl
  · rw [Bool.eq_iff_iff, anyb_iff, anyb_iff]
    constructor
    · rintro ⟨k, h1, h2, h3⟩
      obtain ⟨l, h4, h5, h6⟩ := (anyb_iff _ _).mp h3
      unfold qb at h6
      rw [Bool.and_eq_true] at h6
      have hne : ¬ l / 2 = k / 2 := fun q => by rw [decide_eq_true q] at h6; exact absurd h6.1 (by decide)
      exact ⟨k, h1, h2, (anyb_iff _ _).mpr ⟨l, by omega, by omega, h6.2⟩⟩
    · rintro ⟨k, h1, h2, h3⟩
      obtain ⟨l, h4, h5, h6⟩ := (anyb_iff _ _).mp h3
      refine ⟨k, h1, h2, (anyb_iff _ _).mpr ⟨l, by omega, by omega, ?_⟩⟩
      unfold qb
      rw [h6, decide_eq_false (show ¬ l / 2 = k / 2 by omega)]; rfl
theorem chv_sz {v : Vw} {i is j : Nat} (h : j ≠ i) : sz (chv v i is) j = sz v j := by
  show (if j = i then _ else sz v j) = _
  rw [if_neg h]
theorem ca_ch {v : Vw} {k l : Nat} (h : ¬ l / 2 = k / 2) : can (ch1 v k) (l / 2) (l % 2) = ca1 v l := by
  unfold can ca1 can ch1
  rw [chv_sz h]
section CG
variable {n : Nat} {v : Vw} {μ0 : Mem}
theorem ch2_ok (hv : V9 v) {k l : Nat} (hk : k < 2 * vN v) (hl : l < 2 * vN v) (h : ¬ l / 2 = k / 2) (h1 : ca1 v k = true) (h2 : ca1 v l = true) : Vok (ch1 (ch1 v k) l) := by
  have a := can_ok hv (i := k / 2) (is := k % 2) (by omega) (by omega) h1
  have hh := of_decide_eq_true h2
  refine chv_ok (v := chv v (k / 2) (k % 2)) a (fun _ => ?_) (fun e => ?_)
  · rw [chv_sz h]; exact hv.2 (l / 2) (by omega)
  · rw [chv_sz h]
    rcases hh with q | q
    · exact absurd q e
    · exact q
/-- the class, one change -/
theorem c_one (hn : 400 ≤ n) (hv : V9 v) : ∀ (d k F : Nat) (μ : Mem), k + d = 2 * vN v → d + 1 ≤ F → CV 2 v μ → Ok (if anyb (q1 v) d k = true then nI 1 else nI 0) (fun ν => fC μ ν) (fX4_someChangeJoinsAll_L2 n F (nI k) μ)
  | 0, k, F, μ, hd, hF, hc => by
    have h8 := hv.1.1
    obtain ⟨F, rfl⟩ : ∃ G, F = G + 1 := ⟨F - 1, by omega⟩
    rw [fX4_someChangeJoinsAll_L2, hc.1, lit_2, pk_mul, if_pos (nI_le (by omega) (by omega))]
    exact ⟨μ, rfl, fC_rf⟩
  | d + 1, k, F, μ, hd, hF, hc => by
    have h8 := hv.1.1
    obtain ⟨F, rfl⟩ : ∃ G, F = G + 1 := ⟨F - 1, by omega⟩
    have hi : k / 2 < vN v := by omega
    have hr : k % 2 ≤ 1 := by omega
    obtain ⟨ν, q, w1, w2, w3⟩ := c_try (n := n) hn hv hc hi hr
    have hgo : ¬ nI (2 * vN v) ≤ nI k := by rw [nI_leI (by omega) (by omega)]; omega
    rw [fX4_someChangeJoinsAll_L2, hc.1, show (2 : Int32) * nI (vN v) = nI (2 * vN v) from pk_mul 2 _, if_neg hgo, div2 (by omega), rem2 (by omega), q, bd_some, anyb]
    simp only [bnd, nI_1]
    have next : ∀ ξ, fC μ ξ → q1 v k = false → Ok (if (q1 v k || anyb (q1 v) d (k + 1)) = true then nI 1 else nI 0) (fun ν => fC μ ν) (fX4_someChangeJoinsAll_L2 n F (nI (k + 1)) ξ) := by
      intro ξ hf hq
      obtain ⟨ζ, e1, e2⟩ := c_one hn hv d (k + 1) F ξ (by omega) (by omega) (CV_eq h8 (fun x x1 x2 => (hf x (by omega) (by omega)).1) hc)
      rw [hq, Bool.false_or]
      exact ⟨ζ, e1, fC_tr hf e2⟩
    cases hcan : can v (k / 2) (k % 2) with
    | false =>
      rw [w2 hcan, bd_some, if_pos z0]
      exact next ν w1 (by unfold q1 ca1; rw [hcan]; rfl)
    | true =>
      obtain ⟨ξ, q2, f2, hcx⟩ := w3 hcan
      obtain ⟨ζ, q3, f3⟩ := x4_neverIn (n := n) hn (can_ok hv hi hr hcan) (k := 14) (by decide) hcx
      have f4 := fC_tr f2 (fC_net f3 (by decide) (by decide))
      rw [q2, bd_some, if_neg z1, q3, bd_some]
      by_cases h0 : nv (chv v (k / 2) (k % 2)) = 0
      · rw [if_pos h0, show q1 v k = true by unfold q1 ca1 ch1; rw [hcan, decide_eq_true h0]; rfl, Bool.true_or, if_pos rfl]
        exact ⟨ζ, rfl, f4⟩
      · rw [if_neg h0]
        exact next ζ f4 (by unfold q1 ca1 ch1; rw [hcan, decide_eq_false h0]; rfl)
/-- the class, a second change -/
theorem c_two (hn : 400 ≤ n) (hv : V9 v) {k : Nat} (hk : k < 2 * vN v) {K : Mem → Option (Int32 × Mem)} : ∀ (d l F : Nat) (μ : Mem), l + d = 2 * vN v ∨ (d = 0 ∧ 2 * vN v ≤ l ∧ l < 100) → d + 1 ≤ F → k - k % 2 + 2 ≤ l → CV 2 v μ → if anyb (q2 v k) d l = true then Ok (nI 1) (fun ν => fC μ ν) (fX4_someTwoChangesJoinAll_L23 n (nI k) K F (nI l) μ) else ∃ ν, fC μ ν ∧ fX4_someTwoChangesJoinAll_L23 n (nI k) K F (nI l) μ = K ν
  | 0, l, F, μ, hd, hF, hkl, hc => by
    have h8 := hv.1.1
    obtain ⟨F, rfl⟩ : ∃ G, F = G + 1 := ⟨F - 1, by omega⟩
    rw [fX4_someTwoChangesJoinAll_L23, hc.1, lit_2, pk_mul, if_pos (nI_le (by omega) (by omega)), anyb, if_neg (by decide)]
    exact ⟨μ, fC_rf, rfl⟩
  | d + 1, l, F, μ, hd, hF, hkl, hc => by
    have h8 := hv.1.1
    obtain ⟨F, rfl⟩ : ∃ G, F = G + 1 := ⟨F - 1, by omega⟩
    have hl : l < 2 * vN v := by omega
    have hi : k / 2 < vN v := by omega
    have hr : k % 2 ≤ 1 := by omega
    have hne : ¬ l / 2 = k / 2 := by omega
    obtain ⟨ν, q, w1, w2, w3⟩ := c_try (n := n) hn hv hc hi hr
    have hgo : ¬ nI (2 * vN v) ≤ nI l := by rw [nI_leI (by omega) (by omega)]; omega
    rw [fX4_someTwoChangesJoinAll_L23, hc.1, show (2 : Int32) * nI (vN v) = nI (2 * vN v) from pk_mul 2 _, if_neg hgo, div2 (by omega), rem2 (by omega), div2 (by omega), rem2 (by omega), q, bd_some, anyb]
    simp only [bnd, nI_1]
    have next : ∀ ξ, fC μ ξ → q2 v k l = false → if (q2 v k l || anyb (q2 v k) d (l + 1)) = true then Ok (nI 1) (fun ν => fC μ ν) (fX4_someTwoChangesJoinAll_L23 n (nI k) K F (nI (l + 1)) ξ) else ∃ ν, fC μ ν ∧ fX4_someTwoChangesJoinAll_L23 n (nI k) K F (nI (l + 1)) ξ = K ν := by
      intro ξ hf hq
      have ih := c_two hn hv hk (K := K) d (l + 1) F ξ (by omega) (by omega) (by omega) (CV_eq h8 (fun x x1 x2 => (hf x (by omega) (by omega)).1) hc)
      rw [hq, Bool.false_or]
      by_cases h : anyb (q2 v k) d (l + 1) = true
      · rw [if_pos h] at ih ⊢
        obtain ⟨ζ, e1, e2⟩ := ih
        exact ⟨ζ, e1, fC_tr hf e2⟩
      · rw [if_neg h] at ih ⊢
        obtain ⟨ζ, e1, e2⟩ := ih
        exact ⟨ζ, fC_tr hf e1, e2⟩
    cases hcan : can v (k / 2) (k % 2) with
    | false =>
      rw [w2 hcan, bd_some, if_pos z0, if_pos trivial]
      exact next ν w1 (by unfold q2 ca1; rw [hcan]; rfl)
    | true =>
      obtain ⟨ξ, q', f2, hcx⟩ := w3 hcan
      have hok := can_ok hv hi hr hcan
      have hx := x3_change (n := n) (v := chv v (k / 2) (k % 2)) hok (k := 14) (i := l / 2) (is := l % 2) (show l / 2 < vN v by omega) (by rw [chv_sz hne]; exact hv.2 _ (by omega)) (by omega) hcx
      rw [q', bd_some, if_neg z1]
      cases hcan2 : can (chv v (k / 2) (k % 2)) (l / 2) (l % 2) with
      | false =>
        rw [hcan2, if_neg (by decide)] at hx
        rw [hx, bd_some, if_pos z0, if_pos trivial]
        exact next ξ f2 (by
          have := ca_ch (v := v) hne
          unfold ch1 at this
          unfold q2
          rw [← this, hcan2, Bool.false_and, Bool.and_false])
      | true =>
        rw [if_pos hcan2] at hx
        obtain ⟨ξ', q'', hcx', f5⟩ := hx
        have e2 : ca1 v l = true := by
          have := ca_ch (v := v) hne
          unfold ch1 at this
          rw [← this]; exact hcan2
        obtain ⟨ζ, q3, f3⟩ := x4_neverIn (n := n) hn (ch2_ok hv hk hl hne hcan e2) (k := 14) (by decide) hcx'
        have f4 := fC_tr f2 (fC_tr (fC_try f5 (by decide) (by decide)) (fC_net f3 (by decide) (by decide)))
        rw [q'', bd_some, if_neg z1, if_neg (show ¬ (1 : Int32) = 0 by decide), q3, bd_some]
        by_cases h0 : nv (ch1 (ch1 v k) l) = 0
        · rw [if_pos h0, if_pos (by unfold q2; rw [show ca1 v k = true from hcan, e2, decide_eq_true h0]; rfl)]
          exact ⟨ζ, rfl, f4⟩
        · rw [if_neg h0]
          exact next ζ f4 (by unfold q2; rw [decide_eq_false h0, Bool.and_false, Bool.and_false])
theorem c_pairs (hn : 400 ≤ n) (hv : V9 v) : ∀ (d k F : Nat) (μ : Mem), k + d = 2 * vN v → d + 1 ≤ F → CV 2 v μ → Ok (if anyb (qp v) d k = true then nI 1 else nI 0) (fun ν => fC μ ν) (fX4_someTwoChangesJoinAll_L2 n F (nI k) μ)
  | 0, k, F, μ, hd, hF, hc => by
    have h8 := hv.1.1
    obtain ⟨F, rfl⟩ : ∃ G, F = G + 1 := ⟨F - 1, by omega⟩
    rw [fX4_someTwoChangesJoinAll_L2, hc.1, lit_2, pk_mul, if_pos (nI_le (by omega) (by omega))]
    exact ⟨μ, rfl, fC_rf⟩
  | d + 1, k, F, μ, hd, hF, hc => by
    have h8 := hv.1.1
    obtain ⟨F, rfl⟩ : ∃ G, F = G + 1 := ⟨F - 1, by omega⟩
    have hgo : ¬ nI (2 * vN v) ≤ nI k := by rw [nI_leI (by omega) (by omega)]; omega
    rw [fX4_someTwoChangesJoinAll_L2, hc.1, show (2 : Int32) * nI (vN v) = nI (2 * vN v) from pk_mul 2 _, if_neg hgo, rem2 (by omega), pk_sub (by omega), lit_2, nI_add, anyb]
    simp only [bnd, nI_1]
    have hx := c_two (n := n) hn hv (k := k) (by omega) (K := fun m17 => fX4_someTwoChangesJoinAll_L2 n F (nI (k + 1)) m17) (2 * vN v - (k - k % 2 + 2)) (k - k % 2 + 2) n μ (by omega) (by omega) (Nat.le_refl _) hc
    by_cases h : anyb (q2 v k) (2 * vN v - (k - k % 2 + 2)) (k - k % 2 + 2) = true
    · rw [if_pos h] at hx
      rw [show qp v k = true from h, Bool.true_or, if_pos rfl]
      exact hx
    · rw [if_neg h] at hx
      obtain ⟨ν, f1, e1⟩ := hx
      rw [show qp v k = false from Bool.eq_false_iff.mpr h, Bool.false_or, e1]
      obtain ⟨ζ, e2, f2⟩ := c_pairs hn hv d (k + 1) F ν (by omega) (by omega) (CV_eq h8 (fun x x1 x2 => (f1 x (by omega) (by omega)).1) hc)
      exact ⟨ζ, e2, fC_tr f1 f2⟩
/-- the model, one or two changes -/
theorem m_inner (hn : 400 ≤ n) (hv : V9 v) {k : Nat} (hk : k < 2 * vN v) {K : Int32 → Mem → Option (Int32 × Mem)} : ∀ (d l F : Nat) (A B : Bool) (μ : Mem), l + d = 2 * vN v → k ≤ l → d + 1 ≤ F → MV v μ → KV 1 v μ → ∃ ν, fX5_changed_L32 n (nI k) K F (enc A B) (nI l) μ = K (enc (A || anyb (qa v k) d l) (B || anyb (qb v k) d l)) ν ∧ MV v ν ∧ KV 1 v ν ∧ fM μ ν
  | 0, l, F, A, B, μ, hd, hkl, hF, hc, hkv => by
    have h8 := hv.1.1
    obtain ⟨F, rfl⟩ : ∃ G, F = G + 1 := ⟨F - 1, by omega⟩
    rw [fX5_changed_L32, hc.1, lit_2, pk_mul, if_pos (nI_le (by omega) (by omega)), anyb, anyb, Bool.or_false, Bool.or_false]
    exact ⟨μ, rfl, hc, hkv, fM_rf⟩
  | d + 1, l, F, A, B, μ, hd, hkl, hF, hc, hkv => by
    have h8 := hv.1.1
    obtain ⟨F, rfl⟩ : ∃ G, F = G + 1 := ⟨F - 1, by omega⟩
    have hgo : ¬ nI (2 * vN v) ≤ nI l := by rw [nI_leI (by omega) (by omega)]; omega
    have next : ∀ (A' B' : Bool) (ξ : Mem), (enc (A' || anyb (qa v k) d (l + 1)) (B' || anyb (qb v k) d (l + 1)) = enc (A || (qa v k l || anyb (qa v k) d (l + 1))) (B || (qb v k l || anyb (qb v k) d (l + 1)))) → MV v ξ → KV 1 v ξ → fM μ ξ → ∃ ν, fX5_changed_L32 n (nI k) K F (enc A' B') (nI (l + 1)) ξ = K (enc (A || (qa v k l || anyb (qa v k) d (l + 1))) (B || (qb v k l || anyb (qb v k) d (l + 1)))) ν ∧ MV v ν ∧ KV 1 v ν ∧ fM μ ν := by
      intro A' B' ξ he h1 h2 h3
      obtain ⟨ζ, e1, e2, e3, e4⟩ := m_inner hn hv hk (K := K) d (l + 1) F A' B' ξ (by omega) (by omega) (by omega) h1 h2
      rw [← he]
      exact ⟨ζ, e1, e2, e3, fM_tr h3 e4⟩
    have skip : qa v k l = false → qb v k l = false → ∃ ν, fX5_changed_L32 n (nI k) K F (enc A B) (nI (l + 1)) μ = K (enc (A || (qa v k l || anyb (qa v k) d (l + 1))) (B || (qb v k l || anyb (qb v k) d (l + 1)))) ν ∧ MV v ν ∧ KV 1 v ν ∧ fM μ ν := fun h1 h2 => next A B μ (by rw [h1, h2, Bool.false_or, Bool.false_or]) hc hkv fM_rf
    have encT : ∀ B B', enc true B = enc true B' := fun _ _ => rfl
    have load : ∀ b, P3 μ b → ∃ ν, fX5_passesAll n 1 0 b = some ((), ν) ∧ MV v ν ∧ KV 1 v ν ∧ fM μ ν := by
      intro b hb
      obtain ⟨c, q3, u1, u2, u3⟩ := p5_load (n := n) (μ := b) (by omega) hv.1 (w := 1) (by decide) (KV_58 (fun j => by rw [hb.1 58 (by decide) (by decide) (by decide)]) hkv)
      exact ⟨c, q3, u1, KV_58 (fun j => by rw [u2, hb.1 58 (by decide) (by decide) (by decide)]) hkv, fM_tr (fM_P3 hb) (fM_load u3 u2)⟩
    have hi : k / 2 < vN v := by omega
    have hr : k % 2 ≤ 1 := by omega
    rw [fX5_changed_L32, hc.1, show (2 : Int32) * nI (vN v) = nI (2 * vN v) from pk_mul 2 _, if_neg hgo, anyb, anyb]
    simp only [bnd, nI_1, div2 (show k < 2 ^ 31 by omega), rem2 (show k < 2 ^ 31 by omega), div2 (show l < 2 ^ 31 by omega), rem2 (show l < 2 ^ 31 by omega)]
    by_cases elk : l = k
    · subst elk
      have hqb : qb v l l = false := by unfold qb; rw [decide_eq_true rfl]; rfl
      rw [if_pos rfl, if_neg (show ¬ (1 : Int32) = 0 by decide), x5_canBe hv.1 hc hi hr, bd_some]
      cases hcan : can v (l / 2) (l % 2) with
      | false =>
        rw [if_neg (show ¬ false = true by decide), if_pos z0]
        exact skip (by unfold qa q1 ca1; rw [hcan, Bool.false_and, Bool.and_false]) hqb
      | true =>
        rw [if_pos (show true = true from rfl), if_neg z1, x5_canBe hv.1 hc hi hr, bd_some, hcan, if_pos (show true = true from rfl), if_neg z1]
        cases A with
        | true =>
          rw [if_pos (show enc true B = 1 from rfl)]
          exact next true B μ (by rw [Bool.true_or, Bool.true_or]; rfl) hc hkv fM_rf
        | false =>
          have hne1 : ¬ enc false B = 1 := by cases B <;> decide
          obtain ⟨b, q', t1, t2⟩ := x5_change (n := n) hv.1 hv.2 hc hi hr hcan
          obtain ⟨c, q'', u1, u2, u3⟩ := load b t2
          rw [if_neg hne1, q', bd_some, if_neg (show ¬ (1 : Int32) = 0 by decide), p5_never (by omega) (can_ok hv hi hr hcan) t1, bd_some, q'', bd_some, bd_some]
          by_cases h0 : nv (chv v (l / 2) (l % 2)) = 0
          · rw [if_pos h0, if_neg (show ¬ (1 : Int32) = 0 by decide)]
            have hqa : qa v l l = true := by unfold qa q1 ca1 ch1; rw [hcan, decide_eq_true h0, decide_eq_true rfl]; rfl
            exact next true B c (by rw [hqa, Bool.true_or, Bool.false_or]; rfl) u1 u2 u3
          · rw [if_neg h0]
            have hqa : qa v l l = false := by unfold qa q1 ca1 ch1; rw [decide_eq_false h0, Bool.and_false, Bool.and_false]
            exact next false B c (by rw [hqa, hqb, Bool.false_or, Bool.false_or, Bool.false_or]) u1 u2 u3
    · have hqa : qa v k l = false := by unfold qa; rw [decide_eq_false elk]; rfl
      rw [if_neg (show ¬ nI l = nI k by rw [nI_eq (by omega) (by omega)]; exact elk), if_pos trivial]
      by_cases est : l / 2 = k / 2
      · rw [if_pos (show nI (l / 2) = nI (k / 2) by rw [est])]
        exact skip hqa (by unfold qb; rw [decide_eq_true est]; rfl)
      · have hl2 : l / 2 < vN v := by omega
        have hlr : l % 2 ≤ 1 := by omega
        rw [if_neg (show ¬ nI (l / 2) = nI (k / 2) by rw [nI_eq (by omega) (by omega)]; exact est), x5_canBe hv.1 hc hi hr, bd_some]
        cases hcan : can v (k / 2) (k % 2) with
        | false =>
          rw [if_neg (show ¬ false = true by decide), if_pos z0]
          exact skip hqa (by unfold qb q2 ca1; rw [hcan, Bool.false_and, Bool.and_false])
        | true =>
          rw [if_pos (show true = true from rfl), if_neg z1, x5_canBe hv.1 hc hl2 hlr, bd_some]
          cases hcan2 : can v (l / 2) (l % 2) with
          | false =>
            rw [if_neg (show ¬ false = true by decide), if_pos z0]
            exact skip hqa (by unfold qb q2 ca1; rw [hcan2, Bool.false_and, Bool.and_false, Bool.and_false])
          | true =>
            rw [if_pos (show true = true from rfl), if_neg z1]
            cases A with
            | true =>
              rw [if_pos (show enc true B = 1 from rfl)]
              exact next true B μ (by rw [Bool.true_or, Bool.true_or]; rfl) hc hkv fM_rf
            | false =>
              have hne1 : ¬ enc false B = 1 := by cases B <;> decide
              obtain ⟨b, q', t1, t2⟩ := x5_change (n := n) hv.1 hv.2 hc hi hr hcan
              have hcan3 : can (chv v (k / 2) (k % 2)) (l / 2) (l % 2) = true := by
                have := ca_ch (v := v) est
                unfold ch1 at this
                rw [this]; exact hcan2
              have hchange := of_decide_eq_true hcan2
              obtain ⟨b', q3, t3, t4⟩ := p5_change (n := n) (v := chv v (k / 2) (k % 2)) (can_ok hv hi hr hcan) t1 (i := l / 2) (is := l % 2) hl2 (fun _ => by rw [chv_sz est]; exact hv.2 _ hl2) (fun _ => ⟨by omega, by rw [chv_sz est]; omega⟩)
              obtain ⟨c, q'', u1, u2, u3⟩ := load b' (P3_tr t2 t4)
              rw [if_neg hne1, q', bd_some, if_pos trivial, q3, bd_some, p5_never (by omega) (ch2_ok hv hk (by omega) est hcan hcan2) t3, bd_some, q'', bd_some, bd_some]
              by_cases h0 : nv (ch1 (ch1 v k) l) = 0
              · rw [if_pos h0, if_pos trivial]
                have hqb : qb v k l = true := by unfold qb q2; rw [show ca1 v k = true from hcan, show ca1 v l = true from hcan2, decide_eq_true h0, decide_eq_false est]; rfl
                exact next false true c (by rw [hqa, hqb, Bool.false_or, Bool.false_or, Bool.true_or, Bool.or_true]) u1 u2 u3
              · rw [if_neg h0]
                have hqb : qb v k l = false := by unfold qb q2; rw [decide_eq_false h0, Bool.and_false, Bool.and_false, Bool.and_false]
                exact next false B c (by rw [hqa, hqb, Bool.false_or, Bool.false_or, Bool.false_or]) u1 u2 u3
theorem m_outer (hn : 400 ≤ n) (hv : V9 v) : ∀ (d k F : Nat) (A B : Bool) (μ : Mem), k + d = 2 * vN v → d + 1 ≤ F → MV v μ → KV 1 v μ → Ok (enc (A || anyb (fun k => anyb (qa v k) (2 * vN v - k) k) d k) (B || anyb (fun k => anyb (qb v k) (2 * vN v - k) k) d k)) (fun ν => MV v ν ∧ fM μ ν) (fX5_changed_L20 n F (enc A B) (nI k) μ)
  | 0, k, F, A, B, μ, hd, hF, hc, hkv => by
    have h8 := hv.1.1
    obtain ⟨F, rfl⟩ : ∃ G, F = G + 1 := ⟨F - 1, by omega⟩
    rw [fX5_changed_L20, hc.1, lit_2, pk_mul, if_pos (nI_le (by omega) (by omega)), anyb, anyb, Bool.or_false, Bool.or_false]
    exact ⟨μ, rfl, hc, fM_rf⟩
  | d + 1, k, F, A, B, μ, hd, hF, hc, hkv => by
    have h8 := hv.1.1
    obtain ⟨F, rfl⟩ : ∃ G, F = G + 1 := ⟨F - 1, by omega⟩
    have hgo : ¬ nI (2 * vN v) ≤ nI k := by rw [nI_leI (by omega) (by omega)]; omega
    rw [fX5_changed_L20, hc.1, show (2 : Int32) * nI (vN v) = nI (2 * vN v) from pk_mul 2 _, if_neg hgo, anyb, anyb]
    simp only [bnd, nI_1]
    obtain ⟨ν, e1, e2, e3, e4⟩ := m_inner (n := n) hn hv (k := k) (by omega) (K := fun x35 m36 => fX5_changed_L20 n F x35 (nI (k + 1)) m36) (2 * vN v - k) k n A B μ (by omega) (Nat.le_refl _) (by omega) hc hkv
    rw [e1]
    obtain ⟨ζ, f1, f2, f3⟩ := m_outer hn hv d (k + 1) F (A || anyb (qa v k) (2 * vN v - k) k) (B || anyb (qb v k) (2 * vN v - k) k) ν (by omega) (by omega) e2 e3
    rw [← Bool.or_assoc, ← Bool.or_assoc]
    exact ⟨ζ, f1, f2, fM_tr e4 f3⟩
end CG
theorem tw_changed {n : Nat} {s : Zs} {μ μ' : Mem} (hn : 400 ≤ n) (hs : SOk s) (hc : CI s μ) (hm : MI s μ') : D μ μ' (fX4_changed n μ) (fX5_changed n μ') := by
  have h8 := hs.1.1.1
  unfold fX4_changed fX5_changed
  obtain ⟨ν, q, w⟩ := x4_neverIn hn hs.1.1 (k := 2) (by decide) hc.1
  have f1 : fC μ ν := fC_net w (by decide) (by decide)
  rw [q, bd_some, p5_never (by omega) hs.1.1 hm.1, bd_some]
  by_cases h0 : nv (zv s) = 0
  · rw [if_pos h0, if_pos h0]
    exact D_same hs hc hm _ ⟨ν, rfl, f1⟩ ⟨μ', rfl, hm.1, fM_rf⟩
  · rw [if_neg h0, if_neg h0]
    obtain ⟨a, r1, s1, s2, s3, s4⟩ := p5_save (n := n) (by omega) hs.1.1 hm.1 (w := 1) (by decide)
    have r1 : fX5_passesAll n 1 1 μ' = _ := r1
    obtain ⟨b, r2, t1, t2⟩ := m_outer (n := n) hn hs.1 (2 * vN (zv s)) 0 n false false a (by omega) (by omega) s1 s2
    have r2 : fX5_changed_L20 n n (-9) 0 a = _ := r2
    obtain ⟨x, p1, g1⟩ := c_one (n := n) hn hs.1 (2 * vN (zv s)) 0 n ν (by omega) (by omega) (CI_fC hs f1 hc).1
    have p1 : fX4_someChangeJoinsAll n ν = _ := p1
    rw [Bool.false_or, Bool.false_or, enc_eq] at r2
    have hM : MV (zv s) b ∧ fM μ' b := ⟨t1, fM_tr (fM_save s4 s3) t2⟩
    rw [r1, bd_some, r2, p1, bd_some]
    have f2 := fC_tr f1 g1
    by_cases hA : anyb (q1 (zv s)) (2 * vN (zv s)) 0 = true
    · rw [if_pos hA, if_neg z1, hA]
      exact D_same hs hc hm _ ⟨x, rfl, f2⟩ ⟨b, rfl, hM⟩
    · obtain ⟨y, p2, g2⟩ := c_pairs (n := n) hn hs.1 (2 * vN (zv s)) 0 n x (by omega) (by omega) (CI_fC hs f2 hc).1
      have p2 : fX4_someTwoChangesJoinAll n x = _ := p2
      have f3 := fC_tr f2 g2
      rw [if_neg hA, if_pos z0, p2, bd_some, Bool.eq_false_iff.mpr hA]
      by_cases hB : anyb (qp (zv s)) (2 * vN (zv s)) 0 = true
      · rw [if_pos hB, if_neg z1, hB]
        exact D_same hs hc hm _ ⟨y, rfl, f3⟩ ⟨b, rfl, hM⟩
      · rw [if_neg hB, if_pos z0, Bool.eq_false_iff.mpr hB]
        exact D_same hs hc hm _ ⟨y, rfl, f3⟩ ⟨b, rfl, hM⟩
