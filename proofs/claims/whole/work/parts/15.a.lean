/-! ===== what a run stands at, for class and model ===== -/
abbrev Zs : Type := Vw × Nat × (Nat → Nat) × Nat × (Nat → Nat) × (Nat → Int32) × Option Vw
abbrev zv (s : Zs) : Vw := s.1
abbrev zT (s : Zs) : Nat := s.2.1
abbrev zc (s : Zs) : Nat → Nat := s.2.2.1
abbrev zR (s : Zs) : Nat := s.2.2.2.1
abbrev zg (s : Zs) : Nat → Nat := s.2.2.2.2.1
abbrev zf (s : Zs) : Nat → Int32 := s.2.2.2.2.2.1
abbrev zk (s : Zs) : Option Vw := s.2.2.2.2.2.2
def SOk (s : Zs) : Prop := V9 (zv s) ∧ Lok (zT s) (zc s) ∧ Sok (zR s) (zg s) ∧ ∀ u, (zk s) = some u → V9 u
def CK (o : Option Vw) (μ : Mem) : Prop := match o with | none => μ.1 0 7 = nI 0 | some u => μ.1 0 7 = nI 1 ∧ CV 26 u μ
def MK (o : Option Vw) (μ : Mem) : Prop := match o with | none => μ.1 47 16 = nI 0 | some u => μ.1 47 16 = nI 1 ∧ KV 0 u μ
def CI (s : Zs) (μ : Mem) : Prop := CV 2 (zv s) μ ∧ LC (zT s) (zc s) μ ∧ SC (zR s) (zg s) μ ∧ (∀ i, i < 7 → μ.1 1 i = (zf s) i) ∧ CK (zk s) μ
def MI (s : Zs) (μ : Mem) : Prop := MV (zv s) μ ∧ LM (zT s) (zc s) μ ∧ SM (zR s) (zg s) μ ∧ (∀ i, i < 7 → μ.1 48 i = (zf s) i) ∧ MK (zk s) μ
/-- class and model answer alike -/
def D {ρ : Type} (μ μ' : Mem) (X Y : Option (ρ × Mem)) : Prop := ∃ (r : ρ) (s : Zs), SOk s ∧ Ok r (fun ν => CI s ν ∧ fr 0 47 μ ν) X ∧ Ok r (fun ν => MI s ν ∧ fr 47 62 μ' ν) Y
/-- what the class may change, told stations apart -/
def fC (μ ν : Mem) : Prop := ∀ a, (a < 14 ∨ 26 ≤ a) → (a < 42 ∨ 47 ≤ a) → ν.1 a = μ.1 a ∧ ν.2 a = μ.2 a
theorem fC_rf {μ : Mem} : fC μ μ := fun _ _ _ => ⟨rfl, rfl⟩
theorem fC_tr {μ ν ξ : Mem} (h1 : fC μ ν) (h2 : fC ν ξ) : fC μ ξ := fun a x y => ⟨(h2 a x y).1.trans (h1 a x y).1, (h2 a x y).2.trans (h1 a x y).2⟩
theorem fC_net {μ ν : Mem} {lo hi : Nat} (h : fr lo hi μ ν) (h1 : 42 ≤ lo) (h2 : hi ≤ 47) : fC μ ν := fun a x y => h a (by omega)
theorem fC_try {μ ν : Mem} {lo hi : Nat} (h : fr lo hi μ ν) (h1 : 14 ≤ lo) (h2 : hi ≤ 26) : fC μ ν := fun a x y => h a (by omega)
theorem fC_fr {μ ν : Mem} (h : fC μ ν) : fr 0 47 μ ν := fun a x => h a (by omega) (by omega)
theorem CV_eq {k : Nat} {v : Vw} {μ ν : Mem} (h8 : vN v ≤ 8) (h : ∀ a, k ≤ a → a < k + 12 → ν.1 a = μ.1 a) (hc : CV k v μ) : CV k v ν := by
  obtain ⟨a, b, c⟩ := hc
  refine ⟨by rw [h k (by omega) (by omega)]; exact a, by rw [h k (by omega) (by omega)]; exact b, fun i hi => ?_⟩
  rw [h (k + 1) (by omega) (by omega), h (k + 2) (by omega) (by omega), h (k + 3 + 1 + i) (by omega) (by omega)]
  exact c i hi
theorem CK_eq {o : Option Vw} {μ ν : Mem} (ho : ∀ u, o = some u → V9 u) (h : ∀ a, (a = 0 ∨ (26 ≤ a ∧ a < 38)) → ν.1 a = μ.1 a) (hc : CK o μ) : CK o ν := by
  cases o with
  | none =>
    have hc : μ.1 0 7 = nI 0 := hc
    show ν.1 0 7 = nI 0
    rw [h 0 (Or.inl rfl)]; exact hc
  | some u =>
    obtain ⟨a, b⟩ := hc
    have hu := ho u rfl
    exact ⟨by rw [h 0 (Or.inl rfl)]; exact a, CV_eq hu.1.1 (fun x x1 x2 => h x (by omega)) b⟩
theorem CI_fC {s : Zs} {μ ν : Mem} (hs : SOk s) (h : fC μ ν) (hc : CI s μ) : CI s ν := by
  obtain ⟨a, b, c, d, e⟩ := hc
  refine ⟨CV_eq hs.1.1.1 (fun x x1 x2 => (h x (by omega) (by omega)).1) a, ⟨by rw [(h 38 (by decide) (by decide)).1]; exact b.1, fun i hi => by rw [(h 39 (by decide) (by decide)).1]; exact b.2 i hi⟩, ⟨by rw [(h 40 (by decide) (by decide)).1]; exact c.1, fun i hi => by rw [(h 41 (by decide) (by decide)).1]; exact c.2 i hi⟩, fun i hi => by rw [(h 1 (by decide) (by decide)).1]; exact d i hi, CK_eq hs.2.2.2 (fun x hx => (h x (by omega) (by omega)).1) e⟩
/-- what the model may change, its stations apart -/
def fM (μ ν : Mem) : Prop := (∀ a, a < 47 ∨ a = 48 ∨ a = 52 ∨ 61 ≤ a → ν.1 a = μ.1 a) ∧ (∀ a, a < 47 ∨ 62 ≤ a → ν.2 a = μ.2 a) ∧ (∀ f, f ≠ 4 → f ≠ 5 → f ≠ 13 → f ≠ 14 → f ≠ 17 → f ≠ 18 → ν.1 47 f = μ.1 47 f) ∧ (∀ u, Vok u → KV 0 u μ → KV 0 u ν)
theorem fM_rf {μ : Mem} : fM μ μ := ⟨fun _ _ => rfl, fun _ _ => rfl, fun _ _ _ _ _ _ _ => rfl, fun _ _ h => h⟩
theorem fM_tr {μ ν ξ : Mem} (h1 : fM μ ν) (h2 : fM ν ξ) : fM μ ξ := ⟨fun a x => (h2.1 a x).trans (h1.1 a x), fun a x => (h2.2.1 a x).trans (h1.2.1 a x), fun f a b c d e g => (h2.2.2.1 f a b c d e g).trans (h1.2.2.1 f a b c d e g), fun u hu hk => h2.2.2.2 u hu (h1.2.2.2 u hu hk)⟩
theorem fM_fr {μ ν : Mem} (h : fM μ ν) : fr 47 62 μ ν := fun a x => ⟨h.1 a (by omega), h.2.1 a (by omega)⟩
theorem fM_59 {μ ν : Mem} {lo hi : Nat} (h : fr lo hi μ ν) (h1 : 59 ≤ lo) (h2 : hi ≤ 61) : fM μ ν := ⟨fun a x => (h a (by omega)).1, fun a x => (h a (by omega)).2, fun f _ _ _ _ _ _ => by rw [(h 47 (by omega)).1], fun u _ hk => KV_58 (fun j => by rw [(h 58 (by omega)).1]) hk⟩
theorem fM_P3 {μ ν : Mem} (h : P3 μ ν) : fM μ ν := ⟨fun a x => h.1 a (by omega) (by omega) (by omega), fun a x => by rw [h.2], fun f _ _ _ _ _ _ => by rw [h.1 47 (by decide) (by decide) (by decide)], fun u _ hk => KV_58 (fun j => by rw [h.1 58 (by decide) (by decide) (by decide)]) hk⟩
theorem fM_PF {μ ν : Mem} (h : PF μ ν) (hk : ∀ u, Vok u → KV 0 u μ → KV 0 u ν) : fM μ ν := ⟨fun a x => h.1 a (by omega) (by omega) (by omega) (by omega) (by omega), fun a x => by rw [h.2.1], fun f a b _ _ e g => h.2.2 f a b e g, hk⟩
theorem MI_fM {s : Zs} {μ ν : Mem} (hs : SOk s) (h : fM μ ν) (hv : MV (zv s) ν) (hc : MI s μ) : MI s ν := by
  obtain ⟨a, b, c, d, e⟩ := hc
  refine ⟨hv, ⟨by rw [h.2.2.1 12 (by decide) (by decide) (by decide) (by decide) (by decide) (by decide)]; exact b.1, fun i hi => by rw [h.1 52 (by decide)]; exact b.2 i hi⟩, ⟨by rw [h.2.2.1 22 (by decide) (by decide) (by decide) (by decide) (by decide) (by decide)]; exact c.1, fun i hi => by rw [h.1 61 (by decide)]; exact c.2 i hi⟩, fun i hi => by rw [h.1 48 (by decide)]; exact d i hi, ?_⟩
  have h16 := h.2.2.1 16 (by decide) (by decide) (by decide) (by decide) (by decide) (by decide)
  have hu := hs.2.2.2
  cases e' : (zk s) with
  | none =>
    rw [e'] at e
    have e : μ.1 47 16 = nI 0 := e
    show ν.1 47 16 = nI 0
    rw [h16]; exact e
  | some u =>
    rw [e'] at e
    obtain ⟨x, y⟩ := e
    exact ⟨by rw [h16]; exact x, h.2.2.2 u (hu u e').1 y⟩
theorem D_same {ρ : Type} {s : Zs} {μ μ' : Mem} {X Y : Option (ρ × Mem)} (hs : SOk s) (hc : CI s μ) (hm : MI s μ') (r : ρ) (h1 : Ok r (fun ν => fC μ ν) X) (h2 : Ok r (fun ν => MV (zv s) ν ∧ fM μ' ν) Y) : D μ μ' X Y := by
  obtain ⟨ν, q1, g1⟩ := h1
  obtain ⟨ξ, q2, g2, g3⟩ := h2
  exact ⟨r, s, hs, ⟨ν, q1, CI_fC hs g1 hc, fC_fr g1⟩, ⟨ξ, q2, MI_fM hs g3 g2 hm, fM_fr g3⟩⟩
theorem D_pure {ρ : Type} {s : Zs} {μ μ' : Mem} (hs : SOk s) (hc : CI s μ) (hm : MI s μ') (r : ρ) : D μ μ' (some (r, μ)) (some (r, μ')) := D_same hs hc hm r ⟨μ, rfl, fC_rf⟩ ⟨μ', rfl, hm.1, fM_rf⟩
/-! refusals -/
def rfu (s : Zs) (c : Nat) : Zs := (zv s, zT s, zc s, zR s, zg s, fun i => if i = c then zf s c + 1 else zf s i, zk s)
theorem neg_tab : ∀ c, c < 7 → 1 ≤ c → (- -(nI c) = nI c) ∧ ¬ nI c < 0 ∧ ¬ 7 ≤ nI c := by decide +kernel
theorem x4_refuse {n c : Nat} {μ : Mem} (h : 1 ≤ c ∧ c < 7) : fX4_refuse n (-(nI c)) μ = some (-(nI c), setI μ 1 c (μ.1 1 c + 1)) := by
  obtain ⟨a, b, d⟩ := neg_tab c h.2 h.1
  unfold fX4_refuse
  rw [bnd, a, if_neg b, if_neg d, inb_nI h.2 (by decide), gd_true, gd_true, bnd, nI_clamp (by omega)]
theorem x5_no {n c : Nat} {μ : Mem} (h : 1 ≤ c ∧ c < 7) : fX5_no n (-(nI c)) μ = some (-(nI c), setI μ 48 c (μ.1 48 c + 1)) := by
  obtain ⟨a, b, d⟩ := neg_tab c h.2 h.1
  unfold fX5_no
  rw [a, inb_nI h.2 (by decide), gd_true, gd_true, bnd, nI_clamp (by omega)]
theorem x5_lower {n c : Nat} {μ : Mem} (h : 1 ≤ c ∧ c < 7) : fX5_lower n (-(nI c)) μ = some (1000000000 - (-(nI c)), setI μ 48 c (μ.1 48 c + 1)) := by
  obtain ⟨a, b, d⟩ := neg_tab c h.2 h.1
  unfold fX5_lower
  rw [a, inb_nI h.2 (by decide), gd_true, gd_true, bnd, nI_clamp (by omega)]
theorem x5_lowest {n c : Nat} {μ : Mem} (h : 1 ≤ c ∧ c < 7) : fX5_lowest n (-(nI c)) μ = some (4000000000000000000 - (-(nI c) : Int32).toInt64, setI μ 48 c (μ.1 48 c + 1)) := by
  obtain ⟨a, b, d⟩ := neg_tab c h.2 h.1
  unfold fX5_lowest
  rw [a, inb_nI h.2 (by decide), gd_true, gd_true, bnd, nI_clamp (by omega)]
theorem CI_rfu {s : Zs} {c : Nat} {μ : Mem} (hs : SOk s) (h : c < 7) (hc : CI s μ) : CI (rfu s c) (setI μ 1 c (μ.1 1 c + 1)) := by
  obtain ⟨a, b, cc, d, e⟩ := hc
  refine ⟨CV_eq hs.1.1.1 (fun x x1 x2 => setI1_ne (by omega)) a, ⟨by rw [setI1_ne (by decide)]; exact b.1, fun i hi => by rw [setI1_ne (by decide)]; exact b.2 i hi⟩, ⟨by rw [setI1_ne (by decide)]; exact cc.1, fun i hi => by rw [setI1_ne (by decide)]; exact cc.2 i hi⟩, fun i hi => ?_, CK_eq hs.2.2.2 (fun x hx => setI1_ne (by omega)) e⟩
  show _ = if i = c then (zf s) c + 1 else (zf s) i
  rw [setI1_eq, upd_get, d c h]
  by_cases e : i = c
  · rw [if_pos e, if_pos e]
  · rw [if_neg e, if_neg e]; exact d i hi
theorem MI_rfu {s : Zs} {c : Nat} {μ : Mem} (h : c < 7) (hc : MI s μ) : MI (rfu s c) (setI μ 48 c (μ.1 48 c + 1)) := by
  obtain ⟨a, b, cc, d, e⟩ := hc
  refine ⟨⟨by rw [setI1_ne (by decide)]; exact a.1, by rw [setI1_ne (by decide)]; exact a.2.1, fun i hi => by rw [setI1_ne (by decide), setI1_ne (by decide), setI1_ne (by decide)]; exact a.2.2 i hi⟩, ⟨by rw [setI1_ne (by decide)]; exact b.1, fun i hi => by rw [setI1_ne (by decide)]; exact b.2 i hi⟩, ⟨by rw [setI1_ne (by decide)]; exact cc.1, fun i hi => by rw [setI1_ne (by decide)]; exact cc.2 i hi⟩, fun i hi => ?_, ?_⟩
  · show _ = if i = c then (zf s) c + 1 else (zf s) i
    rw [setI1_eq, upd_get, d c h]
    by_cases e : i = c
    · rw [if_pos e, if_pos e]
    · rw [if_neg e, if_neg e]; exact d i hi
  · show MK (zk s) _
    cases e' : (zk s) with
    | none => rw [e'] at e; exact (show (setI μ 48 c _).1 47 16 = nI 0 by rw [setI1_ne (by decide)]; exact e)
    | some u =>
      rw [e'] at e
      exact ⟨by rw [setI1_ne (by decide)]; exact e.1, KV_58 (fun j => by rw [setI1_ne (by decide)]) e.2⟩
theorem D_ref {s : Zs} {n c : Nat} {μ μ' : Mem} (hs : SOk s) (hc : CI s μ) (hm : MI s μ') (h : 1 ≤ c ∧ c < 7) : D μ μ' (bd (fX4_refuse n (-(nI c)) μ) fun r m => some (r, m)) (bd (fX5_no n (-(nI c)) μ') fun r m => some (r, m)) := by
  rw [x4_refuse h, x5_no h, bd_some, bd_some]
  exact ⟨_, rfu s c, hs, ⟨_, rfl, CI_rfu hs h.2 hc, fr_I (by decide) (by decide)⟩, ⟨_, rfl, MI_rfu h.2 hm, fr_I (by decide) (by decide)⟩⟩
theorem D_refM {s : Zs} {n c : Nat} {μ μ' : Mem} (hs : SOk s) (hc : CI s μ) (hm : MI s μ') (h : 1 ≤ c ∧ c < 7) : D μ μ' (bd (fX4_refuseMore n (-(nI c)) μ) fun r m => some (r, m)) (bd (fX5_lower n (-(nI c)) μ') fun r m => some (r, m)) := by
  unfold fX4_refuseMore
  rw [x4_refuse h, x5_lower h, bd_some, bd_some, bd_some]
  exact ⟨_, rfu s c, hs, ⟨_, rfl, CI_rfu hs h.2 hc, fr_I (by decide) (by decide)⟩, ⟨_, rfl, MI_rfu h.2 hm, fr_I (by decide) (by decide)⟩⟩
theorem D_refL {s : Zs} {n c : Nat} {μ μ' : Mem} (hs : SOk s) (hc : CI s μ) (hm : MI s μ') (h : 1 ≤ c ∧ c < 7) : D μ μ' (bd (fX4_refuseLong n (-(nI c)) μ) fun r m => some (r, m)) (bd (fX5_lowest n (-(nI c)) μ') fun r m => some (r, m)) := by
  unfold fX4_refuseLong
  rw [x4_refuse h, x5_lowest h, bd_some, bd_some, bd_some]
  exact ⟨_, rfu s c, hs, ⟨_, rfl, CI_rfu hs h.2 hc, fr_I (by decide) (by decide)⟩, ⟨_, rfl, MI_rfu h.2 hm, fr_I (by decide) (by decide)⟩⟩
/-- below, within, above -/
theorem tri (a l h : Int32) (lo hi : Nat) (el : l = nI lo) (eh : h = nI hi) (hb : hi < 2 ^ 31) (hlh : lo ≤ hi + 1) (hlo : lo < 2 ^ 31) : (a < l ∧ ¬ l ≤ a) ∨ (∃ j, lo ≤ j ∧ j ≤ hi ∧ a = nI j ∧ l ≤ a ∧ a ≤ h ∧ ¬ a < l ∧ ¬ h < a) ∨ (∃ j, hi < j ∧ j < 2 ^ 31 ∧ a = nI j ∧ l ≤ a ∧ ¬ a ≤ h ∧ ¬ a < l ∧ h < a) := by
  subst el eh
  by_cases h0 : a < nI lo
  · exact Or.inl ⟨h0, Int32.not_le.mpr h0⟩
  · have h1 := Int32.not_lt.mp h0
    have hz : ¬ a < 0 := by
      intro hx
      exact h0 (Int32.lt_of_lt_of_le hx (nI_le (a := 0) (Nat.zero_le _) hlo))
    obtain ⟨j, hj, rfl⟩ := nI_of hz
    have h2 := (nI_leI hlo hj).mp h1
    by_cases h3 : j ≤ hi
    · exact Or.inr (Or.inl ⟨j, h2, h3, rfl, h1, nI_le h3 hb, h0, nI_nlt h3 hb⟩)
    · refine Or.inr (Or.inr ⟨j, by omega, hj, rfl, h1, ?_, h0, nI_lt (by omega) hj⟩)
      rw [nI_leI hj hb]; exact h3
theorem chO {n : Nat} {a : Int32} : ((a = 0 ∨ a = 1) ∧ (∀ μ, fX4_isChoice n a μ = some (nI 1, μ)) ∧ ∀ μ, fX5_isIn n a 0 1 μ = some (nI 1, μ)) ∨ ((¬ a = 0 ∧ ¬ a = 1) ∧ (∀ μ, fX4_isChoice n a μ = some (nI 0, μ)) ∧ ∀ μ, fX5_isIn n a 0 1 μ = some (nI 0, μ)) := by
  unfold fX4_isChoice fX5_isIn
  rcases tri a 0 1 0 1 rfl rfl (by decide) (by decide) (by decide) with ⟨h1, h2⟩ | ⟨j, h1, h2, e, h3, h4, h5, h6⟩ | ⟨j, h1, h2, e, h3, h4, h5, h6⟩
  · have x0 : ¬ a = 0 := fun e => by rw [e] at h1; exact absurd h1 (by decide)
    have x1 : ¬ a = 1 := fun e => by rw [e] at h1; exact absurd h1 (by decide)
    exact Or.inr ⟨⟨x0, x1⟩, fun μ => by rw [if_neg x0, if_neg x1]; rfl, fun μ => by rw [if_pos h1]; rfl⟩
  · refine Or.inl ?_
    have : j = 0 ∨ j = 1 := by omega
    rcases this with rfl | rfl
    · subst e; exact ⟨Or.inl rfl, fun μ => rfl, fun μ => rfl⟩
    · subst e; exact ⟨Or.inr rfl, fun μ => rfl, fun μ => rfl⟩
  · have x0 : ¬ a = 0 := fun e => by rw [e] at h6; exact absurd h6 (by decide)
    have x1 : ¬ a = 1 := fun e => by rw [e] at h6; exact absurd h6 (by decide)
    exact Or.inr ⟨⟨x0, x1⟩, fun μ => by rw [if_neg x0, if_neg x1]; rfl, fun μ => by rw [if_neg h5, if_pos h6]; rfl⟩
/-- a station, or none -/
theorem stO {n : Nat} {s : Zs} (hs : SOk s) (a : Int32) : (∃ i, i < vN (zv s) ∧ a = nI i ∧ (∀ k μ, CV k (zv s) μ → fX3_has n k a μ = some (nI 1, μ)) ∧ ∀ μ, MV (zv s) μ → fX5_isStation n a μ = some (nI 1, μ)) ∨ ((∀ k μ, CV k (zv s) μ → fX3_has n k a μ = some (nI 0, μ)) ∧ ∀ μ, MV (zv s) μ → fX5_isStation n a μ = some (nI 0, μ)) := by
  by_cases h : ∃ i, i < vN (zv s) ∧ a = nI i
  · obtain ⟨i, hi, rfl⟩ := h
    exact Or.inl ⟨i, hi, rfl, fun k μ hc => p3_has_t hs.1.1 hc hi, fun μ hc => p5_is_t hs.1.1 hc hi⟩
  · exact Or.inr ⟨fun k μ hc => p3_has_f hs.1.1 hc h, fun μ hc => p5_is_f hs.1.1 hc h⟩
theorem z0 : nI 0 = 0 := rfl
theorem z1 : ¬ nI 1 = 0 := by decide
