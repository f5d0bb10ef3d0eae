/-! the class: how far it is, the least thinkable minute, QUICKEST -/
def SF (σ τ : Sg) : Prop := ∀ k, k ≠ 4 → (k < 19 ∨ 25 < k) → k ≠ 27 → τ k = σ k
theorem SF.rf (σ : Sg) : SF σ σ := fun _ _ _ _ => rfl
theorem SF.tr {σ τ υ : Sg} (h : SF σ τ) (g : SF τ υ) : SF σ υ := fun k a b c => (g k a b c).trans (h k a b c)
theorem SF.rc {σ τ : Sg} {a : AT} (f : SF σ τ) (h : RC σ a) : RC τ a := h.keep (by rw [f 1 (by decide) (by decide) (by decide)]) (by rw [f 1 (by decide) (by decide) (by decide)]) (by rw [f 2 (by decide) (by decide) (by decide)]) (f 6 (by decide) (by decide) (by decide)) (f 7 (by decide) (by decide) (by decide)) (f 8 (by decide) (by decide) (by decide)) (f 9 (by decide) (by decide) (by decide)) (f 13 (by decide) (by decide) (by decide))
theorem SF.fc {σ τ : Sg} (f : SF σ τ) : FC σ τ := fun k hk => f k (by omega) (by omega) (by omega)
theorem SF.tc {σ τ : Sg} (f : SF σ τ) : TC σ τ := ⟨by rw [f 3 (by decide) (by decide) (by decide)], by rw [f 3 (by decide) (by decide) (by decide)], f 16 (by decide) (by decide) (by decide)⟩
theorem UF.sf {σ τ : Sg} (f : UF σ τ) : SF σ τ := fun k a b _ => f k a b
def dd (τ : Sg) (p : Nat) : Nat := (τ 27 p).toNatClampNeg
def DI (a : AT) (σ τ : Sg) : Prop := (∀ k, k ≠ 27 → τ k = σ k) ∧ (∀ p, p < aNP a → τ 27 p = nI (dd τ p) ∧ dd τ p ≤ 41 ∧ (0 < aP a p 1 → dd τ p = 0))
/-- those that stay as they are -/
def STL (a : AT) (d : Nat → Nat) (A : Nat → Bool) : Prop := (∀ v u, v < aNP a → u < aNP a → A v = true → A u = false → d v ≤ d u) ∧ (∀ y, y < 2 * aNR a → 0 < wL a y → A (wE a y) = true → d (wS a y) ≤ wM a y + d (wE a y))
theorem s_measure_58 {a : AT} {σ : Sg} {A : Nat → Bool} {h : Nat → Nat} {vs : Nat} {x1 : Int32} {Q : Sg → Prop} {K : Int32 → Sg → Prop} (hO : OKN a) (hC : RC σ a) (hvs : vs < aNP a) (hvA : A vs = false) (h3 : ∀ v, v < aNP a → A v = true → h v ≤ h vs)
    (hK : ∀ τ, DI a σ τ → STL a (dd τ) (fun v => A v || decide (v = vs)) → K (x1 + 1) τ) :
    ∀ r y, y + r = 2 * aNR a → ∀ τ, DI a σ τ → (∀ v, v < aNP a → (A v = true ∨ v = vs) → dd τ v = h v) → (∀ u, u < aNP a → A u = false → h vs ≤ dd τ u) → (∀ y, y < 2 * aNR a → 0 < wL a y → A (wE a y) = true → dd τ (wS a y) ≤ wM a y + dd τ (wE a y)) →
      (∀ y', y' < y → 0 < wL a y' → wE a y' = vs → dd τ (wS a y') ≤ wM a y' + h vs) → wp_X0_measureRoads_58 Q K (r + 1) x1 (nI y) τ := by
  have h8 := hO.1
  have h12 := hO.2.1
  intro r
  induction r with
  | zero =>
    intro y hy τ hI i1 i2 i4 i5
    have : y = 2 * aNR a := by omega
    subst this
    rw [wp_X0_measureRoads_58, hI.1 1 (by decide), hC.2.1, e_2]
    refine ⟨fun _ x1' e1 => ?_, fun z => absurd (nI_le (Nat.le_refl _) (by omega)) z⟩
    subst e1
    refine hK τ hI ⟨fun v u hv hu a1 a2 => ?_, fun y hy hl a1 => ?_⟩
    · simp at a1 a2
      have e1 := i1 v hv a1
      have e2 := i2 u hu a2.1
      rcases a1 with a1 | a1
      · have := h3 v hv a1; omega
      · subst a1; omega
    · simp at a1
      rcases a1 with a1 | a1
      · exact i4 y hy hl a1
      · have := i5 y hy hl a1
        rw [a1, i1 vs hvs (Or.inr rfl)]
        exact this
  | succ r ih =>
    intro y hy τ hI i1 i2 i4 i5
    have hy2 : y < 2 * aNR a := by omega
    obtain ⟨w1, w2, w3, w4, w5⟩ := hO.way hy2
    obtain ⟨c1, c2, c3, c4⟩ := hC.way hy2
    obtain ⟨d1, d2, d3⟩ := hI.2 _ w1
    obtain ⟨g1, g2, g3⟩ := hI.2 _ w2
    have ed : nI y / (2 : Int32) = nI (y / 2) := pk_div (d := 2) (by omega) (by decide) (by decide)
    have cpr : (nI (pr y)).toNatClampNeg = pr y := nI_clamp (by unfold pr; split <;> omega)
    rw [wp_X0_measureRoads_58, hI.1 1 (by decide), hC.2.1, e_2, hI.1 6 (by decide), hI.1 7 (by decide), hI.1 8 (by decide), ed, e_xor (by omega), cpr, nI_clamp (n := y) (by omega), nI_clamp (n := y / 2) (by omega), c1, c2, c3, c4, nI_clamp (n := wE a y) (by omega), g1, nI_add]
    have next : (0 < wL a y → wE a y = vs → dd τ (wS a y) ≤ wM a y + h vs) → wp_X0_measureRoads_142 Q K (fun z1 z2 σ => wp_X0_measureRoads_58 Q K (r + 1) z1 z2 σ) x1 (nI y) τ := by
      intro hn x2 e2
      rw [nI_1] at e2
      subst e2
      refine ih (y + 1) (by omega) τ hI i1 i2 i4 (fun y' h1 h2 h3 => ?_)
      by_cases z : y' = y
      · subst z; exact hn h2 h3
      · exact i5 y' (by omega) h2 h3
    refine ⟨fun z => absurd z (nI_ge (by omega) (by omega)), fun _ => ⟨vp_in_nI (by omega) (by decide), fun x3 e3 => ⟨vp_in_nI (by omega) (by decide), vp_in_nI (by unfold pr; split <;> omega) (by decide), vp_in_nI (by omega) (by decide), fun x4 e4 => ⟨vp_in_nI (by omega) (by decide), ?_⟩⟩⟩⟩
    subst e3
    subst e4
    rw [nI_clamp (n := wS a y) (by omega), d1]
    refine pk_le (wL a y) 0 (fun hl => next (fun z => by omega)) (fun hl => ⟨vp_in_nI (by omega) (by decide), ?_⟩) rfl rfl (by omega) (by omega)
    refine pk_le (dd τ (wS a y)) (wM a y + dd τ (wE a y)) (fun hle => next (fun _ z => ?_)) (fun hgt => ⟨vp_in_nI (by omega) (by decide), fun σ10 e10 => ?_⟩) rfl rfl (by omega) (by omega)
    · rw [z, i1 vs hvs (Or.inr rfl)] at hle; exact hle
    · have nAe : A (wE a y) = false := by
        cases z : A (wE a y)
        · rfl
        · have := i4 y hy2 hl z; omega
      have lo := i2 _ w2 nAe
      have nAs : A (wS a y) = false := by
        cases z : A (wS a y)
        · rfl
        · have e1 := i1 _ w1 (Or.inl z)
          have e2 := h3 _ w1 z
          omega
      have nvs : wS a y ≠ vs := by
        intro z
        have := i1 _ w1 (Or.inr z)
        rw [z] at this
        rw [z] at hgt
        omega
      have e27 : ∀ p, σ10 27 p = if p = wS a y then nI (wM a y + dd τ (wE a y)) else τ 27 p := by
        intro p
        rw [e10, put_at]
        simp
      have edd : ∀ p, dd σ10 p = if p = wS a y then wM a y + dd τ (wE a y) else dd τ p := by
        intro p
        unfold dd
        rw [e27]
        split
        · rw [nI_clamp (by unfold dd at hgt d2; omega)]; rfl
        · rfl
      have mono : ∀ p, dd σ10 p ≤ dd τ p := by
        intro p
        rw [edd]
        split
        · rename_i z; rw [z]; omega
        · exact Nat.le_refl _
      have hI' : DI a σ σ10 := by
        refine ⟨fun k hk => by rw [e10, put_o hk, hI.1 k hk], fun p hp => ?_⟩
        rw [edd, e27]
        obtain ⟨j1, j2, j3⟩ := hI.2 p hp
        by_cases z : p = wS a y
        · rw [if_pos z, if_pos z]
          refine ⟨rfl, by omega, fun q => ?_⟩
          subst z
          have := d3 q
          omega
        · rw [if_neg z, if_neg z]; exact ⟨j1, j2, j3⟩
      intro x2 e2
      rw [nI_1] at e2
      subst e2
      refine ih (y + 1) (by omega) σ10 hI' (fun v hv hA => ?_) (fun u hu hA => ?_) (fun y' hy' hl' hA => ?_) (fun y' h1 h2 h4 => ?_)
      · rw [edd, if_neg]
        · exact i1 v hv hA
        · intro z
          subst z
          rcases hA with hA | hA
          · rw [nAs] at hA; cases hA
          · exact nvs hA
      · rw [edd]
        split
        · omega
        · exact i2 u hu hA
      · have e1 : dd σ10 (wE a y') = dd τ (wE a y') := by
          rw [edd, if_neg]
          intro z
          rw [z, nAs] at hA; cases hA
        rw [e1]
        exact Nat.le_trans (mono _) (i4 y' hy' hl' hA)
      · by_cases z : y' = y
        · subst z
          rw [edd, if_pos rfl, h4, i1 vs hvs (Or.inr rfl)]
          exact Nat.le_refl _
        · exact Nat.le_trans (mono _) (i5 y' (by omega) h2 h4)
theorem s_measure_45 {a : AT} {σ : Sg} {Q : Sg → Prop} (hO : OKN a) (hC : RC σ a) (hQ : ∀ τ, DI a σ τ → (∀ y, y < 2 * aNR a → 0 < wL a y → dd τ (wS a y) ≤ wM a y + dd τ (wE a y)) → Q τ) :
    ∀ r k, k + r = aNP a → 1 ≤ k → ∀ τ A, DI a σ τ → STL a (dd τ) A → sm (aNP a) (fun v => if A v then 0 else 1) = (aNP a : Int) - (k - 1 : Nat) → wp_X0_measureRoads_45 Q (r + 1) (nI k) τ := by
  have h8 := hO.1
  have h12 := hO.2.1
  intro r
  induction r with
  | zero =>
    intro k hk hk1 τ A hI hS hc
    have : k = aNP a := by omega
    subst this
    rw [wp_X0_measureRoads_45, hI.1 1 (by decide), hC.1]
    refine ⟨fun _ => hQ τ hI (fun y hy hl => ?_), fun z => absurd (nI_le (Nat.le_refl _) (by omega)) z⟩
    obtain ⟨w1, w2, w3, w4, w5⟩ := hO.way hy
    cases zE : A (wE a y)
    · cases zS : A (wS a y)
      · by_cases e : wS a y = wE a y
        · rw [e]; omega
        · exfalso
          have nn1 : ∀ i, i < aNP a → (0 : Int) ≤ (if A i then 0 else 1) := fun i _ => by split <;> omega
          have e2 := sm_chg (n := aNP a) (k := wS a y) (f := fun v => if A v then (0 : Int) else 1) (g := fun v => if A v || decide (v = wS a y) then 0 else 1) w1 (fun i hi hne => by simp [hne])
          have e3 := sm_mem (n := aNP a) (k := wE a y) (f := fun v => if A v || decide (v = wS a y) then (0 : Int) else 1) (fun i _ => by split <;> omega) w2
          simp [zS, zE, fun z => e (Eq.symm z)] at e2 e3
          omega
      · have := hS.1 _ _ w1 w2 zS zE
        omega
    · exact hS.2 y hy hl zE
  | succ r ih =>
    intro k hk hk1 τ A hI hS hc
    rw [wp_X0_measureRoads_45, hI.1 1 (by decide), hC.1]
    refine ⟨fun z => absurd z (nI_ge (by omega) (by omega)), fun _ => ⟨2 * aNR a + 1, ?_⟩⟩
    have ex : ∃ D u, u < aNP a ∧ A u = false ∧ dd τ u = D := by
      by_cases z : ∃ u, u < aNP a ∧ A u = false
      · obtain ⟨u, u1, u2⟩ := z
        exact ⟨_, u, u1, u2, rfl⟩
      · exfalso
        have := sm_zero (n := aNP a) (f := fun v => if A v then (0 : Int) else 1) (fun i hi => by
          cases q : A i
          · exact absurd ⟨i, hi, q⟩ z
          · simp)
        omega
    obtain ⟨D, ⟨vs, v1, v2, v3⟩, hmin⟩ := pk_least (fun D => ∃ u, u < aNP a ∧ A u = false ∧ dd τ u = D) ex
    refine s_measure_58 (A := A) (h := dd τ) (vs := vs) hO hC v1 v2 (fun v hv hA => hS.1 v vs hv v1 hA v2) (fun υ hI' hS' => ?_) (2 * aNR a) 0 (by omega) τ hI (fun _ _ _ => rfl) (fun u hu hA => ?_) hS.2 (fun y' h1 => by omega)
    · rw [nI_1]
      refine ih (k + 1) (by omega) (by omega) υ _ hI' hS' ?_
      have e2 := sm_chg (n := aNP a) (k := vs) (f := fun v => if A v then (0 : Int) else 1) (g := fun v => if (A v || decide (v = vs)) = true then 0 else 1) v1 (fun i hi hne => by simp [hne])
      simp only [v2] at e2
      simp at e2 ⊢
      omega
    · rcases Nat.lt_or_ge (dd τ u) (dd τ vs) with z | z
      · exact absurd ⟨u, hu, hA, rfl⟩ (hmin _ (by omega))
      · exact z
theorem s_measureRoads {a : AT} {σ : Sg} {Q : Sg → Prop} (hO : OKN a) (hC : RC σ a) (hQ : ∀ τ, DI a σ τ → (∀ y, y < 2 * aNR a → 0 < wL a y → dd τ (wS a y) ≤ wM a y + dd τ (wE a y)) → Q τ) : wp_X0_measureRoads σ Q := by
  have h8 := hO.1
  have h12 := hO.2.1
  have key : ∀ r i, i + r = aNP a → ∀ τ, (∀ k, k ≠ 27 → τ k = σ k) → (∀ p, p < i → τ 27 p = nI (dd τ p) ∧ dd τ p ≤ 41 ∧ (0 < aP a p 1 → dd τ p = 0)) → wp_X0_measureRoads_2 Q (r + 1) (nI i) τ := by
    intro r
    induction r with
    | zero =>
      intro i hi τ f hd
      have : i = aNP a := by omega
      subst this
      rw [wp_X0_measureRoads_2, f 1 (by decide), hC.1]
      refine ⟨fun _ => ?_, fun z => absurd (nI_le (Nat.le_refl _) (by omega)) z⟩
      rcases Nat.eq_zero_or_pos (aNP a) with z | z
      · refine ⟨1, ?_⟩
        rw [wp_X0_measureRoads_45, f 1 (by decide), hC.1, z]
        refine ⟨fun _ => hQ τ ⟨f, hd⟩ (fun y hy hl => ?_), fun q => absurd (by decide) q⟩
        have := (hO.way hy).1
        omega
      · refine ⟨aNP a, ?_⟩
        have := s_measure_45 hO hC hQ (aNP a - 1) 1 (by omega) (Nat.le_refl _) τ (fun _ => false) ⟨f, hd⟩ ⟨fun v u _ _ q => (by cases q), fun y _ _ q => (by cases q)⟩ (by
          have : ∀ k, sm k (fun v => if (fun _ => false : Nat → Bool) v then (0 : Int) else 1) = k := by
            intro k
            induction k with
            | zero => rfl
            | succ k ih => rw [sm, ih]; simp
          rw [this]; simp)
        rwa [show aNP a - 1 + 1 = aNP a by omega] at this
    | succ r ih =>
      intro i hi τ f hd
      rw [wp_X0_measureRoads_2, f 1 (by decide), hC.1]
      refine ⟨fun z => absurd z (nI_ge (by omega) (by omega)), fun _ => s_X3_fact (w := 1) (by omega) (by decide) ?_⟩
      rw [f 9 (by decide), hC.2.2.2.1 i (by omega) 1 (by decide)]
      obtain ⟨q0, q1, q2, q3⟩ := hO.2.2.2.1 i (by omega)
      have step : ∀ v : Nat, v ≤ 41 → (0 < aP a i 1 → v = 0) → wp_X0_measureRoads_36 Q (fun z1 σ => wp_X0_measureRoads_2 Q (r + 1) z1 σ) (nI i) (nI i) (nI v) τ := by
        intro v hv hv0
        refine ⟨vp_in_nI (by omega) (by decide), fun σ14 e14 x1 ex => ?_⟩
        rw [nI_clamp (n := i) (by omega)] at e14
        rw [nI_1] at ex
        subst ex
        refine ih (i + 1) (by omega) σ14 (fun k hk => by rw [e14, put_o hk, f k hk]) (fun p hp => ?_)
        by_cases z : p = i
        · subst z
          have e1 : dd σ14 p = v := by unfold dd; rw [e14, put_s, nI_clamp (by omega)]
          rw [e1, e14, put_s]
          exact ⟨rfl, hv, hv0⟩
        · have e1 : dd σ14 p = dd τ p := by unfold dd; rw [e14, put_n z]
          rw [e1, e14, put_n z]
          exact hd p (by omega)
      refine pk_le (aP a i 1) 0 (fun hz => step 41 (by omega) (fun z => by omega)) (fun hz => step 0 (by omega) (fun _ => rfl)) rfl rfl (by omega) (by omega)
  exact ⟨aNP a + 1, key (aNP a) 0 (by omega) σ (fun _ _ => rfl) (fun p hp => by omega)⟩
