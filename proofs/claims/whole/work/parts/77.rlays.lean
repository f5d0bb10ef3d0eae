/-! the reference lays its net -/
theorem e_nd (m p : Nat) : (18 : Int32) + 8 * nI m + nI p = nI (18 + 8 * m + p) := by
  rw [show (8 : Int32) = nI 8 from rfl, show (18 : Int32) = nI 18 from rfl, pk_mul, nI_add, nI_add]
theorem s_X6_node {σ : Sg} {m p : Nat} {Q : Int32 → Sg → Prop} (h : Q (nI (18 + 8 * m + p)) σ) : wp_X6_node σ (nI p) (nI m) Q := by
  unfold wp_X6_node
  rw [e_nd]
  exact h
theorem s_lays_163 {a : AT} {σ : Sg} {t r E0 : Nat} {cap : (Nat → Nat → Int) → Int} {fl : (Nat → Int) → Int} {Q : Sg → Prop} {K : Int32 → Int32 → Sg → Prop} (hO : OKN a) (ht : t ≤ 40) (hr : r < aNR a) (hE0 : E0 + 82 ≤ 1984) (hN : RN a σ E0 cap fl)
    (hK : ∀ (τ : Sg) (E : Nat), LF σ τ → E ≤ E0 + 82 → RN a τ E (fun g => cap g + sm (t + 1 - aR a r 2) (rR a g r)) fl → K (nI t) (nI (r + 1)) τ) : ∃ n, wp_X6_lays_163 Q K n (nI t) (nI r) 0 σ := by
  have h8 := hO.1
  have h12 := hO.2.1
  obtain ⟨q0, q1, q2, q3, q4, q5⟩ := hO.2.2.2.2 r hr
  have key : ∀ d m, m + d = t + 1 - aR a r 2 → ∀ (τ : Sg) (E : Nat), LF σ τ → E ≤ E0 + 2 * m → RN a τ E (fun g => cap g + sm m (rR a g r)) fl → wp_X6_lays_163 Q K (d + 1) (nI t) (nI r) (nI m) τ := by
    intro d
    induction d with
    | zero =>
      intro m hm τ E f hE hN
      rw [wp_X6_lays_163]
      refine s_X6_ofRoad (w := 2) (by omega) (by decide) ?_
      rw [hN.2.1.2.2.2.2.1 r hr 2 (by decide), nI_add]
      refine ⟨fun _ x2 e2 => ?_, fun z => absurd (nI_lt (by omega) (by omega)) z⟩
      rw [nI_1] at e2
      subst e2
      have : m = t + 1 - aR a r 2 := by omega
      subst this
      exact hK τ E f (by omega) hN
    | succ d ih =>
      intro m hm τ E f hE hN
      rw [wp_X6_lays_163]
      have R : ∀ (υ : Sg) (E : Nat) cap fl, RN a υ E cap fl → ∀ w, w < 5 → υ 31 (35 + 5 * r + w) = nI (aR a r w) := fun υ E cap fl h w hw => h.2.1.2.2.2.2.1 r hr w hw
      refine s_X6_ofRoad (w := 2) (by omega) (by decide) ?_
      rw [R _ _ _ _ hN 2 (by decide), nI_add]
      refine ⟨fun z => absurd z (nI_nlt (by omega) (by omega)), fun _ => ?_⟩
      refine s_X6_ofRoad (w := 0) (by omega) (by decide) ?_
      rw [R _ _ _ _ hN 0 (by decide)]
      refine s_X6_node (s_X6_ofRoad (w := 1) (by omega) (by decide) ?_)
      rw [R _ _ _ _ hN 1 (by decide)]
      refine s_X6_ofRoad (w := 2) (by omega) (by decide) ?_
      rw [R _ _ _ _ hN 2 (by decide), nI_add]
      refine s_X6_node (s_X6_ofRoad (w := 3) (by omega) (by decide) ?_)
      rw [R _ _ _ _ hN 3 (by decide)]
      refine s_joins hN (by omega) (by omega) (by omega) (by omega) (fun τ1 E1 f1 hE1 hN1 => ?_)
      refine s_X6_ofRoad (w := 1) (by omega) (by decide) ?_
      rw [R _ _ _ _ hN1 1 (by decide)]
      refine s_X6_node (s_X6_ofRoad (w := 0) (by omega) (by decide) ?_)
      rw [R _ _ _ _ hN1 0 (by decide)]
      refine s_X6_ofRoad (w := 2) (by omega) (by decide) ?_
      rw [R _ _ _ _ hN1 2 (by decide), nI_add]
      refine s_X6_node (s_X6_ofRoad (w := 4) (by omega) (by decide) ?_)
      rw [R _ _ _ _ hN1 4 (by decide)]
      refine s_joins hN1 (by omega) (by omega) (by omega) (by omega) (fun τ2 E2 f2 hE2 hN2 => ?_)
      intro x3 e3
      rw [nI_1] at e3
      subst e3
      refine ih (m + 1) (by omega) τ2 E2 (f.tr (f1.tr f2)) (by omega) (hN2.cap (fun g => ?_))
      rw [sm]; unfold rR; omega
  exact ⟨_, key (t + 1 - aR a r 2) 0 (by omega) σ E0 (LF.rf σ) (by omega) (hN.cap (fun g => by simp [sm]))⟩
theorem s_lays_153 {a : AT} {σ : Sg} {t E0 : Nat} {cap : (Nat → Nat → Int) → Int} {fl : (Nat → Int) → Int} {Q : Sg → Prop} (hO : OKN a) (ht : t ≤ 40) (hE0 : E0 ≤ 1000) (hN : RN a σ E0 cap fl)
    (hQ : ∀ (τ : Sg) (E : Nat), LF σ τ → RN a τ E (fun g => cap g + sm (aNR a) (fun r => sm (t + 1 - aR a r 2) (rR a g r))) fl → Q τ) : ∃ n, wp_X6_lays_153 Q n (nI t) 0 σ := by
  have h12 := hO.2.1
  have key : ∀ d r, r + d = aNR a → ∀ (τ : Sg) (E : Nat), LF σ τ → E ≤ 1000 + 82 * r → RN a τ E (fun g => cap g + sm r (fun r => sm (t + 1 - aR a r 2) (rR a g r))) fl → wp_X6_lays_153 Q (d + 1) (nI t) (nI r) τ := by
    intro d
    induction d with
    | zero =>
      intro r hr τ E f hE hN
      have : r = aNR a := by omega
      subst this
      rw [wp_X6_lays_153]
      refine s_X6_roads ?_
      rw [hN.2.1.2.1]
      exact ⟨fun _ => hQ τ E f hN, fun z => absurd (nI_le (Nat.le_refl _) (by omega)) z⟩
    | succ d ih =>
      intro r hr τ E f hE hN
      rw [wp_X6_lays_153]
      refine s_X6_roads ?_
      rw [hN.2.1.2.1]
      refine ⟨fun z => absurd z (nI_ge (by omega) (by omega)), fun _ => ?_⟩
      refine s_lays_163 (E0 := E) hO ht (by omega) (by omega) hN (fun τ1 E1 f1 hE1 hN1 => ?_)
      refine ih (r + 1) (by omega) τ1 E1 (f.tr f1) (by omega) (hN1.cap (fun g => ?_))
      rw [sm]; omega
  exact ⟨_, key (aNR a) 0 (by omega) σ E0 (LF.rf σ) (by omega) (hN.cap (fun g => by simp [sm]))⟩
theorem s_lays_68 {a : AT} {σ : Sg} {t p E0 : Nat} {cap : (Nat → Nat → Int) → Int} {fl : (Nat → Int) → Int} {Q : Sg → Prop} {K : Int32 → Int32 → Sg → Prop} (hO : OKN a) (ht : t ≤ 40) (hp : p < aNP a) (hE0 : E0 + 123 ≤ 1984) (hN : RN a σ E0 cap fl)
    (hK : ∀ (τ : Sg) (E : Nat), LF σ τ → E ≤ E0 + 123 → RN a τ E (fun g => cap g + sm (t + 1) (rP a t g p)) fl → K (nI t) (nI (p + 1)) τ) : ∃ n, wp_X6_lays_68 Q K n (nI t) (nI p) 0 σ := by
  have h8 := hO.1
  obtain ⟨q0, q1, q2, q3⟩ := hO.2.2.2.1 p hp
  have key : ∀ d m, m + d = t + 1 → ∀ (τ : Sg) (E : Nat), LF σ τ → E ≤ E0 + 3 * m → RN a τ E (fun g => cap g + sm m (rP a t g p)) fl → wp_X6_lays_68 Q K (d + 1) (nI t) (nI p) (nI m) τ := by
    intro d
    induction d with
    | zero =>
      intro m hm τ E f hE hN
      have : m = t + 1 := by omega
      subst this
      rw [wp_X6_lays_68]
      refine ⟨fun _ x2 e2 => ?_, fun z => absurd (nI_lt (by omega) (by omega)) z⟩
      rw [nI_1] at e2
      subst e2
      exact hK τ E f (by omega) hN
    | succ d ih =>
      intro m hm τ E f hE hN
      rw [wp_X6_lays_68]
      refine ⟨fun z => absurd z (nI_nlt (by omega) (by omega)), fun _ => s_X6_ofPlace (w := 2) (by omega) (by decide) ?_⟩
      rw [hN.2.1.2.2.2.1 p hp 2 (by decide)]
      have fin : ∀ (τ1 : Sg) (E1 : Nat), LF σ τ1 → E1 ≤ E0 + 3 * (m + 1) → RN a τ1 E1 (fun g => cap g + sm (m + 1) (rP a t g p)) fl → wp_X6_lays_139 Q K (fun z1 z2 z3 σ => wp_X6_lays_68 Q K (d + 1) z1 z2 z3 σ) (nI t) (nI p) (nI m) τ1 := by
        intro τ1 E1 f1 hE1 hN1 x3 e3
        rw [nI_1] at e3
        subst e3
        exact ih (m + 1) (by omega) τ1 E1 f1 hE1 hN1
      have mid : ∀ (τ1 : Sg) (E1 : Nat), LF σ τ1 → E1 ≤ E0 + 3 * m + 1 → RN a τ1 E1 (fun g => cap g + sm m (rP a t g p) + (if aP a p 2 ≤ m then 1000000 * g (2 + p) (18 + 8 * m + p) else 0)) fl → wp_X6_lays_97 Q K (fun z1 z2 z3 σ => wp_X6_lays_68 Q K (d + 1) z1 z2 z3 σ) (nI t) (nI p) (nI m) τ1 := by
        intro τ1 E1 f1 hE1 hN1
        unfold wp_X6_lays_97
        refine s_X6_node ?_
        rw [show (10 : Int32) + nI p = nI (10 + p) from nI_add 10 p]
        refine s_joins (c := 1000000) hN1 (by omega) (by omega) (by omega) (by omega) (fun τ2 E2 f2 hE2 hN2 => ?_)
        refine pk_le t m (fun hle => ?_) (fun hgt => ?_) rfl rfl (by omega) (by omega)
        · refine fin τ2 E2 (f1.tr f2) (by omega) (hN2.cap (fun g => ?_))
          rw [sm]; unfold rP; rw [if_neg (show ¬ m < t by omega)]; simp; omega
        · refine s_X6_node ?_
          rw [nI_1]
          refine s_X6_node (s_X6_ofPlace (w := 3) (by omega) (by decide) ?_)
          rw [hN2.2.1.2.2.2.1 p hp 3 (by decide)]
          refine s_joins hN2 (by omega) (by omega) (by omega) (by omega) (fun τ3 E3 f3 hE3 hN3 => ?_)
          refine fin τ3 E3 (f1.tr (f2.tr f3)) (by omega) (hN3.cap (fun g => ?_))
          rw [sm]; unfold rP; rw [if_pos (show m < t by omega)]; simp; omega
      refine pk_lt m (aP a p 2) (fun hlt => ?_) (fun hge => ?_) rfl rfl (by omega) (by omega)
      · refine mid τ E f (by omega) (hN.cap (fun g => ?_))
        rw [if_neg (by omega)]; simp
      · refine s_X6_node ?_
        rw [show (2 : Int32) + nI p = nI (2 + p) from nI_add 2 p]
        refine s_joins (c := 1000000) hN (by omega) (by omega) (by omega) (by omega) (fun τ1 E1 f1 hE1 hN1 => ?_)
        refine mid τ1 E1 (f.tr f1) (by omega) (hN1.cap (fun g => ?_))
        rw [if_pos hge]; simp
  exact ⟨_, key (t + 1) 0 (by omega) σ E0 (LF.rf σ) (by omega) (hN.cap (fun g => by simp [sm]))⟩
theorem s_lays {a : AT} {σ : Sg} {t : Nat} {Q : Sg → Prop} (hO : OKN a) (ht : t ≤ 40) (hM : RM σ a) (hQ : ∀ (τ : Sg) (E : Nat), LF σ τ → RN a τ E (NR a t) (fun _ => 0) → Q τ) : wp_X6_lays σ (nI t) Q := by
  have h8 := hO.1
  have key : ∀ d p, p + d = aNP a → ∀ (τ : Sg) (E : Nat), LF σ τ → E ≤ 125 * p → RN a τ E (fun g => sm p (rQ a t g)) (fun _ => 0) → wp_X6_lays_29 Q (d + 1) (nI t) (nI p) τ := by
    intro d
    induction d with
    | zero =>
      intro p hp τ E f hE hN
      have : p = aNP a := by omega
      subst this
      rw [wp_X6_lays_29]
      refine s_X6_places ?_
      rw [hN.2.1.1]
      refine ⟨fun _ => ?_, fun z => absurd (nI_le (Nat.le_refl _) (by omega)) z⟩
      exact s_lays_153 (E0 := E) hO ht (by omega) hN (fun τ1 E1 f1 hN1 => hQ τ1 E1 (f.tr f1) (hN1.cap (fun g => rfl)))
    | succ d ih =>
      intro p hp τ E f hE hN
      rw [wp_X6_lays_29]
      obtain ⟨q0, q1, q2, q3⟩ := hO.2.2.2.1 p (by omega)
      refine s_X6_places ?_
      rw [hN.2.1.1]
      refine ⟨fun z => absurd z (nI_ge (by omega) (by omega)), fun _ => s_X6_ofPlace (w := 0) (by omega) (by decide) ?_⟩
      rw [hN.2.1.2.2.2.1 p (by omega) 0 (by decide), show (2 : Int32) + nI p = nI (2 + p) from nI_add 2 p]
      refine s_joins (u := 0) hN (by omega) (by omega) (by omega) (by omega) (fun τ1 E1 f1 hE1 hN1 => s_X6_ofPlace (w := 1) (by omega) (by decide) ?_)
      rw [hN1.2.1.2.2.2.1 p (by omega) 1 (by decide), show (10 : Int32) + nI p = nI (10 + p) from nI_add 10 p]
      refine s_joins (w := 1) hN1 (by omega) (by omega) (by omega) (by omega) (fun τ2 E2 f2 hE2 hN2 => ?_)
      refine s_lays_68 (E0 := E2) hO ht (by omega) (by omega) hN2 (fun τ3 E3 f3 hE3 hN3 => ?_)
      refine ih (p + 1) (by omega) τ3 E3 (f.tr (f1.tr (f2.tr f3))) (by omega) (hN3.cap (fun g => ?_))
      have e : sm (p + 1) (rQ a t g) = sm p (rQ a t g) + rQ a t g p := rfl
      have e2 : rQ a t g p = (aP a p 0 : Int) * g 0 (2 + p) + (aP a p 1 : Int) * g (10 + p) 1 + sm (t + 1) (rP a t g p) := rfl
      rw [e, e2]; omega
  have k7 : ∀ d i, i + d = 346 → ∀ (τ : Sg), LF σ τ → τ 30 16 = 0 → (∀ u, u < i → τ 34 u = -1) → wp_X6_lays_7 Q (d + 1) (nI t) (nI i) τ := by
    intro d
    induction d with
    | zero =>
      intro i hi τ f h16 hu
      have : i = 346 := by omega
      subst this
      rw [wp_X6_lays_7]
      refine ⟨fun _ => ⟨_, key (aNP a) 0 (by omega) τ 0 f (by omega) ⟨⟨GG.nil hu, h16⟩, f.rm hM, fun g => rfl, fun χ => rfl⟩⟩, fun z => absurd (nI_le (a := 346) (by omega) (by omega)) z⟩
    | succ d ih =>
      intro i hi τ f h16 hu
      rw [wp_X6_lays_7, nI_clamp (n := i) (by omega)]
      refine ⟨fun z => absurd z (nI_ge (b := 346) (by omega) (by omega)), fun _ => ⟨vp_in_nI (by omega) (by decide), fun σ1 e1 x2 e2 => ?_⟩⟩
      rw [nI_1] at e2
      subst e2
      refine ih (i + 1) (by omega) σ1 ⟨fun k a b => by rw [e1, put_o (by omega)]; exact f.1 k a b, fun j hj => by rw [e1, put_o (by decide)]; exact f.2 j hj⟩ (by rw [e1, put_o (by decide)]; exact h16) (fun u hu2 => ?_)
      rw [e1, put_at]
      by_cases z : u = i
      · subst z; rw [if_pos ⟨rfl, rfl⟩]
      · rw [if_neg (fun w => z w.2)]; exact hu u (by omega)
  unfold wp_X6_lays
  intro σ1 e1
  exact ⟨347, k7 346 0 (by omega) σ1 ⟨fun k a b => by rw [e1, put_o a], fun j hj => by rw [e1, put_n hj]⟩ (by rw [e1, put_s]) (fun u hu => by omega)⟩
