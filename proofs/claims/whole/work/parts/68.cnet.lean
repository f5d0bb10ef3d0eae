/-! the class's net: arcs joined, minutes added -/
def CG (σ : Sg) (E : Nat) : Prop := GG (σ 19) (σ 20) (σ 21) (σ 22) E ∧ σ 4 1 = nI (2 * E)
def CN (a : AT) (σ : Sg) (E : Nat) (cap : (Nat → Nat → Int) → Int) (fl : (Nat → Int) → Int) : Prop :=
  CG σ E ∧ RC σ a ∧ (∀ g, Cp E (ltf (σ 21)) (spf (σ 22)) g = cap g) ∧ (∀ χ, Fl E (ltf (σ 21)) (spf (σ 22)) χ = fl χ)
/-- what joining leaves -/
def JF (σ τ : Sg) : Prop := (∀ k, k ≠ 4 → (k < 19 ∨ 22 < k) → τ k = σ k) ∧ (∀ j, j ≠ 1 → τ 4 j = σ 4 j)
theorem JF.rf (σ : Sg) : JF σ σ := ⟨fun _ _ _ => rfl, fun _ _ => rfl⟩
theorem JF.tr {σ τ υ : Sg} (h : JF σ τ) (g : JF τ υ) : JF σ υ := ⟨fun k h1 h2 => (g.1 k h1 h2).trans (h.1 k h1 h2), fun j hj => (g.2 j hj).trans (h.2 j hj)⟩
theorem JF.rc {σ τ : Sg} {a : AT} (h : JF σ τ) (hC : RC σ a) : RC τ a := hC.keep (by rw [h.1 1 (by decide) (by decide)]) (by rw [h.1 1 (by decide) (by decide)]) (by rw [h.1 2 (by decide) (by decide)]) (h.1 6 (by decide) (by decide)) (h.1 7 (by decide) (by decide)) (h.1 8 (by decide) (by decide)) (h.1 9 (by decide) (by decide)) (h.1 13 (by decide) (by decide))
theorem s_addArc {σ : Sg} {k u : Nat} {y x : Int32} {Q : Sg → Prop} (hk : σ 4 1 = nI k) (hk2 : k < 3968) (hu : u < 346)
    (h : ∀ τ : Sg, (∀ b i, τ b i = if b = 4 ∧ i = 1 then nI (k + 1) else if b = 19 ∧ i = u then nI k else if b = 20 ∧ i = k then σ 19 u else if b = 22 ∧ i = k then x else if b = 21 ∧ i = k then y else σ b i) → Q τ) : wp_X0_addArc σ (nI u) y x Q := by
  unfold wp_X0_addArc
  have vk : vp_in (nI k) 3968 := vp_in_nI (by omega) (by decide)
  have vu : vp_in (nI u) 346 := vp_in_nI hu (by decide)
  have ck : (nI k).toNatClampNeg = k := nI_clamp (by omega)
  have cu : (nI u).toNatClampNeg = u := nI_clamp (by omega)
  rw [hk, ck, cu]
  refine ⟨vk, fun σ1 e1 => ?_⟩
  have k1 : σ1 4 1 = nI k := by rw [e1, put_o (by decide), hk]
  rw [k1, ck]
  refine ⟨vk, fun σ2 e2 => ?_⟩
  have k2 : σ2 4 1 = nI k := by rw [e2, put_o (by decide), k1]
  have f2 : σ2 19 u = σ 19 u := by rw [e2, put_o (by decide), e1, put_o (by decide)]
  rw [k2, ck, f2]
  refine ⟨vu, vk, fun σ3 e3 => ⟨vu, fun σ4 e4 σ5 e5 => ?_⟩⟩
  have k3 : σ3 4 1 = nI k := by rw [e3, put_o (by decide), k2]
  rw [k3] at e4
  have k4 : σ4 4 1 = nI k := by rw [e4, put_o (by decide), k3]
  rw [k4, nI_1] at e5
  refine h σ5 (fun b i => ?_)
  rw [e5, put_at, e4, put_at, e3, put_at, e2, put_at, e1, put_at]
theorem s_join {a : AT} {σ : Sg} {E u w c : Nat} {cap : (Nat → Nat → Int) → Int} {fl : (Nat → Int) → Int} {Q : Sg → Prop} (hN : CN a σ E cap fl) (hE : E < 1984) (hu : u < 346) (hw : w < 346) (hc : c ≤ 1000)
    (h : ∀ (τ : Sg) (E' : Nat), JF σ τ → E' ≤ E + 1 → CN a τ E' (fun g => cap g + c * g u w) fl → Q τ) : wp_X0_join σ (nI u) (nI w) (nI c) Q := by
  unfold wp_X0_join
  obtain ⟨⟨g1, g2⟩, g3, g4, g5⟩ := hN
  refine pk_le c 0 (fun h0 => ?_) (fun h0 => ?_) rfl rfl (by omega) (by omega)
  · have : c = 0 := by omega
    subst this
    refine h σ E (JF.rf σ) (by omega) ⟨⟨g1, g2⟩, g3, fun g => ?_, g5⟩
    rw [g4]; simp
  · refine s_addArc g2 (by omega) hu (fun τ1 h1 => ?_)
    have k1 : τ1 4 1 = nI (2 * E + 1) := by rw [h1]; simp
    have fw : τ1 19 w = if w = u then nI (2 * E) else σ 19 w := by rw [h1]; simp
    refine s_addArc k1 (by omega) hw (fun τ2 h2 => ?_)
    have e21 : ∀ i, τ2 21 i = if i = 2 * E + 1 then nI u else if i = 2 * E then nI w else σ 21 i := by intro i; rw [h2]; simp; rw [h1]; simp
    have e22 : ∀ i, τ2 22 i = if i = 2 * E + 1 then nI 0 else if i = 2 * E then nI c else σ 22 i := by intro i; rw [h2, show nI 0 = (0 : Int32) from rfl]; simp; rw [h1]; simp
    have e19 : ∀ i, τ2 19 i = if i = w then nI (2 * E + 1) else if i = u then nI (2 * E) else σ 19 i := by intro i; rw [h2]; simp; rw [h1]; simp
    have e20 : ∀ i, τ2 20 i = if i = 2 * E + 1 then (if w = u then nI (2 * E) else σ 19 w) else if i = 2 * E then σ 19 u else σ 20 i := by intro i; rw [h2, fw, h1]; simp
    obtain ⟨j1, j2, j3⟩ := gg_join g1 hE hu hw (by omega) e21 e22 e19 e20
    have jf : JF σ τ2 := by
      refine ⟨fun k h4 hk => ?_, fun j hj => ?_⟩
      · funext i
        have n1 : k ≠ 19 := by omega
        have n2 : k ≠ 20 := by omega
        have n3 : k ≠ 21 := by omega
        have n4 : k ≠ 22 := by omega
        rw [h2]; simp [h4, n1, n2, n3, n4]; rw [h1]; simp [h4, n1, n2, n3, n4]
      · rw [h2]; simp [hj]; rw [h1]; simp [hj]
    refine h τ2 (E + 1) jf (by omega) ⟨⟨j1, ?_⟩, jf.rc g3, fun g => by rw [j2, g4], fun χ => by rw [j3, g5]⟩
    rw [h2]; simp
    rfl
theorem RC.way {σ : Sg} {a : AT} (h : RC σ a) {y : Nat} (hy : y < 2 * aNR a) : σ 7 y = nI (wS a y) ∧ σ 7 (pr y) = nI (wE a y) ∧ σ 6 (y / 2) = nI (wM a y) ∧ σ 8 y = nI (wL a y) := by
  obtain ⟨h1, h2, h3, h4, h5⟩ := h.2.2.2.2.1 (y / 2) (by omega)
  unfold wS wE wM wL
  rcases Nat.mod_two_eq_zero_or_one y with e | e
  · obtain ⟨i, rfl⟩ : ∃ i, y = 2 * i := ⟨y / 2, by omega⟩
    rw [show 2 * i / 2 = i by omega] at h1 h2 h3 h4 h5 ⊢
    rw [e, pr_even]
    exact ⟨h1, h2, h3, h4⟩
  · obtain ⟨i, rfl⟩ : ∃ i, y = 2 * i + 1 := ⟨y / 2, by omega⟩
    rw [show (2 * i + 1) / 2 = i by omega] at h1 h2 h3 h4 h5 ⊢
    rw [e, pr_odd]
    exact ⟨h2, h1, h3, h5⟩
def mnP (a : AT) (m : Nat) (g : Nat → Nat → Int) (p : Nat) : Int := (aP a p 1 : Int) * g (8 * m + p) (336 + p) + (if 1 ≤ m then (aP a p 3 : Int) * g (8 * (m - 1) + p) (8 * m + p) else 0) + (if aP a p 2 ≤ m then (aP a p 0 : Int) * g (328 + p) (8 * m + p) else 0)
def mnY (a : AT) (m : Nat) (g : Nat → Nat → Int) (y : Nat) : Int := if wM a y ≤ m then (wL a y : Int) * g (8 * (m - wM a y) + wS a y) (8 * m + wE a y) else 0
def NB0 (a : AT) (g : Nat → Nat → Int) (p : Nat) : Int := (aP a p 0 : Int) * g 344 (328 + p) + (aP a p 1 : Int) * g (336 + p) 345
def NB (a : AT) (k : Nat) (g : Nat → Nat → Int) : Int := sm (aNP a) (NB0 a g) + sm k (fun m => sm (aNP a) (mnP a m g) + sm (2 * aNR a) (mnY a m g))
theorem NB_NET (a : AT) (t : Nat) (g : Nat → Nat → Int) : NB a (t + 1) g = NET (fun p => (aP a p 0 : Int)) (fun p => (aP a p 1 : Int)) a t g := by
  have e1 : sm (t + 1) (fun m => sm (aNP a) (mnP a m g) + sm (2 * aNR a) (mnY a m g)) = sm (aNP a) (fun p => sm (t + 1) (fun m => mnP a m g p)) + sm (2 * aNR a) (fun y => sm (t + 1) (fun m => mnY a m g y)) := by
    rw [sm_add, sm_swap (t + 1) (aNP a) (fun m p => mnP a m g p), sm_swap (t + 1) (2 * aNR a) (fun m y => mnY a m g y)]
  unfold NB NET
  rw [e1]
  have e2 : sm (aNP a) (NB0 a g) + sm (aNP a) (fun p => sm (t + 1) (fun m => mnP a m g p)) = sm (aNP a) (fun p => NB0 a g p + sm (t + 1) (fun m => mnP a m g p)) := (sm_add _ _ _).symm
  rw [← Int.add_assoc, e2]
  congr 1
  refine sm_congr (fun p hp => ?_)
  unfold NB0 mnP
  rw [sm_add, sm_add]
  dsimp only
  omega
theorem CN.cap {a : AT} {σ : Sg} {E : Nat} {cap cap' : (Nat → Nat → Int) → Int} {fl : (Nat → Int) → Int} (h : CN a σ E cap fl) (e : ∀ g, cap g = cap' g) : CN a σ E cap' fl := ⟨h.1, h.2.1, fun g => by rw [h.2.2.1, e], h.2.2.2⟩
theorem s_begin_37 {a : AT} {σ : Sg} {Q : Sg → Prop} (hO : OKN a) (hN : CN a σ 0 (fun _ => 0) (fun _ => 0))
    (h : ∀ (τ : Sg) (E : Nat), JF σ τ → E ≤ 16 → CN a τ E (NB a 0) (fun _ => 0) → Q τ) : ∃ n, wp_X0_begin_37 Q n 0 σ := by
  have h8 := hO.1
  have key : ∀ r i, i + r = aNP a → ∀ (τ : Sg) (E : Nat), JF σ τ → E ≤ 2 * i → CN a τ E (fun g => sm i (NB0 a g)) (fun _ => 0) → wp_X0_begin_37 Q (r + 1) (nI i) τ := by
    intro r
    induction r with
    | zero =>
      intro i hi τ E f hE hN
      rw [wp_X0_begin_37, hN.2.1.1]
      have : i = aNP a := by omega
      subst this
      refine ⟨fun _ => h τ E f (by omega) (hN.cap (fun g => ?_)), fun z => absurd (nI_le (Nat.le_refl _) (by omega)) z⟩
      unfold NB; simp [sm]
    | succ r ih =>
      intro i hi τ E f hE hN
      rw [wp_X0_begin_37, hN.2.1.1]
      obtain ⟨q0, q1, q2, q3⟩ := hO.2.2.2.1 i (by omega)
      refine ⟨fun z => absurd z (nI_ge (by omega) (by omega)), fun _ => s_X3_fact (w := 0) (by omega) (by decide) ?_⟩
      rw [hN.2.1.2.2.2.1 i (by omega) 0 (by decide), show (328 : Int32) + nI i = nI (328 + i) from nI_add 328 i]
      refine s_join (u := 344) hN (by omega) (by omega) (by omega) (by omega) (fun τ1 E1 f1 hE1 hN1 => ?_)
      refine s_X3_fact (w := 1) (by omega) (by decide) ?_
      rw [hN1.2.1.2.2.2.1 i (by omega) 1 (by decide), show (336 : Int32) + nI i = nI (336 + i) from nI_add 336 i]
      refine s_join (w := 345) hN1 (by omega) (by omega) (by omega) (by omega) (fun τ2 E2 f2 hE2 hN2 => ?_)
      intro x1 ex
      rw [nI_1] at ex
      subst ex
      refine ih (i + 1) (by omega) τ2 E2 (f.tr (f1.tr f2)) (by omega) (hN2.cap (fun g => ?_))
      show sm i (NB0 a g) + _ + _ = sm (i + 1) (NB0 a g)
      rw [sm]
      unfold NB0
      omega
  exact ⟨aNP a + 1, key (aNP a) 0 (by omega) σ 0 (JF.rf σ) (by omega) (hN.cap (fun g => rfl))⟩
/-- what building leaves -/
def BFm (σ τ : Sg) : Prop := (∀ k, k ≠ 4 → (k < 19 ∨ 22 < k) → τ k = σ k)
theorem s_begin {a : AT} {σ : Sg} {Q : Sg → Prop} (hO : OKN a) (hC : RC σ a)
    (h : ∀ (τ : Sg) (E : Nat), BFm σ τ → τ 4 2 = -1 → τ 4 3 = nI (ns (aNP a) (fun p => aP a p 0)) → τ 4 4 = 0 → E ≤ 16 → CN a τ E (NB a 0) (fun _ => 0) → Q τ) : wp_X0_begin σ Q := by
  unfold wp_X0_begin
  intro σ1 e1 σ2 e2 σ3 e3 σ4 e4
  have fr : ∀ k, k ≠ 4 → k ≠ 19 → σ4 k = σ k := fun k h4 h19 => by rw [e4, put_o h4, e3, put_o h4, e2, put_o h4, e1, setA_o h19]
  have c4 : RC σ4 a := hC.keep (by rw [fr 1 (by decide) (by decide)]) (by rw [fr 1 (by decide) (by decide)]) (by rw [fr 2 (by decide) (by decide)]) (fr 6 (by decide) (by decide)) (fr 7 (by decide) (by decide)) (fr 8 (by decide) (by decide)) (fr 9 (by decide) (by decide)) (fr 13 (by decide) (by decide))
  refine s_X3_total (w := 0) hO.1 c4 (by decide) ?_
  intro σ7 e7
  have fr7 : ∀ k, k ≠ 4 → k ≠ 19 → σ7 k = σ k := fun k h4 h19 => by rw [e7, put_o h4, fr k h4 h19]
  have c7 : RC σ7 a := hC.keep (by rw [fr7 1 (by decide) (by decide)]) (by rw [fr7 1 (by decide) (by decide)]) (by rw [fr7 2 (by decide) (by decide)]) (fr7 6 (by decide) (by decide)) (fr7 7 (by decide) (by decide)) (fr7 8 (by decide) (by decide)) (fr7 9 (by decide) (by decide)) (fr7 13 (by decide) (by decide))
  have a19 : ∀ u, u < 346 → σ7 19 u = -1 := by
    intro u hu
    rw [e7, put_o (by decide), e4, put_o (by decide), e3, put_o (by decide), e2, put_o (by decide), e1, setA_k]
    unfold k_fillf
    rw [if_pos hu]
  have d1 : σ7 4 1 = nI (2 * 0) := by rw [e7, put_n (by decide), e4, put_n (by decide), e3, put_n (by decide), e2, put_s]; rfl
  have d2 : σ7 4 2 = -1 := by rw [e7, put_n (by decide), e4, put_n (by decide), e3, put_s]
  have d3 : σ7 4 3 = nI (ns (aNP a) (fun p => aP a p 0)) := by rw [e7, put_s]
  have d4 : σ7 4 4 = 0 := by rw [e7, put_n (by decide), e4, put_s]
  refine s_begin_37 hO ⟨⟨GG.nil a19, d1⟩, c7, fun g => rfl, fun χ => rfl⟩ (fun τ E f hE hN => ?_)
  refine h τ E (fun k h4 hk => by rw [f.1 k h4 hk, fr7 k h4 (by omega)]) ?_ ?_ ?_ hE hN
  · rw [f.2 2 (by decide), d2]
  · rw [f.2 3 (by decide), d3]
  · rw [f.2 4 (by decide), d4]
theorem s_addMinute_126 {a : AT} {σ : Sg} {m E0 : Nat} {cap : (Nat → Nat → Int) → Int} {fl : (Nat → Int) → Int} {Q : Sg → Prop} (hO : OKN a) (hm : m ≤ 40) (hl : σ 4 2 = nI m) (hE0 : E0 + 24 ≤ 1984) (hN : CN a σ E0 cap fl)
    (h : ∀ (τ : Sg) (E : Nat), JF σ τ → E ≤ E0 + 24 → CN a τ E (fun g => cap g + sm (2 * aNR a) (mnY a m g)) fl → Q τ) : ∃ n, wp_X0_addMinute_126 Q n (nI (8 * m)) 0 σ := by
  have h8 := hO.1
  have h12 := hO.2.1
  have key : ∀ r y, y + r = 2 * aNR a → ∀ (τ : Sg) (E : Nat), JF σ τ → E ≤ E0 + y → CN a τ E (fun g => cap g + sm y (mnY a m g)) fl → wp_X0_addMinute_126 Q (r + 1) (nI (8 * m)) (nI y) τ := by
    intro r
    induction r with
    | zero =>
      intro y hy τ E f hE hN
      rw [wp_X0_addMinute_126, hN.2.1.2.1, e_2]
      have : y = 2 * aNR a := by omega
      subst this
      exact ⟨fun _ => h τ E f (by omega) hN, fun z => absurd (nI_le (Nat.le_refl _) (by omega)) z⟩
    | succ r ih =>
      intro y hy τ E f hE hN
      rw [wp_X0_addMinute_126, hN.2.1.2.1, e_2]
      obtain ⟨w1, w2, w3, w4, w5⟩ := hO.way (y := y) (by omega)
      obtain ⟨c1, c2, c3, c4⟩ := hN.2.1.way (y := y) (by omega)
      have l4 : τ 4 2 = nI m := by rw [f.2 2 (by decide), hl]
      have ed : nI y / (2 : Int32) = nI (y / 2) := pk_div (d := 2) (by omega) (by decide) (by decide)
      have step : ∀ (τ1 : Sg) (E1 : Nat), JF σ τ1 → E1 ≤ E0 + (y + 1) → CN a τ1 E1 (fun g => cap g + sm (y + 1) (mnY a m g)) fl → wp_X0_addMinute_201 Q (fun z1 z2 σ => wp_X0_addMinute_126 Q (r + 1) z1 z2 σ) (nI (8 * m)) (nI y) τ1 := by
        intro τ1 E1 f1 hE1 hN1 x2 e2
        rw [nI_1] at e2
        subst e2
        exact ih (y + 1) (by omega) τ1 E1 f1 hE1 hN1
      rw [ed, nI_clamp (n := y / 2) (by omega), c3, l4, e_xor (by omega), nI_clamp (n := pr y) (by unfold pr; split <;> omega), nI_clamp (n := y) (by omega), c1, c2, c4]
      refine ⟨fun z => absurd z (nI_ge (by omega) (by omega)), fun _ => ⟨vp_in_nI (by omega) (by decide), fun x3 e3 => ?_⟩⟩
      subst e3
      refine pk_lt m (wM a y) (fun hlt => ?_) (fun hge => ?_) rfl rfl (by omega) (by omega)
      · refine step τ E f (by omega) (hN.cap (fun g => ?_))
        rw [sm]; unfold mnY; rw [if_neg (by omega)]; omega
      · refine ⟨vp_in_nI (by omega) (by decide), vp_in_nI (by unfold pr; split <;> omega) (by decide), vp_in_nI (by omega) (by decide), ?_⟩
        rw [show nI (wM a y) * (8 : Int32) = nI (wM a y * 8) from pk_mul _ 8, pk_sub (by omega), nI_add, nI_add, show 8 * m - wM a y * 8 + wS a y = 8 * (m - wM a y) + wS a y by omega]
        refine s_join hN (by omega) (by omega) (by omega) (by omega) (fun τ1 E1 f1 hE1 hN1 => ?_)
        refine step τ1 E1 (f.tr f1) (by omega) (hN1.cap (fun g => ?_))
        rw [sm]; unfold mnY; rw [if_pos hge]; omega
  exact ⟨2 * aNR a + 1, key (2 * aNR a) 0 (by omega) σ E0 (JF.rf σ) (by omega) (hN.cap (fun g => by simp [sm]))⟩
theorem s_addMinute_20 {a : AT} {σ : Sg} {m E0 : Nat} {cap : (Nat → Nat → Int) → Int} {fl : (Nat → Int) → Int} {Q : Sg → Prop} (hO : OKN a) (hm : m ≤ 40) (hl : σ 4 2 = nI m) (hE0 : E0 + 48 ≤ 1984) (hN : CN a σ E0 cap fl)
    (h : ∀ (τ : Sg) (E : Nat), JF σ τ → E ≤ E0 + 48 → CN a τ E (fun g => cap g + (sm (aNP a) (mnP a m g) + sm (2 * aNR a) (mnY a m g))) fl → Q τ) : ∃ n, wp_X0_addMinute_20 Q n (nI (8 * m)) 0 σ := by
  have h8 := hO.1
  have key : ∀ r p, p + r = aNP a → ∀ (τ : Sg) (E : Nat), JF σ τ → E ≤ E0 + 3 * p → CN a τ E (fun g => cap g + sm p (mnP a m g)) fl → wp_X0_addMinute_20 Q (r + 1) (nI (8 * m)) (nI p) τ := by
    intro r
    induction r with
    | zero =>
      intro p hp τ E f hE hN
      rw [wp_X0_addMinute_20, hN.2.1.1]
      have : p = aNP a := by omega
      subst this
      refine ⟨fun _ => ?_, fun z => absurd (nI_le (Nat.le_refl _) (by omega)) z⟩
      refine s_addMinute_126 hO hm (by rw [f.2 2 (by decide), hl]) (E0 := E) (by omega) hN (fun τ1 E1 f1 hE1 hN1 => ?_)
      exact h τ1 E1 (f.tr f1) (by omega) (hN1.cap (fun g => by omega))
    | succ r ih =>
      intro p hp τ E f hE hN
      rw [wp_X0_addMinute_20, hN.2.1.1]
      obtain ⟨q0, q1, q2, q3⟩ := hO.2.2.2.1 p (by omega)
      have step : ∀ (τ1 : Sg) (E1 : Nat), JF σ τ1 → E1 ≤ E0 + 3 * (p + 1) → CN a τ1 E1 (fun g => cap g + sm (p + 1) (mnP a m g)) fl → wp_X0_addMinute_118 Q (fun z1 z2 σ => wp_X0_addMinute_20 Q (r + 1) z1 z2 σ) (nI (8 * m)) (nI p) τ1 := by
        intro τ1 E1 f1 hE1 hN1 x2 e2
        rw [nI_1] at e2
        subst e2
        exact ih (p + 1) (by omega) τ1 E1 f1 hE1 hN1
      have step2 : ∀ (τ1 : Sg) (E1 : Nat), JF σ τ1 → E1 ≤ E0 + 3 * p + 2 → CN a τ1 E1 (fun g => cap g + sm p (mnP a m g) + (aP a p 1 : Int) * g (8 * m + p) (336 + p) + (if 1 ≤ m then (aP a p 3 : Int) * g (8 * (m - 1) + p) (8 * m + p) else 0)) fl → wp_X0_addMinute_81 Q (fun z1 z2 σ => wp_X0_addMinute_20 Q (r + 1) z1 z2 σ) (nI (8 * m)) (nI p) τ1 := by
        intro τ1 E1 f1 hE1 hN1
        unfold wp_X0_addMinute_81
        refine s_X3_fact (w := 2) (by omega) (by decide) ?_
        rw [hN1.2.1.2.2.2.1 p (by omega) 2 (by decide), f1.2 2 (by decide), hl]
        refine pk_lt m (aP a p 2) (fun hlt => ?_) (fun hge => ?_) rfl rfl (by omega) (by omega)
        · refine step τ1 E1 f1 (by omega) (hN1.cap (fun g => ?_))
          rw [sm]; unfold mnP; rw [if_neg (show ¬ aP a p 2 ≤ m by omega)]; omega
        · refine s_X3_fact (w := 0) (by omega) (by decide) ?_
          rw [hN1.2.1.2.2.2.1 p (by omega) 0 (by decide), show (328 : Int32) + nI p = nI (328 + p) from nI_add 328 p, nI_add]
          refine s_join hN1 (by omega) (by omega) (by omega) (by omega) (fun τ2 E2 f2 hE2 hN2 => ?_)
          refine step τ2 E2 (f1.tr f2) (by omega) (hN2.cap (fun g => ?_))
          rw [sm]; unfold mnP; rw [if_pos hge]; omega
      refine ⟨fun z => absurd z (nI_ge (by omega) (by omega)), fun _ => s_X3_fact (w := 1) (by omega) (by decide) ?_⟩
      rw [hN.2.1.2.2.2.1 p (by omega) 1 (by decide), show (336 : Int32) + nI p = nI (336 + p) from nI_add 336 p, nI_add]
      refine s_join hN (by omega) (by omega) (by omega) (by omega) (fun τ1 E1 f1 hE1 hN1 => ?_)
      have l1 : τ1 4 2 = nI m := by rw [f1.2 2 (by decide), f.2 2 (by decide), hl]
      rw [l1]
      refine pk_le m 0 (fun hle => ?_) (fun hgt => ?_) rfl rfl (by omega) (by omega)
      · refine step2 τ1 E1 (f.tr f1) (by omega) (hN1.cap (fun g => ?_))
        rw [if_neg (show ¬ 1 ≤ m by omega)]; omega
      · refine s_X3_fact (w := 3) (by omega) (by decide) ?_
        rw [hN1.2.1.2.2.2.1 p (by omega) 3 (by decide), show nI (8 * m) - (8 : Int32) = nI (8 * m - 8) from pk_sub (b := 8) (by omega), nI_add, show 8 * m - 8 + p = 8 * (m - 1) + p by omega]
        refine s_join hN1 (by omega) (by omega) (by omega) (by omega) (fun τ2 E2 f2 hE2 hN2 => ?_)
        refine step2 τ2 E2 (f.tr (f1.tr f2)) (by omega) (hN2.cap (fun g => ?_))
        rw [if_pos (show 1 ≤ m by omega)]
  exact ⟨aNP a + 1, key (aNP a) 0 (by omega) σ E0 (JF.rf σ) (by omega) (hN.cap (fun g => by simp [sm]))⟩
theorem s_addMinute {a : AT} {σ : Sg} {m E0 : Nat} {fl : (Nat → Int) → Int} {Q : Sg → Prop} (hO : OKN a) (hm : m ≤ 40) (hl : σ 4 2 + 1 = nI m) (hE0 : E0 ≤ 16 + 48 * m) (hN : CN a σ E0 (NB a m) fl)
    (h : ∀ (τ : Sg) (E : Nat), BFm σ τ → τ 4 2 = nI m → τ 4 3 = σ 4 3 → τ 4 4 = σ 4 4 → E ≤ 16 + 48 * (m + 1) → CN a τ E (NB a (m + 1)) fl → Q τ) : wp_X0_addMinute σ Q := by
  unfold wp_X0_addMinute
  intro σ1 e1 x1 ex
  rw [hl] at e1
  have l1 : σ1 4 2 = nI m := by rw [e1, put_s]
  rw [l1, show nI m * (8 : Int32) = nI (m * 8) from pk_mul m 8, Nat.mul_comm] at ex
  subst ex
  have n1 : CN a σ1 E0 (NB a m) fl := by
    obtain ⟨⟨g1, g2⟩, g3, g4, g5⟩ := hN
    have o : ∀ k, k ≠ 4 → σ1 k = σ k := fun k hk => by rw [e1, put_o hk]
    refine ⟨⟨?_, ?_⟩, g3.keep (by rw [o 1 (by decide)]) (by rw [o 1 (by decide)]) (by rw [o 2 (by decide)]) (o 6 (by decide)) (o 7 (by decide)) (o 8 (by decide)) (o 9 (by decide)) (o 13 (by decide)), ?_, ?_⟩
    · rw [o 19 (by decide), o 20 (by decide), o 21 (by decide), o 22 (by decide)]; exact g1
    · rw [e1, put_n (by decide), g2]
    · rw [o 21 (by decide), o 22 (by decide)]; exact g4
    · rw [o 21 (by decide), o 22 (by decide)]; exact g5
  refine s_addMinute_20 hO hm l1 (by omega) n1 (fun τ E f hE hN => ?_)
  refine h τ E (fun k h4 hk => by rw [f.1 k h4 hk, e1, put_o h4]) ?_ ?_ ?_ (by omega) (hN.cap (fun g => ?_))
  · rw [f.2 2 (by decide), l1]
  · rw [f.2 3 (by decide), e1, put_n (by decide)]
  · rw [f.2 4 (by decide), e1, put_n (by decide)]
  · unfold NB; rw [sm]; omega
