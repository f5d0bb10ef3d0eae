theorem s_X3_addRoad {σ : Sg} {n : Nat} {p1 p2 p3 p4 p5 : Int32} {Q : Int32 → Sg → Prop} (hn : n < 12) (h0 : σ 1 1 = nI n)
    (h : ∀ τ : Sg, τ = put (put (put (put (put (put σ 7 (2 * n) p1) 7 (2 * n + 1) p2) 6 n p3) 8 (2 * n) p4) 8 (2 * n + 1) p5) 1 1 (nI (n + 1)) → Q (nI n) τ) : wp_X3_addRoad σ p1 p2 p3 p4 p5 Q := by
  unfold wp_X3_addRoad
  rw [h0, e_2, nI_clamp (n := 2 * n) (by omega)]
  refine ⟨vp_in_nI (by omega) (by decide), fun σ1 e1 => ?_⟩
  have r1 : σ1 1 1 = nI n := by rw [e1, put_o (by decide), h0]
  rw [r1, e_21, nI_clamp (n := 2 * n + 1) (by omega)]
  refine ⟨vp_in_nI (by omega) (by decide), fun σ2 e2 => ?_⟩
  have r2 : σ2 1 1 = nI n := by rw [e2, put_o (by decide), r1]
  rw [r2, nI_clamp (n := n) (by omega)]
  refine ⟨vp_in_nI (by omega) (by decide), fun σ3 e3 => ?_⟩
  have r3 : σ3 1 1 = nI n := by rw [e3, put_o (by decide), r2]
  rw [r3, e_2, nI_clamp (n := 2 * n) (by omega)]
  refine ⟨vp_in_nI (by omega) (by decide), fun σ4 e4 => ?_⟩
  have r4 : σ4 1 1 = nI n := by rw [e4, put_o (by decide), r3]
  rw [r4, e_21, nI_clamp (n := 2 * n + 1) (by omega)]
  refine ⟨vp_in_nI (by omega) (by decide), fun σ5 e5 => ?_⟩
  have r5 : σ5 1 1 = nI n := by rw [e5, put_o (by decide), r4]
  rw [r5, nI_1]
  intro σ6 e6
  have r6 : σ6 1 1 = nI (n + 1) := by rw [e6, put_s]
  rw [r6, nI_pred]
  exact h σ6 (by rw [e6, e5, e4, e3, e2, e1])
theorem s_X6_roadMore {σ : Sg} {n : Nat} {p1 p2 p3 p4 p5 : Int32} {Q : Sg → Prop} (hn : n < 12) (h0 : σ 31 1 = nI n)
    (h : ∀ τ : Sg, τ = put (put (put (put (put (put σ 31 (35 + 5 * n) p1) 31 (35 + 5 * n + 1) p2) 31 (35 + 5 * n + 2) p3) 31 (35 + 5 * n + 3) p4) 31 (35 + 5 * n + 4) p5) 31 1 (nI (n + 1)) → Q τ) : wp_X6_roadMore σ p1 p2 p3 p4 p5 Q := by
  refine s_X6_roads ?_
  rw [h0]
  intro x e
  have ex : x = nI (35 + 5 * n) := by rw [e]; exact e_r0 n
  refine ⟨inn ex (by omega) (by decide), ?_⟩
  intro σ1 e1
  rw [ixn ex (by omega)] at e1
  refine ⟨inn (e_add ex 1) (by omega) (by decide), ?_⟩
  intro σ2 e2
  rw [show (x + 1).toNatClampNeg = 35 + 5 * n + 1 from ixn (e_add ex 1) (by omega)] at e2
  refine ⟨inn (e_add ex 2) (by omega) (by decide), ?_⟩
  intro σ3 e3
  rw [show (x + 2).toNatClampNeg = 35 + 5 * n + 2 from ixn (e_add ex 2) (by omega)] at e3
  refine ⟨inn (e_add ex 3) (by omega) (by decide), ?_⟩
  intro σ4 e4
  rw [show (x + 3).toNatClampNeg = 35 + 5 * n + 3 from ixn (e_add ex 3) (by omega)] at e4
  refine ⟨inn (e_add ex 4) (by omega) (by decide), ?_⟩
  intro σ5 e5
  rw [show (x + 4).toNatClampNeg = 35 + 5 * n + 4 from ixn (e_add ex 4) (by omega)] at e5
  refine ⟨by unfold vp_in; decide, by unfold vp_in; decide, ?_⟩
  intro σ6 e6
  have r5 : σ5 31 1 = nI n := by
    rw [e5, put_n (by omega), e4, put_n (by omega), e3, put_n (by omega), e2, put_n (by omega), e1, put_n (by omega), h0]
  have e6' : σ6 = put σ5 31 1 (σ5 31 1 + 1) := e6
  rw [r5, nI_1] at e6'
  refine h σ6 ?_
  rw [e6', e5, e4, e3, e2, e1]
theorem rd_num {a : AT} {p1 p2 p3 p4 p5 : Int32} (h8 : aNP a ≤ 8) (h : rdOK a p1 p2 p3 p4 p5) : ∃ v1 v2 v3 v4 v5, v1 < aNP a ∧ v2 < aNP a ∧ v1 ≠ v2 ∧ 1 ≤ v3 ∧ v3 ≤ 9 ∧ v4 ≤ 9 ∧ v5 ≤ 9 ∧ 1 ≤ v4 + v5 ∧ p1 = nI v1 ∧ p2 = nI v2 ∧ p3 = nI v3 ∧ p4 = nI v4 ∧ p5 = nI v5 := by
  obtain ⟨h1, h2, h3, h4, h5, h6, h7⟩ := h
  obtain ⟨v1, l1, rfl⟩ := inp_yes (by omega) h1
  obtain ⟨v2, l2, rfl⟩ := inp_yes (by omega) h2
  obtain ⟨v3, a3, b3, rfl⟩ := inr_yes (a := 1) (b := 9) (by decide) (by decide) h4
  obtain ⟨v4, -, b4, rfl⟩ := inr_yes (a := 0) (b := 9) (by decide) (by decide) h5
  obtain ⟨v5, -, b5, rfl⟩ := inr_yes (a := 0) (b := 9) (by decide) (by decide) h6
  refine ⟨v1, v2, v3, v4, v5, l1, l2, fun z => h3 (by rw [z]), a3, b3, b4, b5, ?_, rfl, rfl, rfl, rfl, rfl⟩
  rcases Nat.eq_zero_or_pos (v4 + v5) with z | z
  · exfalso
    have z4 : v4 = 0 := by omega
    have z5 : v5 = 0 := by omega
    exact h7 ⟨by rw [z4]; rfl, by rw [z5]; rfl⟩
  · exact z
theorem C_road (p1 p2 p3 p4 p5 : Int32) : ∀ a, OKT a → ∀ τ, RC τ a → ∀ Q : Int32 → Sg → Prop, (∀ υ, FC τ υ → TC τ υ → RC υ (roadA p1 p2 p3 p4 p5 a).2 → Q (roadA p1 p2 p3 p4 p5 a).1 υ) → wp_X5_road τ p1 p2 p3 p4 p5 Q := by
  intro a hO τ hC Q h
  unfold wp_X5_road
  unfold roadA at h
  have h8 := hO.1
  have h12 := hO.2.1
  have neg : ¬ rdOK a p1 p2 p3 p4 p5 → Q (-1) τ := fun z => by rw [if_neg z] at h; exact h τ (FC.rf τ) (TC.rf τ) hC
  refine s_fit0 ?_
  rw [hC.1]
  refine ⟨fun z => neg (fun y => y.1 z), fun h1 => s_fit1 ?_⟩
  rw [hC.1]
  refine ⟨fun z => neg (fun y => ?_), fun z2 => s_fit2 ⟨fun z => neg (fun y => y.2.2.2.1 z), fun h4 => s_fit3 ⟨fun z => neg (fun y => y.2.2.2.2.1 z), fun h5 => s_fit4 h5 ⟨fun z => neg (fun y => ?_), fun z6 => ?_⟩⟩⟩⟩
  · rw [if_neg (by rintro (q | q); exact y.2.1 q; exact y.2.2.1 q.symm)] at z
    exact absurd z (by decide)
  · rw [if_neg (by rintro (q | q); exact y.2.2.2.2.2.1 q; exact y.2.2.2.2.2.2 q)] at z
    exact absurd z (by decide)
  · have h2 : ¬ inp (nI (aNP a)) p2 = 0 := fun q => z2 (by rw [if_pos (Or.inl q)])
    have h3 : ¬ p1 = p2 := fun q => z2 (by rw [if_pos (Or.inr q.symm)])
    have h6 : ¬ inr 0 9 p5 = 0 := fun q => z6 (by rw [if_pos (Or.inl q)])
    have h7 : ¬ (p4 = 0 ∧ p5 = 0) := fun q => z6 (by rw [if_pos (Or.inr q)])
    have ok : rdOK a p1 p2 p3 p4 p5 := ⟨h1, h2, h3, h4, h5, h6, h7⟩
    rw [if_pos ok] at h
    rw [hC.2.1]
    refine pk_lt (aNR a) 12 (fun hlt => ?_) (fun hge => ?_) rfl rfl (by omega) (by omega)
    · rw [if_pos hlt] at h
      refine s_X3_addRoad hlt hC.2.1 (fun υ e => ?_)
      obtain ⟨v1, v2, v3, v4, v5, l1, l2, l3, l4, l5, l6, l7, l8, rfl, rfl, rfl, rfl, rfl⟩ := rd_num h8 ok
      have g : ∀ b i, υ b i = if b = 1 ∧ i = 1 then nI (aNR a + 1) else if b = 8 ∧ i = 2 * aNR a + 1 then nI v5 else if b = 8 ∧ i = 2 * aNR a then nI v4 else if b = 6 ∧ i = aNR a then nI v3 else if b = 7 ∧ i = 2 * aNR a + 1 then nI v2 else if b = 7 ∧ i = 2 * aNR a then nI v1 else τ b i := by
        intro b i
        rw [e]
        simp only [put_at]
      rw [nI_clamp (n := v1) (by omega), nI_clamp (n := v2) (by omega), nI_clamp (n := v3) (by omega), nI_clamp (n := v4) (by omega), nI_clamp (n := v5) (by omega)] at h
      refine h υ (fun k hk => ?_) ⟨by rw [g]; simp, by rw [g]; simp, by funext i; rw [g]; simp⟩ ?_
      · funext i
        rw [g]
        have a1 : k ≠ 1 := by omega
        have a6 : k ≠ 6 := by omega
        have a7 : k ≠ 7 := by omega
        have a8 : k ≠ 8 := by omega
        simp [a1, a6, a7, a8]
      · obtain ⟨c1, c2, c3, c4, c5, c6⟩ := hC
        refine ⟨by rw [g]; simp; exact c1, by rw [g]; simp [aNR], by rw [g]; simp; exact c3, fun p hp w hw => by rw [g]; simp; exact c4 p hp w hw, ?_, fun k hk w hw => by rw [g]; simp; exact c6 k hk w hw⟩
        intro r hr
        have hr : r < aNR a + 1 := hr
        show υ 7 (2 * r) = nI (if r = aNR a then _ else aR a r 0) ∧ υ 7 (2 * r + 1) = nI (if r = aNR a then _ else aR a r 1) ∧ υ 6 r = nI (if r = aNR a then _ else aR a r 2) ∧ υ 8 (2 * r) = nI (if r = aNR a then _ else aR a r 3) ∧ υ 8 (2 * r + 1) = nI (if r = aNR a then _ else aR a r 4)
        rw [g, g, g, g, g]
        by_cases e1 : r = aNR a
        · subst e1
          simp
        · obtain ⟨d1, d2, d3, d4, d5⟩ := c5 r (by omega)
          have n1 : ¬ 2 * r = 2 * aNR a + 1 := by omega
          have n2 : ¬ 2 * r = 2 * aNR a := by omega
          have n3 : ¬ 2 * r + 1 = 2 * aNR a + 1 := by omega
          have n4 : ¬ 2 * r + 1 = 2 * aNR a := by omega
          simp [e1, n1, n2, n4]
          exact ⟨d1, d2, d3, d4, d5⟩
    · rw [if_neg (by omega)] at h
      exact h τ (FC.rf τ) (TC.rf τ) hC
theorem M_road (p1 p2 p3 p4 p5 : Int32) : ∀ a, OKT a → ∀ τ, RM τ a → ∀ Q : Int32 → Sg → Prop, (∀ υ, FM τ υ → TM τ υ → RM υ (roadA p1 p2 p3 p4 p5 a).2 → Q (roadA p1 p2 p3 p4 p5 a).1 υ) → wp_X6_road τ p1 p2 p3 p4 p5 Q := by
  intro a hO τ0 hM0 Q h
  unfold wp_X6_road
  intro τ e0
  have f0 : FM τ0 τ := by rw [e0]; exact FM_p τ0 (by decide)
  have t0 : TM τ0 τ := by rw [e0]; exact TM_t τ0 _
  have hM : RM τ a := hM0.keep (by rw [e0]; exact put_o (by decide))
  unfold roadA at h
  have h8 := hO.1
  have h12 := hO.2.1
  have neg : ¬ rdOK a p1 p2 p3 p4 p5 → Q (-1) τ := fun z => by rw [if_neg z] at h; exact h τ f0 t0 hM
  refine s_X6_isPlace hM.1 (by omega) ⟨fun z => neg (fun y => y.1 z), fun h1 => s_X6_isPlace hM.1 (by omega) ⟨fun z => neg (fun y => y.2.1 z), fun h2 => ⟨fun z => neg (fun y => y.2.2.1 z), fun h3 => s_X6_isIn ⟨fun z => neg (fun y => y.2.2.2.1 z), fun h4 => s_X6_isIn ⟨fun z => neg (fun y => y.2.2.2.2.1 z), fun h5 => s_X6_isIn ⟨fun z => neg (fun y => y.2.2.2.2.2.1 z), fun h6 => ?_⟩⟩⟩⟩⟩⟩
  have e45 : p4 + p5 = 0 ↔ (p4 = 0 ∧ p5 = 0) := by
    obtain ⟨v4, -, b4, rfl⟩ := inr_yes (a := 0) (b := 9) (by decide) (by decide) h5
    obtain ⟨v5, -, b5, rfl⟩ := inr_yes (a := 0) (b := 9) (by decide) (by decide) h6
    rw [nI_add]
    have x1 : nI (v4 + v5) = 0 ↔ v4 + v5 = 0 := nI_eq (b := 0) (by omega) (by decide)
    have x2 : nI v4 = 0 ↔ v4 = 0 := nI_eq (b := 0) (by omega) (by decide)
    have x3 : nI v5 = 0 ↔ v5 = 0 := nI_eq (b := 0) (by omega) (by decide)
    rw [x1, x2, x3]
    omega
  refine ⟨fun z => neg (fun y => y.2.2.2.2.2.2 (e45.mp z)), fun z => ?_⟩
  have h7 : ¬ (p4 = 0 ∧ p5 = 0) := fun q => z (e45.mpr q)
  have ok : rdOK a p1 p2 p3 p4 p5 := ⟨h1, h2, h3, h4, h5, h6, h7⟩
  rw [if_pos ok] at h
  refine s_X6_roads ?_
  rw [hM.2.1]
  refine pk_eq (aNR a) 12 (fun heq => ?_) (fun hne => ?_) rfl rfl (by omega) (by omega)
  · rw [if_neg (by omega)] at h
    exact h τ f0 t0 hM
  · have hlt : aNR a < 12 := by omega
    rw [if_pos hlt] at h
    refine s_X6_roadMore hlt hM.2.1 (fun υ e => ?_)
    obtain ⟨v1, v2, v3, v4, v5, l1, l2, l3, l4, l5, l6, l7, l8, rfl, rfl, rfl, rfl, rfl⟩ := rd_num h8 ok
    have g : ∀ b i, υ b i = if b = 31 ∧ i = 1 then nI (aNR a + 1) else if b = 31 ∧ i = 35 + 5 * aNR a + 4 then nI v5 else if b = 31 ∧ i = 35 + 5 * aNR a + 3 then nI v4 else if b = 31 ∧ i = 35 + 5 * aNR a + 2 then nI v3 else if b = 31 ∧ i = 35 + 5 * aNR a + 1 then nI v2 else if b = 31 ∧ i = 35 + 5 * aNR a then nI v1 else τ b i := by
      intro b i
      rw [e]
      simp only [put_at]
    rw [nI_clamp (n := v1) (by omega), nI_clamp (n := v2) (by omega), nI_clamp (n := v3) (by omega), nI_clamp (n := v4) (by omega), nI_clamp (n := v5) (by omega)] at h
    refine s_X6_roads ?_
    have r0 : υ 31 1 = nI (aNR a + 1) := by rw [g]; simp
    rw [r0, nI_pred]
    have gk : ∀ k, k ≠ 31 → υ k = τ k := fun k hk => by funext i; rw [g]; simp [hk]
    refine h υ (f0.tr (fun k hk => gk k (by omega))) (t0.tr ⟨by rw [gk 30 (by decide)], by rw [gk 30 (by decide)], gk 33 (by decide)⟩) ?_
    obtain ⟨c1, c2, c3, c4, c5, c6⟩ := hM
    have no : ∀ i, i ≠ 1 → (i < 35 + 5 * aNR a ∨ 35 + 5 * aNR a + 4 < i) → υ 31 i = τ 31 i := fun i n1 n2 => by
      rw [g, if_neg (by omega), if_neg (by omega), if_neg (by omega), if_neg (by omega), if_neg (by omega), if_neg (by omega)]
    refine ⟨by rw [no 0 (by omega) (by omega)]; exact c1, r0, by rw [no 2 (by omega) (by omega)]; exact c3, ?_, ?_, ?_⟩
    · intro p hp w hw
      have hp : p < aNP a := hp
      rw [no _ (by omega) (by omega)]; exact c4 p hp w hw
    · intro r hr w hw
      have hr : r < aNR a + 1 := hr
      show υ 31 (35 + 5 * r + w) = nI (if r = aNR a then _ else aR a r w)
      by_cases e1 : r = aNR a
      · subst e1
        rw [g]
        rcases (show w = 0 ∨ w = 1 ∨ w = 2 ∨ w = 3 ∨ w = 4 by omega) with rfl | rfl | rfl | rfl | rfl
        all_goals (simp; try omega)
      · rw [if_neg e1, no _ (by omega) (by omega)]; exact c5 r (by omega) w hw
    · intro k hk w hw
      rw [no _ (by omega) (by omega)]; exact c6 k hk w hw
theorem O_road (p1 p2 p3 p4 p5 : Int32) : ∀ a, OKT a → OKT (roadA p1 p2 p3 p4 p5 a).2 := by
  intro a hO
  unfold roadA
  split
  · rename_i ok
    split
    · rename_i hlt
      obtain ⟨v1, v2, v3, v4, v5, l1, l2, l3, l4, l5, l6, l7, l8, rfl, rfl, rfl, rfl, rfl⟩ := rd_num hO.1 ok
      obtain ⟨o1, o2, o3, o4, o5, o6⟩ := hO
      rw [nI_clamp (n := v1) (by omega), nI_clamp (n := v2) (by omega), nI_clamp (n := v3) (by omega), nI_clamp (n := v4) (by omega), nI_clamp (n := v5) (by omega)]
      refine ⟨o1, hlt, o3, o4, ?_, ?_⟩
      · intro r hr
        have hr : r < aNR a + 1 := hr
        show (if r = aNR a then _ else aR a r 0) < aNP a ∧ (if r = aNR a then _ else aR a r 1) < aNP a ∧ (if r = aNR a then _ else aR a r 0) ≠ (if r = aNR a then _ else aR a r 1) ∧ 1 ≤ (if r = aNR a then _ else aR a r 2) ∧ (if r = aNR a then _ else aR a r 2) ≤ 9 ∧ 1 ≤ (if r = aNR a then _ else aR a r 3) + (if r = aNR a then _ else aR a r 4) ∧ (if r = aNR a then _ else aR a r 3) + (if r = aNR a then _ else aR a r 4) ≤ 18
        by_cases e1 : r = aNR a
        · simp [e1]
          omega
        · simp [e1]
          exact o5 r (by omega)
      · intro k hk
        obtain ⟨d1, d2, d3⟩ := o6 k hk
        exact ⟨d1, Nat.lt_succ_of_lt d2, d3⟩
    · exact hO
  · exact hO
theorem L_road {σ : Sg} (hI : INV σ) (p1 p2 p3 p4 p5 : Int32) {K : Sg → Prop} (hK : ∀ τ, INV τ → K τ) {C : Int32 → Sg → Prop} (hw : ∀ r1 σ1, wp_X6_road σ1 p1 p2 p3 p4 p5 (fun r2 σ2 => (r1 = r2 → K σ2) ∧ (¬ (r1 = r2) → False)) → C r1 σ1) : wp_X5_road σ p1 p2 p3 p4 p5 C :=
  L_gen hI (wpC := fun τ Q => wp_X5_road τ p1 p2 p3 p4 p5 Q) (wpM := fun τ Q => wp_X6_road τ p1 p2 p3 p4 p5 Q) (roadA p1 p2 p3 p4 p5) (C_road p1 p2 p3 p4 p5) (M_road p1 p2 p3 p4 p5) (O_road p1 p2 p3 p4 p5) hK hw
