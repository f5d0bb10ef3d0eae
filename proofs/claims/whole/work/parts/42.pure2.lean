theorem e_add {x : Int32} {m : Nat} (h : x = nI m) (c : Nat) : x + nI c = nI (m + c) := by rw [h, nI_add]
theorem e_p0 (n : Nat) : 3 + 4 * nI n = nI (3 + 4 * n) := by rw [show (4 : Int32) = nI 4 from rfl, show (3 : Int32) = nI 3 from rfl, pk_mul, nI_add]
theorem e_r0 (n : Nat) : 35 + 5 * nI n = nI (35 + 5 * n) := by rw [show (5 : Int32) = nI 5 from rfl, show (35 : Int32) = nI 35 from rfl, pk_mul, nI_add]
theorem e_k0 (n : Nat) : 95 + 4 * nI n = nI (95 + 4 * n) := by rw [show (4 : Int32) = nI 4 from rfl, show (95 : Int32) = nI 95 from rfl, pk_mul, nI_add]
theorem s_X6_placeMore {σ : Sg} {n : Nat} {p1 p2 p3 p4 : Int32} {Q : Sg → Prop} (hn : n < 8) (h0 : σ 31 0 = nI n)
    (h : ∀ τ : Sg, τ = put (put (put (put (put σ 31 (3 + 4 * n) p1) 31 (3 + 4 * n + 1) p2) 31 (3 + 4 * n + 2) p3) 31 (3 + 4 * n + 3) p4) 31 0 (nI (n + 1)) → Q τ) : wp_X6_placeMore σ p1 p2 p3 p4 Q := by
  refine s_X6_places ?_
  rw [h0]
  intro x e
  have ex : x = nI (3 + 4 * n) := by rw [e]; exact e_p0 n
  refine ⟨inn ex (by omega) (by decide), ?_⟩
  intro σ1 e1
  rw [ixn ex (by omega)] at e1
  refine ⟨inn (e_add ex 1) (by omega) (by decide), ?_⟩
  intro σ2 e2
  rw [show (x + 1).toNatClampNeg = 3 + 4 * n + 1 from ixn (e_add ex 1) (by omega)] at e2
  refine ⟨inn (e_add ex 2) (by omega) (by decide), ?_⟩
  intro σ3 e3
  rw [show (x + 2).toNatClampNeg = 3 + 4 * n + 2 from ixn (e_add ex 2) (by omega)] at e3
  refine ⟨inn (e_add ex 3) (by omega) (by decide), ?_⟩
  intro σ4 e4
  rw [show (x + 3).toNatClampNeg = 3 + 4 * n + 3 from ixn (e_add ex 3) (by omega)] at e4
  refine ⟨by unfold vp_in; decide, by unfold vp_in; decide, ?_⟩
  intro σ5 e5
  have r4 : σ4 31 0 = nI n := by
    rw [e4, put_n (by omega), e3, put_n (by omega), e2, put_n (by omega), e1, put_n (by omega), h0]
  have e5' : σ5 = put σ4 31 0 (σ4 31 0 + 1) := e5
  rw [r4, nI_1] at e5'
  refine h σ5 ?_
  rw [e5', e4, e3, e2, e1]
theorem M_place (p1 p2 p3 p4 : Int32) : ∀ a, OKT a → ∀ τ, RM τ a → ∀ Q : Int32 → Sg → Prop, (∀ υ, FM τ υ → TM τ υ → RM υ (placeA p1 p2 p3 p4 a).2 → Q (placeA p1 p2 p3 p4 a).1 υ) → wp_X6_place τ p1 p2 p3 p4 Q := by
  intro a hO τ0 hM0 Q h
  unfold wp_X6_place
  intro τ e0
  have f0 : FM τ0 τ := by rw [e0]; exact FM_p τ0 (by decide)
  have t0 : TM τ0 τ := by rw [e0]; exact TM_t τ0 _
  have hM : RM τ a := hM0.keep (by rw [e0]; exact put_o (by decide))
  unfold placeA at h
  refine s_X6_mayBe ⟨fun h1 => ?_, fun h1 => s_X6_mayBe ⟨fun h2 => ?_, fun h2 => s_X6_mayBe ⟨fun h3 => ?_, fun h3 => s_X6_mayBe ⟨fun h4 => ?_, fun h4 => ?_⟩⟩⟩⟩
  · rw [if_pos (Or.inl h1)] at h; exact h τ f0 t0 hM
  · rw [if_pos (Or.inr (Or.inl h2))] at h; exact h τ f0 t0 hM
  · rw [if_pos (Or.inr (Or.inr (Or.inl h3)))] at h; exact h τ f0 t0 hM
  · rw [if_pos (Or.inr (Or.inr (Or.inr h4)))] at h; exact h τ f0 t0 hM
  · rw [if_neg (by rintro (q | q | q | q); exact h1 q; exact h2 q; exact h3 q; exact h4 q)] at h
    refine s_X6_places ?_
    rw [hM.1]
    have h8 := hO.1
    refine pk_eq (aNP a) 8 (fun heq => ?_) (fun hne => ?_) rfl rfl (by omega) (by omega)
    · rw [if_neg (by omega)] at h
      exact h τ f0 t0 hM
    · have hlt : aNP a < 8 := by omega
      rw [if_pos hlt] at h
      refine s_X6_placeMore hlt hM.1 (fun υ e => ?_)
      obtain ⟨-, m1⟩ := mb_yes (w := 0) (hi := 60) (by decide) h1
      obtain ⟨-, m2⟩ := mb_yes (w := 1) (hi := 300) (by decide) h2
      obtain ⟨-, m3⟩ := mb_yes (w := 2) (hi := 20) (by decide) h3
      obtain ⟨-, m4⟩ := mb_yes (w := 3) (hi := 300) (by decide) h4
      have g : ∀ b i, υ b i = if b = 31 ∧ i = 0 then nI (aNP a + 1) else if b = 31 ∧ i = 3 + 4 * aNP a + 3 then p4 else if b = 31 ∧ i = 3 + 4 * aNP a + 2 then p3 else if b = 31 ∧ i = 3 + 4 * aNP a + 1 then p2 else if b = 31 ∧ i = 3 + 4 * aNP a then p1 else τ b i := by
        intro b i
        rw [e]
        simp only [put_at]
      refine s_X6_places ?_
      have r0 : υ 31 0 = nI (aNP a + 1) := by rw [g]; simp
      rw [r0, nI_pred]
      have gk : ∀ k, k ≠ 31 → υ k = τ k := fun k hk => by funext i; rw [g]; simp [hk]
      refine h υ (f0.tr (fun k hk => gk k (by omega))) (t0.tr ⟨by rw [gk 30 (by decide)], by rw [gk 30 (by decide)], gk 33 (by decide)⟩) ?_
      obtain ⟨c1, c2, c3, c4, c5, c6⟩ := hM
      refine ⟨r0, ?_, ?_, ?_, ?_, ?_⟩
      · rw [g, if_neg (by omega), if_neg (by omega), if_neg (by omega), if_neg (by omega), if_neg (by omega)]; exact c2
      · rw [g, if_neg (by omega), if_neg (by omega), if_neg (by omega), if_neg (by omega), if_neg (by omega)]; exact c3
      · intro p hp w hw
        rw [g]
        have hp : p < aNP a + 1 := hp
        show _ = nI (if p = aNP a then (if w = 0 then p1.toNatClampNeg else if w = 1 then p2.toNatClampNeg else if w = 2 then p3.toNatClampNeg else p4.toNatClampNeg) else aP a p w)
        by_cases e1 : p = aNP a
        · subst e1
          rcases (show w = 0 ∨ w = 1 ∨ w = 2 ∨ w = 3 by omega) with rfl | rfl | rfl | rfl
          · simp; exact m1
          · simp; exact m2
          · simp; exact m3
          · simp; exact m4
        · rw [if_neg e1, ← c4 p (by omega) w hw, if_neg (by omega), if_neg (by omega), if_neg (by omega), if_neg (by omega), if_neg (by omega)]
      · intro r hr w hw
        rw [g, if_neg (by omega), if_neg (by omega), if_neg (by omega), if_neg (by omega), if_neg (by omega)]
        exact c5 r hr w hw
      · intro k hk w hw
        rw [g, if_neg (by omega), if_neg (by omega), if_neg (by omega), if_neg (by omega), if_neg (by omega)]
        exact c6 k hk w hw
theorem O_place (p1 p2 p3 p4 : Int32) : ∀ a, OKT a → OKT (placeA p1 p2 p3 p4 a).2 := by
  intro a hO
  unfold placeA
  split
  · exact hO
  · rename_i h
    split
    · rename_i hlt
      have h1 : ¬ mb 0 p1 = 0 := fun q => h (Or.inl q)
      have h2 : ¬ mb 1 p2 = 0 := fun q => h (Or.inr (Or.inl q))
      have h3 : ¬ mb 2 p3 = 0 := fun q => h (Or.inr (Or.inr (Or.inl q)))
      have h4 : ¬ mb 3 p4 = 0 := fun q => h (Or.inr (Or.inr (Or.inr q)))
      obtain ⟨m1, -⟩ := mb_yes (w := 0) (hi := 60) (by decide) h1
      obtain ⟨m2, -⟩ := mb_yes (w := 1) (hi := 300) (by decide) h2
      obtain ⟨m3, -⟩ := mb_yes (w := 2) (hi := 20) (by decide) h3
      obtain ⟨m4, -⟩ := mb_yes (w := 3) (hi := 300) (by decide) h4
      obtain ⟨o1, o2, o3, o4, o5, o6⟩ := hO
      refine ⟨hlt, o2, o3, ?_, ?_, o6⟩
      · intro p hp
        have hp : p < aNP a + 1 := hp
        show (if p = aNP a then _ else aP a p 0) ≤ 60 ∧ (if p = aNP a then _ else aP a p 1) ≤ 300 ∧ (if p = aNP a then _ else aP a p 2) ≤ 20 ∧ (if p = aNP a then _ else aP a p 3) ≤ 300
        by_cases e1 : p = aNP a
        · simp [e1]
          exact ⟨m1, m2, m3, m4⟩
        · simp [e1]
          exact o4 p (by omega)
      · intro r hr
        obtain ⟨d1, d2, d3⟩ := o5 r hr
        exact ⟨Nat.lt_succ_of_lt d1, Nat.lt_succ_of_lt d2, d3⟩
    · exact hO
theorem L_place {σ : Sg} (hI : INV σ) (p1 p2 p3 p4 : Int32) {K : Sg → Prop} (hK : ∀ τ, INV τ → K τ) {C : Int32 → Sg → Prop} (hw : ∀ r1 σ1, wp_X6_place σ1 p1 p2 p3 p4 (fun r2 σ2 => (r1 = r2 → K σ2) ∧ (¬ (r1 = r2) → False)) → C r1 σ1) : wp_X5_place σ p1 p2 p3 p4 C :=
  L_gen hI (wpC := fun τ Q => wp_X5_place τ p1 p2 p3 p4 Q) (wpM := fun τ Q => wp_X6_place τ p1 p2 p3 p4 Q) (placeA p1 p2 p3 p4) (C_place p1 p2 p3 p4) (M_place p1 p2 p3 p4) (O_place p1 p2 p3 p4) hK hw
