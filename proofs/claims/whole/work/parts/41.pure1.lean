/-! How the class's call and the reference's are put together -/
def TC (σ τ : Sg) : Prop := τ 3 0 = σ 3 0 ∧ τ 3 1 = σ 3 1 ∧ τ 16 = σ 16
def TM (σ τ : Sg) : Prop := τ 30 4 = σ 30 4 ∧ τ 30 5 = σ 30 5 ∧ τ 33 = σ 33
theorem TC.rf (σ : Sg) : TC σ σ := ⟨rfl, rfl, rfl⟩
theorem TM.rf (σ : Sg) : TM σ σ := ⟨rfl, rfl, rfl⟩
theorem TC.tr {σ τ υ : Sg} (h : TC σ τ) (g : TC τ υ) : TC σ υ := ⟨g.1.trans h.1, g.2.1.trans h.2.1, g.2.2.trans h.2.2⟩
theorem TM.tr {σ τ υ : Sg} (h : TM σ τ) (g : TM τ υ) : TM σ υ := ⟨g.1.trans h.1, g.2.1.trans h.2.1, g.2.2.trans h.2.2⟩
theorem TC_p (σ : Sg) {k j : Nat} {v : Int32} (h : k ≠ 3) (h2 : k ≠ 16) : TC σ (put σ k j v) := ⟨by rw [put_o (Ne.symm h)], by rw [put_o (Ne.symm h)], by rw [put_o (Ne.symm h2)]⟩
theorem TM_p (σ : Sg) {k j : Nat} {v : Int32} (h : k ≠ 30) (h2 : k ≠ 33) : TM σ (put σ k j v) := ⟨by rw [put_o (Ne.symm h)], by rw [put_o (Ne.symm h)], by rw [put_o (Ne.symm h2)]⟩
theorem TM_t (σ : Sg) (v : Int32) : TM σ (put σ 30 0 v) := ⟨put_n (by decide), put_n (by decide), put_o (by decide)⟩
theorem RC.keep {σ τ : Sg} {a : AT} (h : RC σ a) (h1 : τ 1 0 = σ 1 0) (h2 : τ 1 1 = σ 1 1) (h3 : τ 2 0 = σ 2 0) (h6 : τ 6 = σ 6) (h7 : τ 7 = σ 7) (h8 : τ 8 = σ 8) (h9 : τ 9 = σ 9) (h13 : τ 13 = σ 13) : RC τ a := by
  unfold RC at h ⊢
  rw [h1, h2, h3, h6, h7, h8, h9, h13]
  exact h
theorem RC.fm {σ τ : Sg} {a : AT} (h : RC σ a) (f : FM σ τ) : RC τ a := h.keep (by rw [f 1 (by decide)]) (by rw [f 1 (by decide)]) (by rw [f 2 (by decide)]) (f 6 (by decide)) (f 7 (by decide)) (f 8 (by decide)) (f 9 (by decide)) (f 13 (by decide))
theorem RM.keep {σ τ : Sg} {a : AT} (h : RM σ a) (h1 : τ 31 = σ 31) : RM τ a := by
  unfold RM at h ⊢
  rw [h1]
  exact h
theorem RM.fc {σ τ : Sg} {a : AT} (h : RM σ a) (f : FC σ τ) : RM τ a := h.keep (f 31 (by decide))
theorem INV_step {σ τ1 τ2 : Sg} {a' : AT} {nt : Nat} {tp : Nat → Int32} {ft : Int32} (hO : OKT a') (hC : RC τ1 a') (hM : RM τ2 a') (hT : RT σ nt tp ft) (fc : FC σ τ1) (tc : TC σ τ1) (fm : FM τ1 τ2) (tm : TM τ1 τ2) : INV τ2 := by
  refine ⟨a', nt, tp, ft, hO, hC.fm fm, hM, hT.1, ?_, ?_, ?_, ?_, ?_⟩
  · rw [fm 3 (by decide), tc.1]; exact hT.2.1
  · rw [tm.1, fc 30 (by decide)]; exact hT.2.2.1
  · intro j hj
    obtain ⟨h1, h2, h3⟩ := hT.2.2.2.1 j hj
    exact ⟨by rw [fm 16 (by decide), tc.2.2]; exact h1, by rw [tm.2.2, fc 33 (by decide)]; exact h2, h3⟩
  · rw [fm 3 (by decide), tc.2.1]; exact hT.2.2.2.2.1
  · rw [tm.2.1, fc 30 (by decide)]; exact hT.2.2.2.2.2
/-- a call on both sides, from what each does to the town -/
theorem L_gen {σ : Sg} (hI : INV σ) {wpC wpM : Sg → (Int32 → Sg → Prop) → Prop} (f : AT → Int32 × AT)
    (hC : ∀ a, OKT a → ∀ τ, RC τ a → ∀ Q : Int32 → Sg → Prop, (∀ υ, FC τ υ → TC τ υ → RC υ (f a).2 → Q (f a).1 υ) → wpC τ Q)
    (hM : ∀ a, OKT a → ∀ τ, RM τ a → ∀ Q : Int32 → Sg → Prop, (∀ υ, FM τ υ → TM τ υ → RM υ (f a).2 → Q (f a).1 υ) → wpM τ Q)
    (hO : ∀ a, OKT a → OKT (f a).2) {K : Sg → Prop} (hK : ∀ τ, INV τ → K τ) {C : Int32 → Sg → Prop} (hw : ∀ r1 σ1, wpM σ1 (fun r2 σ2 => (r1 = r2 → K σ2) ∧ (¬ (r1 = r2) → False)) → C r1 σ1) : wpC σ C := by
  obtain ⟨a, nt, tp, ft, h0, h1, h2, h3⟩ := hI
  refine hC a h0 σ h1 _ (fun τ fc tc hc => ?_)
  refine hw _ _ (hM a h0 τ (h2.fc fc) _ (fun υ fm tm hm => ?_))
  exact ⟨fun _ => hK υ (INV_step (hO a h0) hc hm h3 fc tc fm tm), fun h => absurd rfl h⟩
theorem s_X3_fact {σ : Sg} {p w : Nat} {Q : Int32 → Sg → Prop} (hp : p < 8) (hw : w < 4) (h : Q (σ 9 (4 * p + w)) σ) : wp_X3_fact σ (nI p) (nI w) Q := by
  unfold wp_X3_fact
  rw [e_m4]
  exact ⟨vp_in_nI (by omega) (by decide), by rw [nI_clamp (by omega)]; exact h⟩
theorem s_X3_change {σ : Sg} {p w : Nat} {v : Int32} {Q : Sg → Prop} (hp : p < 8) (hw : w < 4) (h : Q (put σ 9 (4 * p + w) v)) : wp_X3_change σ (nI p) (nI w) v Q := by
  unfold wp_X3_change
  rw [e_m4]
  refine ⟨vp_in_nI (by omega) (by decide), ?_⟩
  rw [nI_clamp (by omega)]
  intro σ1 e1
  subst e1
  exact h
/-! place -/
def placeA (p1 p2 p3 p4 : Int32) (a : AT) : Int32 × AT :=
  if mb 0 p1 = 0 ∨ mb 1 p2 = 0 ∨ mb 2 p3 = 0 ∨ mb 3 p4 = 0 then (-1, a) else
  if aNP a < 8 then (nI (aNP a), ((aNP a + 1, aNR a, aNM a), (fun p w => if p = aNP a then (if w = 0 then p1.toNatClampNeg else if w = 1 then p2.toNatClampNeg else if w = 2 then p3.toNatClampNeg else p4.toNatClampNeg) else aP a p w), aR a, aM a)) else (-2, a)
theorem mb_yes {w hi : Nat} {x : Int32} (hw : (w = 0 ∧ hi = 60) ∨ (w = 1 ∧ hi = 300) ∨ (w = 2 ∧ hi = 20) ∨ (w = 3 ∧ hi = 300)) (h : ¬ mb (nI w) x = 0) : x.toNatClampNeg ≤ hi ∧ x = nI x.toNatClampNeg := by
  have key : ¬ inr (nI 0) (nI hi) x = 0 := by
    rcases hw with ⟨rfl, rfl⟩ | ⟨rfl, rfl⟩ | ⟨rfl, rfl⟩ | ⟨rfl, rfl⟩ <;> exact h
  obtain ⟨v, -, h2, h3⟩ := inr_yes (by decide) (by omega) key
  rw [ixn h3 (by omega)]
  exact ⟨h2, h3⟩
theorem s_X3_addPlace {σ : Sg} {n : Nat} {p1 p2 p3 p4 : Int32} {Q : Int32 → Sg → Prop} (hn : n < 8) (h0 : σ 1 0 = nI n)
    (h : ∀ τ : Sg, τ = put (put (put (put (put σ 9 (4 * n) p1) 9 (4 * n + 1) p2) 9 (4 * n + 2) p3) 9 (4 * n + 3) p4) 1 0 (nI (n + 1)) → Q (nI n) τ) : wp_X3_addPlace σ p1 p2 p3 p4 Q := by
  unfold wp_X3_addPlace
  rw [h0]
  refine s_X3_change (w := 0) hn (by decide) ?_
  rw [put_o (by decide), h0]
  refine s_X3_change (w := 1) hn (by decide) ?_
  rw [put_o (by decide), put_o (by decide), h0]
  refine s_X3_change (w := 2) hn (by decide) ?_
  rw [put_o (by decide), put_o (by decide), put_o (by decide), h0]
  refine s_X3_change (w := 3) hn (by decide) ?_
  intro σ1 e1
  have e2 : (put (put (put (put σ 9 (4 * n + 0) p1) 9 (4 * n + 1) p2) 9 (4 * n + 2) p3) 9 (4 * n + 3) p4) 1 0 = nI n := by
    rw [put_o (by decide), put_o (by decide), put_o (by decide), put_o (by decide), h0]
  rw [e2, nI_1] at e1
  subst e1
  rw [put_s, nI_pred]
  exact h _ rfl
theorem C_place (p1 p2 p3 p4 : Int32) : ∀ a, OKT a → ∀ τ, RC τ a → ∀ Q : Int32 → Sg → Prop, (∀ υ, FC τ υ → TC τ υ → RC υ (placeA p1 p2 p3 p4 a).2 → Q (placeA p1 p2 p3 p4 a).1 υ) → wp_X5_place τ p1 p2 p3 p4 Q := by
  intro a hO τ hC Q h
  unfold wp_X5_place
  unfold placeA at h
  refine s_X3_factFits ⟨fun h1 => ?_, fun h1 => s_X3_factFits ⟨fun h2 => ?_, fun h2 => s_X3_factFits ⟨fun h3 => ?_, fun h3 => s_X3_factFits ⟨fun h4 => ?_, fun h4 => ?_⟩⟩⟩⟩
  · rw [if_pos (Or.inl h1)] at h; exact h τ (FC.rf τ) (TC.rf τ) hC
  · rw [if_pos (Or.inr (Or.inl h2))] at h; exact h τ (FC.rf τ) (TC.rf τ) hC
  · rw [if_pos (Or.inr (Or.inr (Or.inl h3)))] at h; exact h τ (FC.rf τ) (TC.rf τ) hC
  · rw [if_pos (Or.inr (Or.inr (Or.inr h4)))] at h; exact h τ (FC.rf τ) (TC.rf τ) hC
  · rw [if_neg (by rintro (q | q | q | q); exact h1 q; exact h2 q; exact h3 q; exact h4 q)] at h
    rw [hC.1]
    have h8 := hO.1
    refine pk_lt (aNP a) 8 (fun hlt => ?_) (fun hge => ?_) rfl rfl (by omega) (by omega)
    · rw [if_pos hlt] at h
      refine s_X3_addPlace hlt hC.1 (fun υ e => ?_)
      obtain ⟨-, m1⟩ := mb_yes (w := 0) (hi := 60) (by decide) h1
      obtain ⟨-, m2⟩ := mb_yes (w := 1) (hi := 300) (by decide) h2
      obtain ⟨-, m3⟩ := mb_yes (w := 2) (hi := 20) (by decide) h3
      obtain ⟨-, m4⟩ := mb_yes (w := 3) (hi := 300) (by decide) h4
      have g : ∀ b i, υ b i = if b = 1 ∧ i = 0 then nI (aNP a + 1) else if b = 9 ∧ i = 4 * aNP a + 3 then p4 else if b = 9 ∧ i = 4 * aNP a + 2 then p3 else if b = 9 ∧ i = 4 * aNP a + 1 then p2 else if b = 9 ∧ i = 4 * aNP a then p1 else τ b i := by
        intro b i
        rw [e]
        simp only [put_at]
      refine h υ (fun k hk => ?_) ⟨?_, ?_, ?_⟩ ?_
      · funext i
        rw [g]
        have a1 : k ≠ 1 := by omega
        have a9 : k ≠ 9 := by omega
        simp [a1, a9]
      · rw [g]; simp
      · rw [g]; simp
      · funext i; rw [g]; simp
      · obtain ⟨c1, c2, c3, c4, c5, c6⟩ := hC
        refine ⟨?_, ?_, ?_, ?_, ?_, ?_⟩
        · rw [g]; simp [aNP]
        · rw [g]; simpa [aNR] using c2
        · rw [g]; simpa [aNM] using c3
        · intro p hp w hw
          rw [g]
          have hp : p < aNP a + 1 := hp
          show _ = nI (if p = aNP a then (if w = 0 then p1.toNatClampNeg else if w = 1 then p2.toNatClampNeg else if w = 2 then p3.toNatClampNeg else p4.toNatClampNeg) else aP a p w)
          by_cases e1 : p = aNP a
          · subst e1
            rcases (show w = 0 ∨ w = 1 ∨ w = 2 ∨ w = 3 by omega) with rfl | rfl | rfl | rfl
            · simp; exact m1
            · simp; exact m2
            · simp; exact m3
            · simp; exact m4
          · rw [if_neg e1, ← c4 p (by omega) w hw, if_neg (by omega), if_neg (by omega), if_neg (by omega), if_neg (by omega), if_neg (by omega)]
        · intro r hr
          obtain ⟨d1, d2, d3, d4, d5⟩ := c5 r hr
          refine ⟨?_, ?_, ?_, ?_, ?_⟩ <;> (rw [g]; simp)
          · exact d1
          · exact d2
          · exact d3
          · exact d4
          · exact d5
        · intro k hk w hw
          rw [g]; simp
          exact c6 k hk w hw
    · rw [if_neg (by omega)] at h
      exact h τ (FC.rf τ) (TC.rf τ) hC
