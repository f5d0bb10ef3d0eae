/-! a place, a road, a move more: what else stays as it was -/
def CTW (k : Nat) : Prop := k = 1 ∨ k = 2 ∨ k = 6 ∨ k = 7 ∨ k = 8 ∨ k = 9 ∨ k = 13
theorem A_place {τ : Sg} {a : AT} {p1 p2 p3 p4 : Int32} {Q : Int32 → Sg → Prop} (hC : RC τ a) (h1 : ¬ mb 0 p1 = 0) (h2 : ¬ mb 1 p2 = 0) (h3 : ¬ mb 2 p3 = 0) (h4 : ¬ mb 3 p4 = 0) (hlt : aNP a < 8)
    (h : ∀ υ : Sg, (∀ k, ¬ CTW k → υ k = τ k) → RC υ (placeA p1 p2 p3 p4 a).2 → Q (nI (aNP a)) υ) : wp_X3_addPlace τ p1 p2 p3 p4 Q := by
  unfold placeA at h
  rw [if_neg (by rintro (q | q | q | q); exact h1 q; exact h2 q; exact h3 q; exact h4 q), if_pos hlt] at h
  refine s_X3_addPlace hlt hC.1 (fun υ e => ?_)
  obtain ⟨-, m1⟩ := mb_yes (w := 0) (hi := 60) (by decide) h1
  obtain ⟨-, m2⟩ := mb_yes (w := 1) (hi := 300) (by decide) h2
  obtain ⟨-, m3⟩ := mb_yes (w := 2) (hi := 20) (by decide) h3
  obtain ⟨-, m4⟩ := mb_yes (w := 3) (hi := 300) (by decide) h4
  have g : ∀ b i, υ b i = if b = 1 ∧ i = 0 then nI (aNP a + 1) else if b = 9 ∧ i = 4 * aNP a + 3 then p4 else if b = 9 ∧ i = 4 * aNP a + 2 then p3 else if b = 9 ∧ i = 4 * aNP a + 1 then p2 else if b = 9 ∧ i = 4 * aNP a then p1 else τ b i := by
    intro b i
    rw [e]
    simp only [put_at]
  refine h υ (fun k hk => ?_) ?_
  · funext i
    rw [g]
    have a1 : k ≠ 1 := fun z => hk (by unfold CTW; omega)
    have a9 : k ≠ 9 := fun z => hk (by unfold CTW; omega)
    simp [a1, a9]
  · obtain ⟨c1, c2, c3, c4, c5, c6⟩ := hC
    refine ⟨?_, ?_, ?_, ?_, ?_, ?_⟩
    · rw [g]; simp [aNP]
    · rw [g]; simpa [aNR] using c2
    · rw [g]; simpa [aNM] using c3
    · intro p hp w hw
      rw [g]
      have hp : p < aNP a + 1 := hp
      show _ = nI (if p = aNP a then (if w = 0 then p1.toNatClampNeg else if w = 1 then p2.toNatClampNeg else if w = 2 then p3.toNatClampNeg else p4.toNatClampNeg) else aP a p w)
      by_cases e1 : p = aNP a
      · subst e1
        rcases (show w = 0 ∨ w = 1 ∨ w = 2 ∨ w = 3 by omega) with rfl | rfl | rfl | rfl
        · simp; exact m1
        · simp; exact m2
        · simp; exact m3
        · simp; exact m4
      · rw [if_neg e1, ← c4 p (by omega) w hw, if_neg (by omega), if_neg (by omega), if_neg (by omega), if_neg (by omega), if_neg (by omega)]
    · intro r hr
      obtain ⟨d1, d2, d3, d4, d5⟩ := c5 r hr
      refine ⟨?_, ?_, ?_, ?_, ?_⟩ <;> (rw [g]; simp)
      · exact d1
      · exact d2
      · exact d3
      · exact d4
      · exact d5
    · intro k hk w hw
      rw [g]; simp
      exact c6 k hk w hw
theorem B_place {τ : Sg} {a : AT} {p1 p2 p3 p4 : Int32} {Q : Sg → Prop} (hM : RM τ a) (h12 : aNR a ≤ 12) (h1 : ¬ mb 0 p1 = 0) (h2 : ¬ mb 1 p2 = 0) (h3 : ¬ mb 2 p3 = 0) (h4 : ¬ mb 3 p4 = 0) (hlt : aNP a < 8)
    (h : ∀ υ : Sg, (∀ k, k ≠ 31 → υ k = τ k) → RM υ (placeA p1 p2 p3 p4 a).2 → Q υ) : wp_X6_placeMore τ p1 p2 p3 p4 Q := by
  unfold placeA at h
  rw [if_neg (by rintro (q | q | q | q); exact h1 q; exact h2 q; exact h3 q; exact h4 q), if_pos hlt] at h
  refine s_X6_placeMore hlt hM.1 (fun υ e => ?_)
  obtain ⟨-, m1⟩ := mb_yes (w := 0) (hi := 60) (by decide) h1
  obtain ⟨-, m2⟩ := mb_yes (w := 1) (hi := 300) (by decide) h2
  obtain ⟨-, m3⟩ := mb_yes (w := 2) (hi := 20) (by decide) h3
  obtain ⟨-, m4⟩ := mb_yes (w := 3) (hi := 300) (by decide) h4
  have g : ∀ b i, υ b i = if b = 31 ∧ i = 0 then nI (aNP a + 1) else if b = 31 ∧ i = 3 + 4 * aNP a + 3 then p4 else if b = 31 ∧ i = 3 + 4 * aNP a + 2 then p3 else if b = 31 ∧ i = 3 + 4 * aNP a + 1 then p2 else if b = 31 ∧ i = 3 + 4 * aNP a then p1 else τ b i := by
    intro b i
    rw [e]
    simp only [put_at]
  have r0 : υ 31 0 = nI (aNP a + 1) := by rw [g]; simp
  have gk : ∀ k, k ≠ 31 → υ k = τ k := fun k hk => by funext i; rw [g]; simp [hk]
  refine h υ gk ?_
  obtain ⟨c1, c2, c3, c4, c5, c6⟩ := hM
  refine ⟨r0, ?_, ?_, ?_, ?_, ?_⟩
  · rw [g, if_neg (by omega), if_neg (by omega), if_neg (by omega), if_neg (by omega), if_neg (by omega)]; exact c2
  · rw [g, if_neg (by omega), if_neg (by omega), if_neg (by omega), if_neg (by omega), if_neg (by omega)]; exact c3
  · intro p hp w hw
    rw [g]
    have hp : p < aNP a + 1 := hp
    show _ = nI (if p = aNP a then (if w = 0 then p1.toNatClampNeg else if w = 1 then p2.toNatClampNeg else if w = 2 then p3.toNatClampNeg else p4.toNatClampNeg) else aP a p w)
    by_cases e1 : p = aNP a
    · subst e1
      rcases (show w = 0 ∨ w = 1 ∨ w = 2 ∨ w = 3 by omega) with rfl | rfl | rfl | rfl
      · simp; exact m1
      · simp; exact m2
      · simp; exact m3
      · simp; exact m4
    · rw [if_neg e1, ← c4 p (by omega) w hw, if_neg (by omega), if_neg (by omega), if_neg (by omega), if_neg (by omega), if_neg (by omega)]
  · intro r hr w hw
    have hr : r < aNR a := hr
    rw [g, if_neg (by omega), if_neg (by omega), if_neg (by omega), if_neg (by omega), if_neg (by omega)]
    exact c5 r hr w hw
  · intro k hk w hw
    rw [g, if_neg (by omega), if_neg (by omega), if_neg (by omega), if_neg (by omega), if_neg (by omega)]
    exact c6 k hk w hw
theorem A_road {τ : Sg} {a : AT} {p1 p2 p3 p4 p5 : Int32} {Q : Int32 → Sg → Prop} (h8 : aNP a ≤ 8) (hC : RC τ a) (ok : rdOK a p1 p2 p3 p4 p5) (hlt : aNR a < 12)
    (h : ∀ υ : Sg, (∀ k, ¬ CTW k → υ k = τ k) → RC υ (roadA p1 p2 p3 p4 p5 a).2 → Q (nI (aNR a)) υ) : wp_X3_addRoad τ p1 p2 p3 p4 p5 Q := by
  unfold roadA at h
  rw [if_pos ok, if_pos hlt] at h
  refine s_X3_addRoad hlt hC.2.1 (fun υ e => ?_)
  obtain ⟨v1, v2, v3, v4, v5, l1, l2, l3, l4, l5, l6, l7, l8, rfl, rfl, rfl, rfl, rfl⟩ := rd_num h8 ok
  have g : ∀ b i, υ b i = if b = 1 ∧ i = 1 then nI (aNR a + 1) else if b = 8 ∧ i = 2 * aNR a + 1 then nI v5 else if b = 8 ∧ i = 2 * aNR a then nI v4 else if b = 6 ∧ i = aNR a then nI v3 else if b = 7 ∧ i = 2 * aNR a + 1 then nI v2 else if b = 7 ∧ i = 2 * aNR a then nI v1 else τ b i := by
    intro b i
    rw [e]
    simp only [put_at]
  rw [nI_clamp (n := v1) (by omega), nI_clamp (n := v2) (by omega), nI_clamp (n := v3) (by omega), nI_clamp (n := v4) (by omega), nI_clamp (n := v5) (by omega)] at h
  refine h υ (fun k hk => ?_) ?_
  · funext i
    rw [g]
    have a1 : k ≠ 1 := fun z => hk (by unfold CTW; omega)
    have a6 : k ≠ 6 := fun z => hk (by unfold CTW; omega)
    have a7 : k ≠ 7 := fun z => hk (by unfold CTW; omega)
    have a8 : k ≠ 8 := fun z => hk (by unfold CTW; omega)
    simp [a1, a6, a7, a8]
  · obtain ⟨c1, c2, c3, c4, c5, c6⟩ := hC
    refine ⟨by rw [g]; simp; exact c1, by rw [g]; simp [aNR], by rw [g]; simp; exact c3, fun p hp w hw => by rw [g]; simp; exact c4 p hp w hw, ?_, fun k hk w hw => by rw [g]; simp; exact c6 k hk w hw⟩
    intro r hr
    have hr : r < aNR a + 1 := hr
    show υ 7 (2 * r) = nI (if r = aNR a then _ else aR a r 0) ∧ υ 7 (2 * r + 1) = nI (if r = aNR a then _ else aR a r 1) ∧ υ 6 r = nI (if r = aNR a then _ else aR a r 2) ∧ υ 8 (2 * r) = nI (if r = aNR a then _ else aR a r 3) ∧ υ 8 (2 * r + 1) = nI (if r = aNR a then _ else aR a r 4)
    rw [g, g, g, g, g]
    by_cases e1 : r = aNR a
    · subst e1
      simp
    · obtain ⟨d1, d2, d3, d4, d5⟩ := c5 r (by omega)
      have n1 : ¬ 2 * r = 2 * aNR a + 1 := by omega
      have n2 : ¬ 2 * r = 2 * aNR a := by omega
      have n3 : ¬ 2 * r + 1 = 2 * aNR a + 1 := by omega
      have n4 : ¬ 2 * r + 1 = 2 * aNR a := by omega
      simp [e1, n1, n2, n4]
      exact ⟨d1, d2, d3, d4, d5⟩
theorem B_road {τ : Sg} {a : AT} {p1 p2 p3 p4 p5 : Int32} {Q : Sg → Prop} (h8 : aNP a ≤ 8) (hM : RM τ a) (ok : rdOK a p1 p2 p3 p4 p5) (hlt : aNR a < 12)
    (h : ∀ υ : Sg, (∀ k, k ≠ 31 → υ k = τ k) → RM υ (roadA p1 p2 p3 p4 p5 a).2 → Q υ) : wp_X6_roadMore τ p1 p2 p3 p4 p5 Q := by
  unfold roadA at h
  rw [if_pos ok, if_pos hlt] at h
  refine s_X6_roadMore hlt hM.2.1 (fun υ e => ?_)
  obtain ⟨v1, v2, v3, v4, v5, l1, l2, l3, l4, l5, l6, l7, l8, rfl, rfl, rfl, rfl, rfl⟩ := rd_num h8 ok
  have g : ∀ b i, υ b i = if b = 31 ∧ i = 1 then nI (aNR a + 1) else if b = 31 ∧ i = 35 + 5 * aNR a + 4 then nI v5 else if b = 31 ∧ i = 35 + 5 * aNR a + 3 then nI v4 else if b = 31 ∧ i = 35 + 5 * aNR a + 2 then nI v3 else if b = 31 ∧ i = 35 + 5 * aNR a + 1 then nI v2 else if b = 31 ∧ i = 35 + 5 * aNR a then nI v1 else τ b i := by
    intro b i
    rw [e]
    simp only [put_at]
  rw [nI_clamp (n := v1) (by omega), nI_clamp (n := v2) (by omega), nI_clamp (n := v3) (by omega), nI_clamp (n := v4) (by omega), nI_clamp (n := v5) (by omega)] at h
  have r0 : υ 31 1 = nI (aNR a + 1) := by rw [g]; simp
  have gk : ∀ k, k ≠ 31 → υ k = τ k := fun k hk => by funext i; rw [g]; simp [hk]
  refine h υ gk ?_
  obtain ⟨c1, c2, c3, c4, c5, c6⟩ := hM
  have no : ∀ i, i ≠ 1 → (i < 35 + 5 * aNR a ∨ 35 + 5 * aNR a + 4 < i) → υ 31 i = τ 31 i := fun i n1 n2 => by
    rw [g, if_neg (by omega), if_neg (by omega), if_neg (by omega), if_neg (by omega), if_neg (by omega), if_neg (by omega)]
  refine ⟨by rw [no 0 (by omega) (by omega)]; exact c1, r0, by rw [no 2 (by omega) (by omega)]; exact c3, ?_, ?_, ?_⟩
  · intro p hp w hw
    have hp : p < aNP a := hp
    rw [no _ (by omega) (by omega)]; exact c4 p hp w hw
  · intro r hr w hw
    have hr : r < aNR a + 1 := hr
    show υ 31 (35 + 5 * r + w) = nI (if r = aNR a then _ else aR a r w)
    by_cases e1 : r = aNR a
    · subst e1
      rw [g]
      rcases (show w = 0 ∨ w = 1 ∨ w = 2 ∨ w = 3 ∨ w = 4 by omega) with rfl | rfl | rfl | rfl | rfl
      all_goals (simp; try omega)
    · rw [if_neg e1, no _ (by omega) (by omega)]; exact c5 r (by omega) w hw
  · intro k hk w hw
    rw [no _ (by omega) (by omega)]; exact c6 k hk w hw
theorem A_move {τ : Sg} {a : AT} {p1 p2 b p4 : Int32} {Q : Int32 → Sg → Prop} (h12 : aNR a ≤ 12) (hC : RC τ a) (ok : mvOK a p1 p2 p4) (hlt : aNM a < 40)
    (h : ∀ υ : Sg, (∀ k, ¬ CTW k → υ k = τ k) → RC υ (moveA p1 p2 b p4 a).2 → Q (nI (aNM a)) υ) : wp_X1_add τ p1 p2 b p4 Q := by
  unfold moveA at h
  rw [if_pos ok, if_pos hlt] at h
  refine s_X1_add hlt hC.2.2.1 (fun υ e => ?_)
  obtain ⟨v1, v2, v4, l1, l2, l3, l4, rfl, rfl, rfl⟩ := mv_num h12 ok
  have g : ∀ c i, υ c i = if c = 2 ∧ i = 0 then nI (aNM a + 1) else if c = 13 ∧ i = 4 * aNM a + 3 then nI v4 else if c = 13 ∧ i = 4 * aNM a + 2 then nI (b01 b) else if c = 13 ∧ i = 4 * aNM a + 1 then nI v2 else if c = 13 ∧ i = 4 * aNM a then nI v1 else τ c i := by
    intro c i
    rw [e]
    simp only [put_at]
  rw [nI_clamp (n := v1) (by omega), nI_clamp (n := v2) (by omega), nI_clamp (n := v4) (by omega)] at h
  refine h υ (fun k hk => ?_) ?_
  · funext i
    rw [g]
    have a1 : k ≠ 2 := fun z => hk (by unfold CTW; omega)
    have a6 : k ≠ 13 := fun z => hk (by unfold CTW; omega)
    simp [a1, a6]
  · obtain ⟨c1, c2, c3, c4, c5, c6⟩ := hC
    refine ⟨by rw [g]; simp; exact c1, by rw [g]; simp; exact c2, by rw [g]; simp [aNM], fun p hp w hw => by rw [g]; simp; exact c4 p hp w hw, fun r hr => ?_, ?_⟩
    · rw [g, g, g, g, g]; simp; exact c5 r hr
    · intro k hk w hw
      have hk : k < aNM a + 1 := hk
      show υ 13 (4 * k + w) = nI (if k = aNM a then _ else aM a k w)
      rw [g]
      by_cases e1 : k = aNM a
      · subst e1
        rcases (show w = 0 ∨ w = 1 ∨ w = 2 ∨ w = 3 by omega) with rfl | rfl | rfl | rfl
        all_goals simp
      · rw [if_neg e1, if_neg (by omega), if_neg (by omega), if_neg (by omega), if_neg (by omega), if_neg (by omega)]
        exact c6 k (by omega) w hw
theorem B_move {τ : Sg} {a : AT} {p1 p2 b p3 p4 : Int32} {Q : Sg → Prop} (h8 : aNP a ≤ 8) (h12 : aNR a ≤ 12) (hM : RM τ a) (ok : mvOK a p1 p2 p4) (hlt : aNM a < 40) (hb : p3 = nI (b01 b))
    (h : ∀ υ : Sg, (∀ k, k ≠ 31 → υ k = τ k) → RM υ (moveA p1 p2 b p4 a).2 → Q υ) : wp_X6_moveMore τ p1 p2 p3 p4 Q := by
  unfold moveA at h
  rw [if_pos ok, if_pos hlt] at h
  refine s_X6_moveMore hlt hM.2.2.1 (fun υ e => ?_)
  rw [hb] at e
  obtain ⟨v1, v2, v4, l1, l2, l3, l4, rfl, rfl, rfl⟩ := mv_num h12 ok
  have g : ∀ c i, υ c i = if c = 31 ∧ i = 2 then nI (aNM a + 1) else if c = 31 ∧ i = 95 + 4 * aNM a + 3 then nI v4 else if c = 31 ∧ i = 95 + 4 * aNM a + 2 then nI (b01 b) else if c = 31 ∧ i = 95 + 4 * aNM a + 1 then nI v2 else if c = 31 ∧ i = 95 + 4 * aNM a then nI v1 else τ c i := by
    intro c i
    rw [e]
    simp only [put_at]
  rw [nI_clamp (n := v1) (by omega), nI_clamp (n := v2) (by omega), nI_clamp (n := v4) (by omega)] at h
  have r0 : υ 31 2 = nI (aNM a + 1) := by rw [g]; simp
  have gk : ∀ k, k ≠ 31 → υ k = τ k := fun k hk => by funext i; rw [g]; simp [hk]
  refine h υ gk ?_
  obtain ⟨c1, c2, c3, c4, c5, c6⟩ := hM
  have no : ∀ i, i ≠ 2 → i < 95 + 4 * aNM a → υ 31 i = τ 31 i := fun i n1 n2 => by
    rw [g, if_neg (by omega), if_neg (by omega), if_neg (by omega), if_neg (by omega), if_neg (by omega)]
  refine ⟨by rw [no 0 (by omega) (by omega)]; exact c1, by rw [no 1 (by omega) (by omega)]; exact c2, r0, ?_, ?_, ?_⟩
  · intro p hp w hw
    have hp : p < aNP a := hp
    rw [no _ (by omega) (by omega)]; exact c4 p hp w hw
  · intro r hr w hw
    have hr : r < aNR a := hr
    rw [no _ (by omega) (by omega)]; exact c5 r hr w hw
  · intro k hk w hw
    have hk : k < aNM a + 1 := hk
    show υ 31 (95 + 4 * k + w) = nI (if k = aNM a then _ else aM a k w)
    by_cases e1 : k = aNM a
    · subst e1
      rw [g]
      rcases (show w = 0 ∨ w = 1 ∨ w = 2 ∨ w = 3 by omega) with rfl | rfl | rfl | rfl
      all_goals (simp; try omega)
    · rw [if_neg e1, no _ (by omega) (by omega)]; exact c6 k (by omega) w hw
/-- a town that has grown, or whose lanes have turned -/
def EXT (a0 a : AT) : Prop := aNP a0 ≤ aNP a ∧ aNR a0 ≤ aNR a ∧ aNM a0 ≤ aNM a ∧ (∀ p, p < aNP a0 → aP a p = aP a0 p) ∧ (∀ r, r < aNR a0 → ∀ w, w < 3 → aR a r w = aR a0 r w) ∧ (∀ k, k < aNM a0 → aM a k = aM a0 k)
theorem EXT.rf (a : AT) : EXT a a := ⟨Nat.le_refl _, Nat.le_refl _, Nat.le_refl _, fun _ _ => rfl, fun _ _ _ _ => rfl, fun _ _ => rfl⟩
theorem EXT.tr {a b c : AT} (h : EXT a b) (g : EXT b c) : EXT a c :=
  ⟨Nat.le_trans h.1 g.1, Nat.le_trans h.2.1 g.2.1, Nat.le_trans h.2.2.1 g.2.2.1, fun p hp => (g.2.2.2.1 p (Nat.lt_of_lt_of_le hp h.1)).trans (h.2.2.2.1 p hp), fun r hr w hw => (g.2.2.2.2.1 r (Nat.lt_of_lt_of_le hr h.2.1) w hw).trans (h.2.2.2.2.1 r hr w hw), fun k hk => (g.2.2.2.2.2 k (Nat.lt_of_lt_of_le hk h.2.2.1)).trans (h.2.2.2.2.2 k hk)⟩
theorem X_place (p1 p2 p3 p4 : Int32) (a : AT) : EXT a (placeA p1 p2 p3 p4 a).2 := by
  unfold placeA
  split
  · exact EXT.rf a
  · split
    · refine ⟨Nat.le_succ _, Nat.le_refl _, Nat.le_refl _, fun p hp => ?_, fun _ _ _ _ => rfl, fun _ _ => rfl⟩
      funext w
      show (if p = aNP a then _ else aP a p w) = _
      rw [if_neg (by omega)]
    · exact EXT.rf a
theorem X_road (p1 p2 p3 p4 p5 : Int32) (a : AT) : EXT a (roadA p1 p2 p3 p4 p5 a).2 := by
  unfold roadA
  split
  · split
    · refine ⟨Nat.le_refl _, Nat.le_succ _, Nat.le_refl _, fun _ _ => rfl, fun r hr w hw => ?_, fun _ _ => rfl⟩
      show (if r = aNR a then _ else aR a r w) = _
      rw [if_neg (by omega)]
    · exact EXT.rf a
  · exact EXT.rf a
theorem X_move (p1 p2 b p4 : Int32) (a : AT) : EXT a (moveA p1 p2 b p4 a).2 := by
  unfold moveA
  split
  · split
    · refine ⟨Nat.le_refl _, Nat.le_refl _, Nat.le_succ _, fun _ _ => rfl, fun _ _ _ _ => rfl, fun k hk => ?_⟩
      funext w
      show (if k = aNM a then _ else aM a k w) = _
      rw [if_neg (by omega)]
    · exact EXT.rf a
  · exact EXT.rf a
theorem X_turn (r k : Int32) (a : AT) : EXT a (turnA r k a).2 := by
  unfold turnA
  split
  · refine ⟨Nat.le_refl _, Nat.le_refl _, Nat.le_refl _, fun _ _ => rfl, fun q hq w hw => ?_, fun _ _ => rfl⟩
    show up2 (up2 (aR a) _ 3 _) _ 4 _ q w = aR a q w
    unfold up2
    rw [if_neg (by omega), if_neg (by omega)]
  · exact EXT.rf a
