/-! move, back -/
abbrev mvOK (a : AT) (p1 p2 p4 : Int32) : Prop := ¬ inr 0 40 p1 = 0 ∧ ¬ inp (nI (aNR a)) p2 = 0 ∧ ¬ inr 1 60 p4 = 0
def b01 (b : Int32) : Nat := if b = 0 then 0 else 1
def moveA (p1 p2 b p4 : Int32) (a : AT) : Int32 × AT := if mvOK a p1 p2 p4 then
  (if aNM a < 40 then (nI (aNM a), ((aNP a, aNR a, aNM a + 1), aP a, aR a, (fun k w => if k = aNM a then (if w = 0 then p1.toNatClampNeg else if w = 1 then p2.toNatClampNeg else if w = 2 then b01 b else p4.toNatClampNeg) else aM a k w))) else (-2, a)) else (-1, a)
theorem mv_num {a : AT} {p1 p2 p4 : Int32} (h12 : aNR a ≤ 12) (h : mvOK a p1 p2 p4) : ∃ v1 v2 v4, v1 ≤ 40 ∧ v2 < aNR a ∧ 1 ≤ v4 ∧ v4 ≤ 60 ∧ p1 = nI v1 ∧ p2 = nI v2 ∧ p4 = nI v4 := by
  obtain ⟨h1, h2, h3⟩ := h
  obtain ⟨v1, -, l1, rfl⟩ := inr_yes (a := 0) (b := 40) (by decide) (by decide) h1
  obtain ⟨v2, l2, rfl⟩ := inp_yes (by omega) h2
  obtain ⟨v4, l3, l4, rfl⟩ := inr_yes (a := 1) (b := 60) (by decide) (by decide) h3
  exact ⟨v1, v2, v4, l1, l2, l3, l4, rfl, rfl, rfl⟩
theorem s_mf0 {σ : Sg} {x : Int32} {Q : Int32 → Sg → Prop} (h : Q (inr 0 40 x) σ) : wp_X1_moveFits σ 0 x Q := by
  unfold wp_X1_moveFits
  exact ⟨fun _ => s_inr h, fun z => absurd z (by decide), fun z => absurd rfl z⟩
theorem s_mf1 {σ : Sg} {x : Int32} {Q : Int32 → Sg → Prop} (h : Q (inp (σ 1 1) x) σ) : wp_X1_moveFits σ 1 x Q := by
  unfold wp_X1_moveFits
  exact ⟨fun z => absurd z (by decide), fun _ => s_X3_hasRoad ⟨inp_bz _ _, h⟩, fun _ z => absurd rfl z⟩
theorem s_mf2 {σ : Sg} {x : Int32} {Q : Int32 → Sg → Prop} (h : Q (inr 1 60 x) σ) : wp_X1_moveFits σ 2 x Q := by
  unfold wp_X1_moveFits
  exact ⟨fun z => absurd z (by decide), fun z => absurd z (by decide), fun _ _ => s_inr h⟩
theorem e_4 (n : Nat) : nI n * 4 = nI (4 * n) := by rw [show (4 : Int32) = nI 4 from rfl, pk_mul, Nat.mul_comm]
theorem s_X1_add {σ : Sg} {n : Nat} {p1 p2 b p4 : Int32} {Q : Int32 → Sg → Prop} (hn : n < 40) (h0 : σ 2 0 = nI n)
    (h : ∀ τ : Sg, τ = put (put (put (put (put σ 13 (4 * n) p1) 13 (4 * n + 1) p2) 13 (4 * n + 2) (nI (b01 b))) 13 (4 * n + 3) p4) 2 0 (nI (n + 1)) → Q (nI n) τ) : wp_X1_add σ p1 p2 b p4 Q := by
  unfold wp_X1_add
  rw [h0]
  intro x e
  have ex : x = nI (4 * n) := by rw [e]; exact e_4 n
  refine ⟨inn (e_add ex 0) (by omega) (by decide), ?_⟩
  intro σ1 e1
  rw [show (x + 0).toNatClampNeg = 4 * n from ixn (e_add ex 0) (by omega)] at e1
  refine ⟨inn (e_add ex 1) (by omega) (by decide), ?_⟩
  intro σ2 e2
  rw [show (x + 1).toNatClampNeg = 4 * n + 1 from ixn (e_add ex 1) (by omega)] at e2
  have key : ∀ y : Int32, y = nI (b01 b) → wp_X1_add_45 Q p4 x (x + 2) y σ2 := by
    intro y ey
    refine ⟨inn (e_add ex 2) (by omega) (by decide), ?_⟩
    intro σ3 e3
    rw [show (x + 2).toNatClampNeg = 4 * n + 2 from ixn (e_add ex 2) (by omega), ey] at e3
    refine ⟨inn (e_add ex 3) (by omega) (by decide), ?_⟩
    intro σ4 e4
    rw [show (x + 3).toNatClampNeg = 4 * n + 3 from ixn (e_add ex 3) (by omega)] at e4
    intro σ5 e5
    have r4 : σ4 2 0 = nI n := by rw [e4, put_o (by decide), e3, put_o (by decide), e2, put_o (by decide), e1, put_o (by decide), h0]
    rw [r4, nI_1] at e5
    have r5 : σ5 2 0 = nI (n + 1) := by rw [e5, put_s]
    rw [r5, nI_pred]
    exact h σ5 (by rw [e5, e4, e3, e2, e1])
  refine ⟨fun z => key 0 ?_, fun z => key 1 ?_⟩
  · unfold b01; rw [if_pos z]; rfl
  · unfold b01; rw [if_neg z]; rfl
theorem C_move (p1 p2 b p4 : Int32) : ∀ a, OKT a → ∀ τ, RC τ a → ∀ Q : Int32 → Sg → Prop, (∀ υ, FC τ υ → TC τ υ → RC υ (moveA p1 p2 b p4 a).2 → Q (moveA p1 p2 b p4 a).1 υ) → wp_X5_move τ p1 p2 b p4 Q := by
  intro a hO τ hC Q h
  unfold wp_X5_move
  unfold moveA at h
  have h12 := hO.2.1
  have h40 := hO.2.2.1
  have neg : ¬ mvOK a p1 p2 p4 → Q (-1) τ := fun z => by rw [if_neg z] at h; exact h τ (FC.rf τ) (TC.rf τ) hC
  refine s_mf0 ⟨fun z => neg (fun y => y.1 z), fun h1 => s_mf1 ?_⟩
  rw [hC.2.1]
  refine ⟨fun z => neg (fun y => y.2.1 z), fun h2 => s_mf2 ⟨fun z => neg (fun y => y.2.2 z), fun h3 => ?_⟩⟩
  have ok : mvOK a p1 p2 p4 := ⟨h1, h2, h3⟩
  rw [if_pos ok] at h
  rw [hC.2.2.1]
  refine pk_lt (aNM a) 40 (fun hlt => ?_) (fun hge => ?_) rfl rfl (by omega) (by omega)
  · rw [if_pos hlt] at h
    refine s_X1_add hlt hC.2.2.1 (fun υ e => ?_)
    obtain ⟨v1, v2, v4, l1, l2, l3, l4, rfl, rfl, rfl⟩ := mv_num h12 ok
    have g : ∀ c i, υ c i = if c = 2 ∧ i = 0 then nI (aNM a + 1) else if c = 13 ∧ i = 4 * aNM a + 3 then nI v4 else if c = 13 ∧ i = 4 * aNM a + 2 then nI (b01 b) else if c = 13 ∧ i = 4 * aNM a + 1 then nI v2 else if c = 13 ∧ i = 4 * aNM a then nI v1 else τ c i := by
      intro c i
      rw [e]
      simp only [put_at]
    rw [nI_clamp (n := v1) (by omega), nI_clamp (n := v2) (by omega), nI_clamp (n := v4) (by omega)] at h
    refine h υ (fun k hk => ?_) ⟨by rw [g]; simp, by rw [g]; simp, by funext i; rw [g]; simp⟩ ?_
    · funext i
      rw [g]
      have a1 : k ≠ 2 := by omega
      have a6 : k ≠ 13 := by omega
      simp [a1, a6]
    · obtain ⟨c1, c2, c3, c4, c5, c6⟩ := hC
      refine ⟨by rw [g]; simp; exact c1, by rw [g]; simp; exact c2, by rw [g]; simp [aNM], fun p hp w hw => by rw [g]; simp; exact c4 p hp w hw, fun r hr => ?_, ?_⟩
      · rw [g, g, g, g, g]; simp; exact c5 r hr
      · intro k hk w hw
        have hk : k < aNM a + 1 := hk
        show υ 13 (4 * k + w) = nI (if k = aNM a then _ else aM a k w)
        rw [g]
        by_cases e1 : k = aNM a
        · subst e1
          rcases (show w = 0 ∨ w = 1 ∨ w = 2 ∨ w = 3 by omega) with rfl | rfl | rfl | rfl
          all_goals simp
        · rw [if_neg e1, if_neg (by omega), if_neg (by omega), if_neg (by omega), if_neg (by omega), if_neg (by omega)]
          exact c6 k (by omega) w hw
  · rw [if_neg (by omega)] at h
    exact h τ (FC.rf τ) (TC.rf τ) hC
theorem s_X6_moveMore {σ : Sg} {n : Nat} {p1 p2 p3 p4 : Int32} {Q : Sg → Prop} (hn : n < 40) (h0 : σ 31 2 = nI n)
    (h : ∀ τ : Sg, τ = put (put (put (put (put σ 31 (95 + 4 * n) p1) 31 (95 + 4 * n + 1) p2) 31 (95 + 4 * n + 2) p3) 31 (95 + 4 * n + 3) p4) 31 2 (nI (n + 1)) → Q τ) : wp_X6_moveMore σ p1 p2 p3 p4 Q := by
  refine s_X6_moves ?_
  rw [h0]
  intro x e
  have ex : x = nI (95 + 4 * n) := by rw [e]; exact e_k0 n
  refine ⟨inn ex (by omega) (by decide), ?_⟩
  intro σ1 e1
  rw [ixn ex (by omega)] at e1
  refine ⟨inn (e_add ex 1) (by omega) (by decide), ?_⟩
  intro σ2 e2
  rw [show (x + 1).toNatClampNeg = 95 + 4 * n + 1 from ixn (e_add ex 1) (by omega)] at e2
  refine ⟨inn (e_add ex 2) (by omega) (by decide), ?_⟩
  intro σ3 e3
  rw [show (x + 2).toNatClampNeg = 95 + 4 * n + 2 from ixn (e_add ex 2) (by omega)] at e3
  refine ⟨inn (e_add ex 3) (by omega) (by decide), ?_⟩
  intro σ4 e4
  rw [show (x + 3).toNatClampNeg = 95 + 4 * n + 3 from ixn (e_add ex 3) (by omega)] at e4
  refine ⟨by unfold vp_in; decide, by unfold vp_in; decide, ?_⟩
  intro σ5 e5
  have r4 : σ4 31 2 = nI n := by
    rw [e4, put_n (by omega), e3, put_n (by omega), e2, put_n (by omega), e1, put_n (by omega), h0]
  have e5' : σ5 = put σ4 31 2 (σ4 31 2 + 1) := e5
  rw [r4, nI_1] at e5'
  refine h σ5 ?_
  rw [e5', e4, e3, e2, e1]
theorem M_move (p1 p2 b p4 : Int32) : ∀ a, OKT a → ∀ τ, RM τ a → ∀ Q : Int32 → Sg → Prop, (∀ υ, FM τ υ → TM τ υ → RM υ (moveA p1 p2 b p4 a).2 → Q (moveA p1 p2 b p4 a).1 υ) → wp_X6_move τ p1 p2 b p4 Q := by
  intro a hO τ0 hM0 Q h
  unfold wp_X6_move
  intro τ e0
  have f0 : FM τ0 τ := by rw [e0]; exact FM_p τ0 (by decide)
  have t0 : TM τ0 τ := by rw [e0]; exact TM_t τ0 _
  have hM : RM τ a := hM0.keep (by rw [e0]; exact put_o (by decide))
  unfold moveA at h
  have h8 := hO.1
  have h12 := hO.2.1
  have h40 := hO.2.2.1
  have neg : ¬ mvOK a p1 p2 p4 → Q (-1) τ := fun z => by rw [if_neg z] at h; exact h τ f0 t0 hM
  unfold wp_X6_mayMove
  refine s_X6_isIn ⟨fun z => ⟨Or.inl rfl, fun _ => neg (fun y => y.1 z), fun q => absurd rfl q⟩, fun h1 => s_X6_isRoad hM.2.1 (by omega) ⟨fun z => ⟨Or.inl rfl, fun _ => neg (fun y => y.2.1 z), fun q => absurd rfl q⟩, fun h2 => s_X6_isIn ⟨fun z => ⟨Or.inl rfl, fun _ => neg (fun y => y.2.2 z), fun q => absurd rfl q⟩, fun h3 => ⟨Or.inr rfl, fun q => absurd q (by decide), fun _ => ?_⟩⟩⟩⟩
  have ok : mvOK a p1 p2 p4 := ⟨h1, h2, h3⟩
  rw [if_pos ok] at h
  refine s_X6_moves ?_
  rw [hM.2.2.1]
  refine pk_eq (aNM a) 40 (fun heq => ?_) (fun hne => ?_) rfl rfl (by omega) (by omega)
  · rw [if_neg (by omega)] at h
    exact h τ f0 t0 hM
  · have hlt : aNM a < 40 := by omega
    rw [if_pos hlt] at h
    have key : ∀ y : Int32, y = nI (b01 b) → wp_X6_move_42 Q p4 p1 p2 y τ := by
      intro y ey
      refine s_X6_moveMore hlt hM.2.2.1 (fun υ e => ?_)
      rw [ey] at e
      obtain ⟨v1, v2, v4, l1, l2, l3, l4, rfl, rfl, rfl⟩ := mv_num h12 ok
      have g : ∀ c i, υ c i = if c = 31 ∧ i = 2 then nI (aNM a + 1) else if c = 31 ∧ i = 95 + 4 * aNM a + 3 then nI v4 else if c = 31 ∧ i = 95 + 4 * aNM a + 2 then nI (b01 b) else if c = 31 ∧ i = 95 + 4 * aNM a + 1 then nI v2 else if c = 31 ∧ i = 95 + 4 * aNM a then nI v1 else τ c i := by
        intro c i
        rw [e]
        simp only [put_at]
      rw [nI_clamp (n := v1) (by omega), nI_clamp (n := v2) (by omega), nI_clamp (n := v4) (by omega)] at h
      refine s_X6_moves ?_
      have r0 : υ 31 2 = nI (aNM a + 1) := by rw [g]; simp
      rw [r0, nI_pred]
      have gk : ∀ k, k ≠ 31 → υ k = τ k := fun k hk => by funext i; rw [g]; simp [hk]
      refine h υ (f0.tr (fun k hk => gk k (by omega))) (t0.tr ⟨by rw [gk 30 (by decide)], by rw [gk 30 (by decide)], gk 33 (by decide)⟩) ?_
      obtain ⟨c1, c2, c3, c4, c5, c6⟩ := hM
      have no : ∀ i, i ≠ 2 → i < 95 + 4 * aNM a → υ 31 i = τ 31 i := fun i n1 n2 => by
        rw [g, if_neg (by omega), if_neg (by omega), if_neg (by omega), if_neg (by omega), if_neg (by omega)]
      refine ⟨by rw [no 0 (by omega) (by omega)]; exact c1, by rw [no 1 (by omega) (by omega)]; exact c2, r0, ?_, ?_, ?_⟩
      · intro p hp w hw
        have hp : p < aNP a := hp
        rw [no _ (by omega) (by omega)]; exact c4 p hp w hw
      · intro r hr w hw
        have hr : r < aNR a := hr
        rw [no _ (by omega) (by omega)]; exact c5 r hr w hw
      · intro k hk w hw
        have hk : k < aNM a + 1 := hk
        show υ 31 (95 + 4 * k + w) = nI (if k = aNM a then _ else aM a k w)
        by_cases e1 : k = aNM a
        · subst e1
          rw [g]
          rcases (show w = 0 ∨ w = 1 ∨ w = 2 ∨ w = 3 by omega) with rfl | rfl | rfl | rfl
          all_goals (simp; try omega)
        · rw [if_neg e1, no _ (by omega) (by omega)]; exact c6 k (by omega) w hw
    refine ⟨fun z => key 0 ?_, fun z => key 1 ?_⟩
    · unfold b01; rw [if_pos z]; rfl
    · unfold b01; rw [if_neg z]; rfl
theorem O_move (p1 p2 b p4 : Int32) : ∀ a, OKT a → OKT (moveA p1 p2 b p4 a).2 := by
  intro a hO
  unfold moveA
  split
  · rename_i ok
    split
    · rename_i hlt
      obtain ⟨v1, v2, v4, l1, l2, l3, l4, rfl, rfl, rfl⟩ := mv_num hO.2.1 ok
      obtain ⟨o1, o2, o3, o4, o5, o6⟩ := hO
      rw [nI_clamp (n := v1) (by omega), nI_clamp (n := v2) (by omega), nI_clamp (n := v4) (by omega)]
      refine ⟨o1, o2, hlt, o4, o5, ?_⟩
      intro k hk
      have hk : k < aNM a + 1 := hk
      show (if k = aNM a then _ else aM a k 0) ≤ 40 ∧ (if k = aNM a then _ else aM a k 1) < aNR a ∧ (if k = aNM a then _ else aM a k 2) ≤ 1 ∧ 1 ≤ (if k = aNM a then _ else aM a k 3) ∧ (if k = aNM a then _ else aM a k 3) ≤ 60
      have hb : b01 b ≤ 1 := by unfold b01; split <;> omega
      by_cases e1 : k = aNM a
      · simp [e1]
        omega
      · simp [e1]
        exact o6 k (by omega)
    · exact hO
  · exact hO
theorem L_move {σ : Sg} (hI : INV σ) (p1 p2 b p4 : Int32) {K : Sg → Prop} (hK : ∀ τ, INV τ → K τ) {C : Int32 → Sg → Prop} (hw : ∀ r1 σ1, wp_X6_move σ1 p1 p2 b p4 (fun r2 σ2 => (r1 = r2 → K σ2) ∧ (¬ (r1 = r2) → False)) → C r1 σ1) : wp_X5_move σ p1 p2 b p4 C :=
  L_gen hI (wpC := fun τ Q => wp_X5_move τ p1 p2 b p4 Q) (wpM := fun τ Q => wp_X6_move τ p1 p2 b p4 Q) (moveA p1 p2 b p4) (C_move p1 p2 b p4) (M_move p1 p2 b p4) (O_move p1 p2 b p4) hK hw
def backA (n : Int32) (a : AT) : Int32 × AT := if 1 ≤ n then (nI (aNM a - n.toInt.toNat), ((aNP a, aNR a, aNM a - n.toInt.toNat), aP a, aR a, aM a)) else (-1, a)
theorem C_back (n : Int32) : ∀ a, OKT a → ∀ τ, RC τ a → ∀ Q : Int32 → Sg → Prop, (∀ υ, FC τ υ → TC τ υ → RC υ (backA n a).2 → Q (backA n a).1 υ) → wp_X5_back τ n Q := by
  intro a hO τ hC Q h
  unfold wp_X5_back
  unfold backA at h
  have h40 := hO.2.2.1
  have key : ∀ y : Int32, y = nI (aNM a - n.toInt.toNat) → 1 ≤ n → wp_X5_back_35 Q y τ := by
    intro y ey h1 υ e
    rw [if_pos h1] at h
    have r : υ 2 0 = nI (aNM a - n.toInt.toNat) := by rw [e, put_s, ey]
    rw [r]
    have gk : ∀ k, k ≠ 2 → υ k = τ k := fun k hk => by rw [e]; exact put_o hk
    refine h υ (fun k hk => gk k (by omega)) ⟨by rw [gk 3 (by decide)], by rw [gk 3 (by decide)], gk 16 (by decide)⟩ ?_
    obtain ⟨c1, c2, c3, c4, c5, c6⟩ := hC
    exact ⟨by rw [gk 1 (by decide)]; exact c1, by rw [gk 1 (by decide)]; exact c2, r, fun p hp w hw => by rw [gk 9 (by decide)]; exact c4 p hp w hw, fun q hq => by rw [gk 7 (by decide), gk 6 (by decide), gk 8 (by decide)]; exact c5 q hq, fun k hk w hw => by rw [gk 13 (by decide)]; exact c6 k (Nat.lt_of_lt_of_le hk (Nat.sub_le _ _)) w hw⟩
  refine ⟨fun h1 => ?_, fun h1 => ?_⟩
  · have h1' := h1
    rw [Int32.le_iff_toInt_le] at h1'
    have h1' : 1 ≤ n.toInt := h1'
    have en := i_nI (x := n) (by omega)
    have ln := Int32.toInt_lt n
    rw [hC.2.2.1]
    refine ⟨fun h2 => key _ ?_ h1, fun h2 => key _ ?_ h1⟩
    · rw [en, nI_leI (by omega) (by omega)] at h2
      rw [en, pk_sub h2, ← en]
    · rw [en, nI_leI (by omega) (by omega)] at h2
      rw [show aNM a - n.toInt.toNat = 0 by omega]; rfl
  · rw [if_neg h1] at h
    exact h τ (FC.rf τ) (TC.rf τ) hC
theorem M_back (n : Int32) : ∀ a, OKT a → ∀ τ, RM τ a → ∀ Q : Int32 → Sg → Prop, (∀ υ, FM τ υ → TM τ υ → RM υ (backA n a).2 → Q (backA n a).1 υ) → wp_X6_back τ n Q := by
  intro a hO τ0 hM0 Q h
  unfold wp_X6_back
  intro τ e0
  have f0 : FM τ0 τ := by rw [e0]; exact FM_p τ0 (by decide)
  have t0 : TM τ0 τ := by rw [e0]; exact TM_t τ0 _
  have hM : RM τ a := hM0.keep (by rw [e0]; exact put_o (by decide))
  unfold backA at h
  have h8 := hO.1
  have h12 := hO.2.1
  have h40 := hO.2.2.1
  refine ⟨fun h1 => ⟨by unfold vp_in; decide, s_X6_moves ?_⟩, fun h1 => ?_⟩
  · rw [if_pos h1] at h
    rw [hM.2.2.1]
    have h1' := h1
    rw [Int32.le_iff_toInt_le] at h1'
    have h1' : 1 ≤ n.toInt := h1'
    have en := i_nI (x := n) (by omega)
    have ln := Int32.toInt_lt n
    have key : ∀ y : Int32, nI (aNM a) - y = nI (aNM a - n.toInt.toNat) → vp_in 2 256 ∧ (∀ σ7 : Sg, σ7 = (put τ 31 ((2 : Int32)).toNatClampNeg ((τ 31 ((2 : Int32)).toNatClampNeg) - y)) → (wp_X6_moves σ7 (fun r9 σ8 => Q r9 σ8))) := by
      intro y ey
      refine ⟨by unfold vp_in; decide, fun υ e => s_X6_moves ?_⟩
      have e : υ = put τ 31 2 (τ 31 2 - y) := e
      rw [hM.2.2.1, ey] at e
      have r : υ 31 2 = nI (aNM a - n.toInt.toNat) := by rw [e, put_s]
      rw [r]
      have gk : ∀ k, k ≠ 31 → υ k = τ k := fun k hk => by rw [e]; exact put_o hk
      refine h υ (f0.tr (fun k hk => gk k (by omega))) (t0.tr ⟨by rw [gk 30 (by decide)], by rw [gk 30 (by decide)], gk 33 (by decide)⟩) ?_
      obtain ⟨c1, c2, c3, c4, c5, c6⟩ := hM
      exact ⟨by rw [e, put_n (by omega)]; exact c1, by rw [e, put_n (by omega)]; exact c2, r, fun p hp w hw => by rw [e, put_n (by omega)]; exact c4 p hp w hw, fun q hq w hw => by rw [e, put_n (by omega)]; exact c5 q hq w hw, fun k hk w hw => by rw [e, put_n (by omega)]; exact c6 k (Nat.lt_of_lt_of_le hk (Nat.sub_le _ _)) w hw⟩
    refine ⟨fun h2 => key _ ?_, fun h2 => key _ ?_⟩
    · rw [en, nI_leI (by omega) (by omega)] at h2
      rw [pk_sub (Nat.le_refl _)]
      rw [show aNM a - n.toInt.toNat = 0 by omega, Nat.sub_self]
    · rw [en, nI_leI (by omega) (by omega)] at h2
      rw [en, pk_sub (by omega), ← en]
  · rw [if_neg h1] at h
    exact h τ f0 t0 hM
theorem O_back (n : Int32) : ∀ a, OKT a → OKT (backA n a).2 := by
  intro a hO
  unfold backA
  split
  · obtain ⟨o1, o2, o3, o4, o5, o6⟩ := hO
    exact ⟨o1, o2, Nat.le_trans (Nat.sub_le _ _) o3, o4, o5, fun k hk => o6 k (Nat.lt_of_lt_of_le hk (Nat.sub_le _ _))⟩
  · exact hO
theorem L_back {σ : Sg} (hI : INV σ) (n : Int32) {K : Sg → Prop} (hK : ∀ τ, INV τ → K τ) {C : Int32 → Sg → Prop} (hw : ∀ r1 σ1, wp_X6_back σ1 n (fun r2 σ2 => (r1 = r2 → K σ2) ∧ (¬ (r1 = r2) → False)) → C r1 σ1) : wp_X5_back σ n C :=
  L_gen hI (wpC := fun τ Q => wp_X5_back τ n Q) (wpM := fun τ Q => wp_X6_back τ n Q) (backA n) (C_back n) (M_back n) (O_back n) hK hw
