/-! the law's loop -/
theorem INV_0 : INV (fun _ _ => 0) := by
  refine ⟨((0, 0, 0), fun _ _ => 0, fun _ _ => 0, fun _ _ => 0), 0, fun _ => 0, 0, ⟨Nat.zero_le _, Nat.zero_le _, Nat.zero_le _, fun p hp => absurd hp (Nat.not_lt_zero _), fun p hp => absurd hp (Nat.not_lt_zero _), fun p hp => absurd hp (Nat.not_lt_zero _)⟩, ⟨rfl, rfl, rfl, fun p hp => absurd hp (Nat.not_lt_zero _), fun p hp => absurd hp (Nat.not_lt_zero _), fun p hp => absurd hp (Nat.not_lt_zero _)⟩, ⟨rfl, rfl, rfl, fun p hp => absurd hp (Nat.not_lt_zero _), fun p hp => absurd hp (Nat.not_lt_zero _), fun p hp => absurd hp (Nat.not_lt_zero _)⟩, ⟨Nat.zero_le _, rfl, rfl, fun j hj => absurd hj (Nat.not_lt_zero _), rfl, rfl⟩⟩
theorem law_568 {xs : Nat → Int32} {L : Nat} {K23 : Int32 → Sg → Prop} {x4 y1 y2 b : Int32} {σ : Sg} (hI : INV σ) (v1 : vp_in (x4 + (1 : Int32)) L) (v2 : vp_in (x4 + (2 : Int32)) L) (v3 : vp_in (x4 + (3 : Int32)) L) (v4 : vp_in (x4 + (4 : Int32)) L) (hK : ∀ τ, INV τ → wp_L_law_1375 xs L K23 x4 τ)
    (e1 : y1 = xs ((x4 + (1 : Int32))).toNatClampNeg) (e2 : y2 = xs ((x4 + (2 : Int32))).toNatClampNeg) (hb : (xs ((x4 + (3 : Int32))).toNatClampNeg = 0 ∧ b = 0) ∨ (¬ xs ((x4 + (3 : Int32))).toNatClampNeg = 0 ∧ b = 1)) : wp_L_law_568 xs L K23 x4 y1 y2 b σ := by
  subst e1
  subst e2
  rcases hb with ⟨h0, rfl⟩ | ⟨h0, rfl⟩
  · exact ⟨v4, L_move hI _ _ _ _ hK (fun r1 σ1 hw => ⟨v1, v2, v3, fun _ => ⟨v4, hw⟩, fun z => absurd h0 z⟩)⟩
  · exact ⟨v4, L_move hI _ _ _ _ hK (fun r1 σ1 hw => ⟨v1, v2, v3, fun z => absurd z h0, fun _ => ⟨v4, hw⟩⟩)⟩
theorem law_943 {xs : Nat → Int32} {L : Nat} {K23 : Int32 → Sg → Prop} {x4 y1 b : Int32} {σ : Sg} (hI : INV σ) (v1 : vp_in (x4 + (1 : Int32)) L) (v2 : vp_in (x4 + (2 : Int32)) L) (v3 : vp_in (x4 + (3 : Int32)) L) (hK : ∀ τ, INV τ → wp_L_law_1375 xs L K23 x4 τ)
    (e1 : y1 = xs ((x4 + (1 : Int32))).toNatClampNeg) (hb : (xs ((x4 + (2 : Int32))).toNatClampNeg = 0 ∧ b = 0) ∨ (¬ xs ((x4 + (2 : Int32))).toNatClampNeg = 0 ∧ b = 1)) : wp_L_law_943 xs L K23 x4 y1 b σ := by
  subst e1
  rcases hb with ⟨h0, rfl⟩ | ⟨h0, rfl⟩
  · exact ⟨v3, L_wider hI _ _ _ hK (fun r1 σ1 hw => ⟨v1, v2, fun _ => ⟨v3, hw⟩, fun z => absurd h0 z⟩)⟩
  · exact ⟨v3, L_wider hI _ _ _ hK (fun r1 σ1 hw => ⟨v1, v2, fun z => absurd z h0, fun _ => ⟨v3, hw⟩⟩)⟩
theorem law_1213 {xs : Nat → Int32} {L : Nat} {K23 : Int32 → Sg → Prop} {x4 y1 y2 b : Int32} {σ : Sg} (hI : INV σ) (v1 : vp_in (x4 + (1 : Int32)) L) (v2 : vp_in (x4 + (2 : Int32)) L) (v3 : vp_in (x4 + (3 : Int32)) L) (hK : ∀ τ, INV τ → wp_L_law_1375 xs L K23 x4 τ)
    (e1 : y1 = xs ((x4 + (1 : Int32))).toNatClampNeg) (e2 : y2 = xs ((x4 + (2 : Int32))).toNatClampNeg) (hb : (xs ((x4 + (3 : Int32))).toNatClampNeg = 0 ∧ b = 0) ∨ (¬ xs ((x4 + (3 : Int32))).toNatClampNeg = 0 ∧ b = 1)) : wp_L_law_1213 xs L K23 x4 y1 y2 b σ := by
  subst e1
  subst e2
  rcases hb with ⟨h0, rfl⟩ | ⟨h0, rfl⟩
  · exact L_lacks hI _ _ _ hK (fun r1 σ1 hw => ⟨v1, v2, v3, fun _ => hw, fun z => absurd h0 z⟩)
  · exact L_lacks hI _ _ _ hK (fun r1 σ1 hw => ⟨v1, v2, v3, fun z => absurd z h0, fun _ => hw⟩)
set_option maxHeartbeats 4000000 in
theorem hpure_k (xs : Nat → Int32) (L : Nat) (hL : L ≤ 3072) : ∀ f k, 513 - k ≤ f → k ≤ 512 → ∀ σ, INV σ → wp_L_law_23 xs L f (nI (6 * k)) σ := by
  intro f
  induction f with
  | zero => intro k h1 h2; omega
  | succ f ih =>
    intro k h1 h2 σ hI
    rw [wp_L_law_23]
    refine ⟨fun _ => trivial, fun hn => ?_⟩
    have hle : 6 * k + 6 ≤ L := by
      rcases Nat.lt_or_ge L (6 * k + 6) with z | z
      · exfalso
        refine hn ?_
        rw [Int32.lt_iff_toInt_lt, show (6 : Int32) = nI 6 from rfl, pk_sub_toInt (by omega) (by omega), nI_toInt (by omega)]
        omega
      · exact z
    have v0 : vp_in (nI (6 * k)) L := vp_in_nI (by omega) (by omega)
    have v1 : vp_in (nI (6 * k) + (1 : Int32)) L := by rw [show nI (6 * k) + (1 : Int32) = nI (6 * k + 1) from nI_add _ 1]; exact vp_in_nI (by omega) (by omega)
    have v2 : vp_in (nI (6 * k) + (2 : Int32)) L := by rw [show nI (6 * k) + (2 : Int32) = nI (6 * k + 2) from nI_add _ 2]; exact vp_in_nI (by omega) (by omega)
    have v3 : vp_in (nI (6 * k) + (3 : Int32)) L := by rw [show nI (6 * k) + (3 : Int32) = nI (6 * k + 3) from nI_add _ 3]; exact vp_in_nI (by omega) (by omega)
    have v4 : vp_in (nI (6 * k) + (4 : Int32)) L := by rw [show nI (6 * k) + (4 : Int32) = nI (6 * k + 4) from nI_add _ 4]; exact vp_in_nI (by omega) (by omega)
    have v5 : vp_in (nI (6 * k) + (5 : Int32)) L := by rw [show nI (6 * k) + (5 : Int32) = nI (6 * k + 5) from nI_add _ 5]; exact vp_in_nI (by omega) (by omega)
    have hK : ∀ τ, INV τ → wp_L_law_1375 xs L (fun z4 σ => wp_L_law_23 xs L f z4 σ) (nI (6 * k)) τ := by
      intro τ hτ x4 e4
      have e5 : x4 = nI (6 * (k + 1)) := by rw [e4, show nI (6 * k) + (6 : Int32) = nI (6 * k + 6) from nI_add _ 6]; rfl
      subst e5
      exact ih (k + 1) (by omega) (by omega) τ hτ
    refine ⟨v0, ?_⟩
    refine ⟨fun _ => ?_, ?_⟩
    · exact ⟨v1, v2, v3, v4, v5, L_feed hI _ _ _ _ _ hK (fun r1 σ1 hw => ⟨v1, v2, v3, v4, v5, hw⟩)⟩
    refine ⟨fun _ => ?_, ?_⟩
    · exact ⟨v1, L_end hI _ hK (fun r1 σ1 hw => ⟨v1, hw⟩)⟩
    refine ⟨fun _ => ?_, ?_⟩
    · exact L_tell hI hK (fun r1 σ1 hw => hw)
    refine ⟨fun _ => ?_, ?_⟩
    · exact L_fault hI hK (fun r1 σ1 hw => hw)
    refine ⟨fun _ => ?_, ?_⟩
    · exact ⟨v1, v2, v3, v4, L_place hI _ _ _ _ hK (fun r1 σ1 hw => ⟨v1, v2, v3, v4, hw⟩)⟩
    refine ⟨fun _ => ?_, ?_⟩
    · exact ⟨v1, v2, v3, v4, v5, L_road hI _ _ _ _ _ hK (fun r1 σ1 hw => ⟨v1, v2, v3, v4, v5, hw⟩)⟩
    refine ⟨fun _ => ?_, ?_⟩
    · exact ⟨v1, v2, L_turn hI _ _ hK (fun r1 σ1 hw => ⟨v1, v2, hw⟩)⟩
    refine ⟨fun _ => ?_, ?_⟩
    · exact ⟨v1, v2, v3, L_set hI _ _ _ hK (fun r1 σ1 hw => ⟨v1, v2, v3, hw⟩)⟩
    refine ⟨fun _ => ?_, ?_⟩
    · exact L_drop hI hK (fun r1 σ1 hw => hw)
    refine ⟨fun _ => ?_, ?_⟩
    · exact ⟨v1, v2, v3, fun z => law_568 hI v1 v2 v3 v4 hK rfl rfl (Or.inl ⟨z, rfl⟩), fun z => law_568 hI v1 v2 v3 v4 hK rfl rfl (Or.inr ⟨z, rfl⟩)⟩
    refine ⟨fun _ => ?_, ?_⟩
    · exact ⟨v1, L_back hI _ hK (fun r1 σ1 hw => ⟨v1, hw⟩)⟩
    refine ⟨fun _ => ?_, ?_⟩
    · exact ⟨v1, L_count hI _ hK (fun r1 σ1 hw => ⟨v1, hw⟩)⟩
    refine ⟨fun _ => ?_, ?_⟩
    · exact ⟨v1, v2, L_of hI _ _ hK (fun r1 σ1 hw => ⟨v1, v2, hw⟩)⟩
    refine ⟨fun _ => ?_, ?_⟩
    · exact ⟨v1, v2, L_along hI _ _ v1 v2 hK⟩
    refine ⟨fun _ => ?_, ?_⟩
    · exact ⟨v1, L_safe hI _ hK (fun r1 σ1 hw => ⟨v1, hw⟩)⟩
    refine ⟨fun _ => ?_, ?_⟩
    · exact L_quickest hI hK (fun r1 σ1 hw => hw)
    refine ⟨fun _ => ?_, ?_⟩
    · exact ⟨v1, v2, v3, L_open hI _ _ _ hK (fun r1 σ1 hw => ⟨v1, v2, v3, hw⟩)⟩
    refine ⟨fun _ => ?_, ?_⟩
    · exact ⟨v1, v2, L_openings hI _ _ hK (fun r1 σ1 hw => ⟨v1, v2, hw⟩)⟩
    refine ⟨fun _ => ?_, ?_⟩
    · exact ⟨v1, L_shut hI _ hK (fun r1 σ1 hw => ⟨v1, hw⟩)⟩
    refine ⟨fun _ => ?_, ?_⟩
    · exact ⟨v1, v2, fun z => law_943 hI v1 v2 v3 hK rfl (Or.inl ⟨z, rfl⟩), fun z => law_943 hI v1 v2 v3 hK rfl (Or.inr ⟨z, rfl⟩)⟩
    refine ⟨fun _ => ?_, ?_⟩
    · exact ⟨v1, v2, L_turned hI _ _ hK (fun r1 σ1 hw => ⟨v1, v2, hw⟩)⟩
    refine ⟨fun _ => ?_, ?_⟩
    · exact ⟨v1, L_bestTurn hI _ hK (fun r1 σ1 hw => ⟨v1, hw⟩)⟩
    refine ⟨fun _ => ?_, ?_⟩
    · exact ⟨v1, v2, L_turns hI _ _ hK (fun r1 σ1 hw => ⟨v1, v2, hw⟩)⟩
    refine ⟨fun _ => ?_, ?_⟩
    · exact ⟨v1, v2, L_roomy hI _ _ hK (fun r1 σ1 hw => ⟨v1, v2, hw⟩)⟩
    refine ⟨fun _ => ?_, ?_⟩
    · exact ⟨v1, L_best hI _ hK (fun r1 σ1 hw => ⟨v1, hw⟩)⟩
    refine ⟨fun _ => ?_, ?_⟩
    · exact ⟨v1, L_latest hI _ hK (fun r1 σ1 hw => ⟨v1, hw⟩)⟩
    refine ⟨fun _ => ?_, ?_⟩
    · exact L_worst hI hK (fun r1 σ1 hw => hw)
    refine ⟨fun _ => ?_, ?_⟩
    · exact ⟨v1, v2, v3, fun z => law_1213 hI v1 v2 v3 hK rfl rfl (Or.inl ⟨z, rfl⟩), fun z => law_1213 hI v1 v2 v3 hK rfl rfl (Or.inr ⟨z, rfl⟩)⟩
    refine ⟨fun _ => ?_, ?_⟩
    · exact ⟨v1, v2, L_moved hI _ _ hK (fun r1 σ1 hw => ⟨v1, v2, hw⟩)⟩
    refine ⟨fun _ => ?_, ?_⟩
    · exact L_wrong hI hK (fun r1 σ1 hw => hw)
    refine ⟨fun _ => ?_, ?_⟩
    · exact ⟨v1, L_planned hI _ hK (fun r1 σ1 hw => ⟨v1, hw⟩)⟩
    refine ⟨fun _ => ?_, ?_⟩
    · exact ⟨v1, v2, v3, L_there hI _ _ _ hK (fun r1 σ1 hw => ⟨v1, v2, v3, hw⟩)⟩
    intro _ _ _ _ _ _ _ _ _ _ _ _ _ _ _ _ _ _ _ _ _ _ _ _ _ _ _ _ _ _ _ _
    exact hK σ hI
theorem hpure : ∀ (L : Nat) (xs : Nat → Int32), L ≤ 3072 → wp_L_law_23 xs L 513 0 (fun _ _ => 0) := by
  intro L xs hL
  exact hpure_k xs L hL 513 0 (by omega) (by omega) _ INV_0
