/-! of, moved, set, turn -/
theorem L_ask {σ : Sg} (hI : INV σ) {wpC wpM : Sg → (Int32 → Sg → Prop) → Prop} (v : AT → Int32)
    (hC : ∀ a, OKT a → ∀ τ, RC τ a → ∀ Q : Int32 → Sg → Prop, (∀ υ, FC τ υ → TC τ υ → RC υ a → Q (v a) υ) → wpC τ Q)
    (hM : ∀ a, OKT a → ∀ τ, RM τ a → ∀ Q : Int32 → Sg → Prop, (∀ υ, FM τ υ → TM τ υ → RM υ a → Q (v a) υ) → wpM τ Q)
    {K : Sg → Prop} (hK : ∀ τ, INV τ → K τ) {C : Int32 → Sg → Prop} (hw : ∀ r1 σ1, wpM σ1 (fun r2 σ2 => (r1 = r2 → K σ2) ∧ (¬ (r1 = r2) → False)) → C r1 σ1) : wpC σ C :=
  L_gen hI (fun a => (v a, a)) hC hM (fun _ h => h) hK hw
theorem s_X3_hasFact {σ : Sg} {x : Int32} {Q : Int32 → Sg → Prop} (h : Q (inp 4 x) σ) : wp_X3_hasFact σ x Q := by
  unfold wp_X3_hasFact
  unfold inp at h
  refine ⟨fun h1 => ⟨Or.inl rfl, ?_⟩, fun h1 => ⟨fun h2 => ⟨Or.inl rfl, ?_⟩, fun h2 => ⟨Or.inr rfl, ?_⟩⟩⟩
  · rwa [if_pos h1] at h
  · rwa [if_neg h1, if_pos h2] at h
  · rwa [if_neg h1, if_neg h2] at h
theorem inr03 (x : Int32) : inr 0 3 x = inp 4 x := inr_inp (n := 4) (by decide) x
theorem s_X6_ofPlace {σ : Sg} {p w : Nat} {Q : Int32 → Sg → Prop} (hp : p < 8) (hw : w < 4) (h : Q (σ 31 (3 + 4 * p + w)) σ) : wp_X6_ofPlace σ (nI p) (nI w) Q := by
  unfold wp_X6_ofPlace
  rw [e_p]
  exact ⟨vp_in_nI (by omega) (by decide), by rw [nI_clamp (by omega)]; exact h⟩
theorem s_X6_ofRoad {σ : Sg} {p w : Nat} {Q : Int32 → Sg → Prop} (hp : p < 12) (hw : w < 5) (h : Q (σ 31 (35 + 5 * p + w)) σ) : wp_X6_ofRoad σ (nI p) (nI w) Q := by
  unfold wp_X6_ofRoad
  rw [e_r]
  exact ⟨vp_in_nI (by omega) (by decide), by rw [nI_clamp (by omega)]; exact h⟩
theorem s_X6_ofMove {σ : Sg} {p w : Nat} {Q : Int32 → Sg → Prop} (hp : p < 40) (hw : w < 4) (h : Q (σ 31 (95 + 4 * p + w)) σ) : wp_X6_ofMove σ (nI p) (nI w) Q := by
  unfold wp_X6_ofMove
  rw [e_k]
  exact ⟨vp_in_nI (by omega) (by decide), by rw [nI_clamp (by omega)]; exact h⟩
theorem s_X1_part {σ : Sg} {p w : Nat} {Q : Int32 → Sg → Prop} (hp : p < 40) (hw : w < 4) (h : Q (σ 13 (4 * p + w)) σ) : wp_X1_part σ (nI p) (nI w) Q := by
  unfold wp_X1_part
  rw [e_m4]
  exact ⟨vp_in_nI (by omega) (by decide), by rw [nI_clamp (by omega)]; exact h⟩
def ofA (p1 p2 : Int32) (a : AT) : Int32 := if inp (nI (aNP a)) p1 = 0 then -1 else if inp 4 p2 = 0 then -1 else nI (aP a p1.toNatClampNeg p2.toNatClampNeg)
theorem C_of (p1 p2 : Int32) : ∀ a, OKT a → ∀ τ, RC τ a → ∀ Q : Int32 → Sg → Prop, (∀ υ, FC τ υ → TC τ υ → RC υ a → Q (ofA p1 p2 a) υ) → wp_X5_of τ p1 p2 Q := by
  intro a hO τ hC Q h
  have h9 := h τ (FC.rf τ) (TC.rf τ) hC
  unfold ofA at h9
  unfold wp_X5_of
  have h8 := hO.1
  refine s_X3_hasPlace ?_
  rw [hC.1]
  refine ⟨fun h1 => ?_, fun h1 => s_X3_hasFact ⟨fun h2 => ?_, fun h2 => ?_⟩⟩
  · rwa [if_pos h1] at h9
  · rwa [if_neg h1, if_pos h2] at h9
  · rw [if_neg h1, if_neg h2] at h9
    obtain ⟨p, hp, rfl⟩ := inp_yes (by omega) h1
    obtain ⟨w, hw, rfl⟩ := inp_yes (n := 4) (by omega) h2
    rw [nI_clamp (by omega), nI_clamp (by omega)] at h9
    refine s_X3_fact (by omega) hw ?_
    rw [hC.2.2.2.1 p hp w hw]
    exact h9
theorem M_of (p1 p2 : Int32) : ∀ a, OKT a → ∀ τ, RM τ a → ∀ Q : Int32 → Sg → Prop, (∀ υ, FM τ υ → TM τ υ → RM υ a → Q (ofA p1 p2 a) υ) → wp_X6_of τ p1 p2 Q := by
  intro a hO τ0 hM0 Q h
  unfold wp_X6_of
  intro τ e0
  have f0 : FM τ0 τ := by rw [e0]; exact FM_p τ0 (by decide)
  have t0 : TM τ0 τ := by rw [e0]; exact TM_t τ0 _
  have hM : RM τ a := hM0.keep (by rw [e0]; exact put_o (by decide))
  have h9 := h τ f0 t0 hM
  unfold ofA at h9
  have h8 := hO.1
  refine s_X6_isPlace hM.1 (by omega) ⟨fun h1 => ?_, fun h1 => s_X6_isIn ?_⟩
  · rwa [if_pos h1] at h9
  · rw [inr03]
    refine ⟨fun h2 => ?_, fun h2 => ?_⟩
    · rwa [if_neg h1, if_pos h2] at h9
    · rw [if_neg h1, if_neg h2] at h9
      obtain ⟨p, hp, rfl⟩ := inp_yes (by omega) h1
      obtain ⟨w, hw, rfl⟩ := inp_yes (n := 4) (by omega) h2
      rw [nI_clamp (by omega), nI_clamp (by omega)] at h9
      refine s_X6_ofPlace (by omega) hw ?_
      rw [hM.2.2.2.1 p hp w hw]
      exact h9
theorem L_of {σ : Sg} (hI : INV σ) (p1 p2 : Int32) {K : Sg → Prop} (hK : ∀ τ, INV τ → K τ) {C : Int32 → Sg → Prop} (hw : ∀ r1 σ1, wp_X6_of σ1 p1 p2 (fun r2 σ2 => (r1 = r2 → K σ2) ∧ (¬ (r1 = r2) → False)) → C r1 σ1) : wp_X5_of σ p1 p2 C :=
  L_ask hI (wpC := fun τ Q => wp_X5_of τ p1 p2 Q) (wpM := fun τ Q => wp_X6_of τ p1 p2 Q) (ofA p1 p2) (C_of p1 p2) (M_of p1 p2) hK hw
def movedA (p1 p2 : Int32) (a : AT) : Int32 := if inp (nI (aNM a)) p1 = 0 then -1 else if inp 4 p2 = 0 then -1 else nI (aM a p1.toNatClampNeg p2.toNatClampNeg)
theorem C_moved (p1 p2 : Int32) : ∀ a, OKT a → ∀ τ, RC τ a → ∀ Q : Int32 → Sg → Prop, (∀ υ, FC τ υ → TC τ υ → RC υ a → Q (movedA p1 p2 a) υ) → wp_X5_moved τ p1 p2 Q := by
  intro a hO τ hC Q h
  have h9 := h τ (FC.rf τ) (TC.rf τ) hC
  unfold movedA at h9
  unfold wp_X5_moved
  have h8 := hO.2.2.1
  rw [hC.2.2.1]
  have k1 : p1 < 0 → inp (nI (aNM a)) p1 = 0 := fun q => by unfold inp; rw [if_pos q]
  have k2 : nI (aNM a) ≤ p1 → inp (nI (aNM a)) p1 = 0 := fun q => by unfold inp; simp [q]
  have k3 : p2 < 0 → inp 4 p2 = 0 := fun q => by unfold inp; rw [if_pos q]
  have k4 : 4 ≤ p2 → inp 4 p2 = 0 := fun q => by unfold inp; simp [q]
  have neg1 : inp (nI (aNM a)) p1 = 0 → Q (-1) τ := fun q => by rwa [if_pos q] at h9
  have neg2 : inp 4 p2 = 0 → Q (-1) τ := fun q => by
    by_cases z : inp (nI (aNM a)) p1 = 0
    · exact neg1 z
    · rwa [if_neg z, if_pos q] at h9
  refine ⟨fun q => neg1 (k1 q), fun q1 => ⟨fun q => neg1 (k2 q), fun q2 => ⟨fun q => neg2 (k3 q), fun q3 => ⟨fun q => neg2 (k4 q), fun q4 => ?_⟩⟩⟩⟩
  have h1 : ¬ inp (nI (aNM a)) p1 = 0 := by unfold inp; rw [if_neg q1, if_neg q2]; decide
  have h2 : ¬ inp 4 p2 = 0 := by unfold inp; rw [if_neg q3, if_neg q4]; decide
  rw [if_neg h1, if_neg h2] at h9
  obtain ⟨p, hp, rfl⟩ := inp_yes (by omega) h1
  obtain ⟨w, hw, rfl⟩ := inp_yes (n := 4) (by omega) h2
  rw [nI_clamp (by omega), nI_clamp (by omega)] at h9
  refine s_X1_part (by omega) hw ?_
  rw [hC.2.2.2.2.2 p hp w hw]
  exact h9
theorem M_moved (p1 p2 : Int32) : ∀ a, OKT a → ∀ τ, RM τ a → ∀ Q : Int32 → Sg → Prop, (∀ υ, FM τ υ → TM τ υ → RM υ a → Q (movedA p1 p2 a) υ) → wp_X6_moved τ p1 p2 Q := by
  intro a hO τ0 hM0 Q h
  unfold wp_X6_moved
  intro τ e0
  have f0 : FM τ0 τ := by rw [e0]; exact FM_p τ0 (by decide)
  have t0 : TM τ0 τ := by rw [e0]; exact TM_t τ0 _
  have hM : RM τ a := hM0.keep (by rw [e0]; exact put_o (by decide))
  have h9 := h τ f0 t0 hM
  unfold movedA at h9
  have h8 := hO.2.2.1
  refine s_X6_moves (s_X6_isIn ?_)
  rw [hM.2.2.1, inr_inp (by omega)]
  refine ⟨fun h1 => ?_, fun h1 => s_X6_isIn ?_⟩
  · rwa [if_pos h1] at h9
  · rw [inr03]
    refine ⟨fun h2 => ?_, fun h2 => ?_⟩
    · rwa [if_neg h1, if_pos h2] at h9
    · rw [if_neg h1, if_neg h2] at h9
      obtain ⟨p, hp, rfl⟩ := inp_yes (by omega) h1
      obtain ⟨w, hw, rfl⟩ := inp_yes (n := 4) (by omega) h2
      rw [nI_clamp (by omega), nI_clamp (by omega)] at h9
      refine s_X6_ofMove (by omega) hw ?_
      rw [hM.2.2.2.2.2 p hp w hw]
      exact h9
theorem L_moved {σ : Sg} (hI : INV σ) (p1 p2 : Int32) {K : Sg → Prop} (hK : ∀ τ, INV τ → K τ) {C : Int32 → Sg → Prop} (hw : ∀ r1 σ1, wp_X6_moved σ1 p1 p2 (fun r2 σ2 => (r1 = r2 → K σ2) ∧ (¬ (r1 = r2) → False)) → C r1 σ1) : wp_X5_moved σ p1 p2 C :=
  L_ask hI (wpC := fun τ Q => wp_X5_moved τ p1 p2 Q) (wpM := fun τ Q => wp_X6_moved τ p1 p2 Q) (movedA p1 p2) (C_moved p1 p2) (M_moved p1 p2) hK hw
/-- one number of a table changed -/
def up2 (f : Nat → Nat → Nat) (i w v : Nat) : Nat → Nat → Nat := fun p u => if p = i ∧ u = w then v else f p u
def hiW (k : Nat) : Nat := if k = 0 then 60 else if k = 2 then 20 else 300
theorem mb_w {w x : Int32} (h : ¬ mb w x = 0) : ∃ k v, k < 4 ∧ w = nI k ∧ v ≤ hiW k ∧ x = nI v := by
  unfold mb at h
  by_cases h0 : w = 0
  · rw [if_pos h0] at h
    obtain ⟨v, -, h2, h3⟩ := inr_yes (a := 0) (b := 60) (by decide) (by decide) h
    exact ⟨0, v, by decide, h0, h2, h3⟩
  rw [if_neg h0] at h
  by_cases h1 : w = 1
  · rw [if_pos h1] at h
    obtain ⟨v, -, h2, h3⟩ := inr_yes (a := 0) (b := 300) (by decide) (by decide) h
    exact ⟨1, v, by decide, h1, h2, h3⟩
  rw [if_neg h1] at h
  by_cases h2 : w = 2
  · rw [if_pos h2] at h
    obtain ⟨v, -, h4, h3⟩ := inr_yes (a := 0) (b := 20) (by decide) (by decide) h
    exact ⟨2, v, by decide, h2, h4, h3⟩
  rw [if_neg h2] at h
  by_cases h3 : w = 3
  · rw [if_pos h3] at h
    obtain ⟨v, -, h4, h5⟩ := inr_yes (a := 0) (b := 300) (by decide) (by decide) h
    exact ⟨3, v, by decide, h3, h4, h5⟩
  · rw [if_neg h3] at h
    exact absurd rfl h
def setAT (p1 p2 p3 : Int32) (a : AT) : Int32 × AT :=
  if inp (nI (aNP a)) p1 = 0 then (0, a) else if mb p2 p3 = 0 then (0, a) else
  if nI (aP a p1.toNatClampNeg p2.toNatClampNeg) = p3 then (0, a) else (1, ((aNP a, aNR a, aNM a), up2 (aP a) p1.toNatClampNeg p2.toNatClampNeg p3.toNatClampNeg, aR a, aM a))
theorem C_set (p1 p2 p3 : Int32) : ∀ a, OKT a → ∀ τ, RC τ a → ∀ Q : Int32 → Sg → Prop, (∀ υ, FC τ υ → TC τ υ → RC υ (setAT p1 p2 p3 a).2 → Q (setAT p1 p2 p3 a).1 υ) → wp_X5_set τ p1 p2 p3 Q := by
  intro a hO τ hC Q h
  unfold wp_X5_set
  unfold setAT at h
  have h8 := hO.1
  refine s_X3_hasPlace ?_
  rw [hC.1]
  refine ⟨fun h1 => ⟨Or.inl rfl, ?_⟩, fun h1 => s_X3_factFits ⟨fun h2 => ⟨Or.inl rfl, ?_⟩, fun h2 => ?_⟩⟩
  · rw [if_pos h1] at h; exact h τ (FC.rf τ) (TC.rf τ) hC
  · rw [if_neg h1, if_pos h2] at h; exact h τ (FC.rf τ) (TC.rf τ) hC
  · rw [if_neg h1, if_neg h2] at h
    obtain ⟨p, hp, rfl⟩ := inp_yes (by omega) h1
    obtain ⟨w, v, hw, rfl, hv, rfl⟩ := mb_w h2
    have hv9 : v ≤ 300 := by unfold hiW at hv; split at hv; omega; split at hv <;> omega
    rw [nI_clamp (by omega), nI_clamp (by omega), nI_clamp (by omega)] at h
    refine s_X3_fact (by omega) hw ?_
    rw [hC.2.2.2.1 p hp w hw]
    refine ⟨fun h3 => ⟨Or.inl rfl, ?_⟩, fun h3 => ?_⟩
    · rw [if_pos h3] at h; exact h τ (FC.rf τ) (TC.rf τ) hC
    · rw [if_neg h3] at h
      refine s_X3_change (by omega) hw ⟨Or.inr rfl, ?_⟩
      refine h _ (FC_p τ (by decide)) (TC_p τ (by decide) (by decide)) ?_
      obtain ⟨c1, c2, c3, c4, c5, c6⟩ := hC
      refine ⟨by rw [put_o (by decide)]; exact c1, by rw [put_o (by decide)]; exact c2, by rw [put_o (by decide)]; exact c3, ?_, ?_, ?_⟩
      · intro q hq u hu
        have hq : q < aNP a := hq
        show _ = nI (if q = p ∧ u = w then v else aP a q u)
        rw [put_at]
        by_cases e : q = p ∧ u = w
        · obtain ⟨rfl, rfl⟩ := e
          simp
        · rw [if_neg e, if_neg (by omega)]
          exact c4 q hq u hu
      · intro r hr
        rw [put_o (by decide), put_o (by decide), put_o (by decide)]
        exact c5 r hr
      · intro k hk u hu
        rw [put_o (by decide)]
        exact c6 k hk u hu
theorem M_set (p1 p2 p3 : Int32) : ∀ a, OKT a → ∀ τ, RM τ a → ∀ Q : Int32 → Sg → Prop, (∀ υ, FM τ υ → TM τ υ → RM υ (setAT p1 p2 p3 a).2 → Q (setAT p1 p2 p3 a).1 υ) → wp_X6_set τ p1 p2 p3 Q := by
  intro a hO τ0 hM0 Q h
  unfold wp_X6_set
  intro τ e0
  have f0 : FM τ0 τ := by rw [e0]; exact FM_p τ0 (by decide)
  have t0 : TM τ0 τ := by rw [e0]; exact TM_t τ0 _
  have hM : RM τ a := hM0.keep (by rw [e0]; exact put_o (by decide))
  unfold setAT at h
  have h8 := hO.1
  have h12 := hO.2.1
  refine s_X6_isPlace hM.1 (by omega) ⟨fun h1 => ⟨Or.inl rfl, ?_⟩, fun h1 => s_X6_mayBe ⟨fun h2 => ⟨Or.inl rfl, ?_⟩, fun h2 => ?_⟩⟩
  · rw [if_pos h1] at h; exact h τ f0 t0 hM
  · rw [if_neg h1, if_pos h2] at h; exact h τ f0 t0 hM
  · rw [if_neg h1, if_neg h2] at h
    obtain ⟨p, hp, rfl⟩ := inp_yes (by omega) h1
    obtain ⟨w, v, hw, rfl, hv, rfl⟩ := mb_w h2
    have hv9 : v ≤ 300 := by unfold hiW at hv; split at hv; omega; split at hv <;> omega
    rw [nI_clamp (by omega), nI_clamp (by omega), nI_clamp (by omega)] at h
    refine s_X6_ofPlace (by omega) hw ?_
    rw [hM.2.2.2.1 p hp w hw]
    refine ⟨fun h3 => ⟨Or.inl rfl, ?_⟩, fun h3 => ?_⟩
    · rw [if_pos h3] at h; exact h τ f0 t0 hM
    · rw [if_neg h3] at h
      rw [e_p]
      refine ⟨vp_in_nI (by omega) (by decide), fun υ e => ⟨Or.inr rfl, ?_⟩⟩
      rw [nI_clamp (by omega)] at e
      have gk : ∀ k, k ≠ 31 → υ k = τ k := fun k hk => by rw [e]; exact put_o hk
      refine h υ (f0.tr (fun k hk => gk k (by omega))) (t0.tr ⟨by rw [gk 30 (by decide)], by rw [gk 30 (by decide)], gk 33 (by decide)⟩) ?_
      obtain ⟨c1, c2, c3, c4, c5, c6⟩ := hM
      refine ⟨by rw [e, put_n (by omega)]; exact c1, by rw [e, put_n (by omega)]; exact c2, by rw [e, put_n (by omega)]; exact c3, ?_, ?_, ?_⟩
      · intro q hq u hu
        have hq : q < aNP a := hq
        show _ = nI (if q = p ∧ u = w then v else aP a q u)
        rw [e, put_at]
        by_cases e1 : q = p ∧ u = w
        · obtain ⟨rfl, rfl⟩ := e1
          simp
        · rw [if_neg e1, if_neg (by omega)]
          exact c4 q hq u hu
      · intro r hr u hu
        rw [e, put_n (by omega)]
        exact c5 r hr u hu
      · intro k hk u hu
        rw [e, put_n (by omega)]
        exact c6 k hk u hu
theorem O_set (p1 p2 p3 : Int32) : ∀ a, OKT a → OKT (setAT p1 p2 p3 a).2 := by
  intro a hO
  unfold setAT
  split
  · exact hO
  · rename_i h1
    split
    · exact hO
    · rename_i h2
      split
      · exact hO
      · obtain ⟨o1, o2, o3, o4, o5, o6⟩ := hO
        obtain ⟨w, v, hw, rfl, hv, rfl⟩ := mb_w h2
        have hv9 : v ≤ 300 := by unfold hiW at hv; split at hv; omega; split at hv <;> omega
        rw [nI_clamp (by omega), nI_clamp (by omega)]
        refine ⟨o1, o2, o3, ?_, o5, o6⟩
        intro q hq
        obtain ⟨b0, b1, b2, b3⟩ := o4 q hq
        show up2 _ _ _ _ q 0 ≤ 60 ∧ up2 _ _ _ _ q 1 ≤ 300 ∧ up2 _ _ _ _ q 2 ≤ 20 ∧ up2 _ _ _ _ q 3 ≤ 300
        unfold up2
        rcases (show w = 0 ∨ w = 1 ∨ w = 2 ∨ w = 3 by omega) with rfl | rfl | rfl | rfl
        · have hv : v ≤ 60 := hv
          refine ⟨?_, ?_, ?_, ?_⟩ <;> (split <;> omega)
        · have hv : v ≤ 300 := hv
          refine ⟨?_, ?_, ?_, ?_⟩ <;> (split <;> omega)
        · have hv : v ≤ 20 := hv
          refine ⟨?_, ?_, ?_, ?_⟩ <;> (split <;> omega)
        · have hv : v ≤ 300 := hv
          refine ⟨?_, ?_, ?_, ?_⟩ <;> (split <;> omega)
theorem L_set {σ : Sg} (hI : INV σ) (p1 p2 p3 : Int32) {K : Sg → Prop} (hK : ∀ τ, INV τ → K τ) {C : Int32 → Sg → Prop} (hw : ∀ r1 σ1, wp_X6_set σ1 p1 p2 p3 (fun r2 σ2 => (r1 = r2 → K σ2) ∧ (¬ (r1 = r2) → False)) → C r1 σ1) : wp_X5_set σ p1 p2 p3 C :=
  L_gen hI (wpC := fun τ Q => wp_X5_set τ p1 p2 p3 Q) (wpM := fun τ Q => wp_X6_set τ p1 p2 p3 Q) (setAT p1 p2 p3) (C_set p1 p2 p3) (M_set p1 p2 p3) (O_set p1 p2 p3) hK hw
