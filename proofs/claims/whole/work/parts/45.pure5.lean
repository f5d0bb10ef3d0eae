/-! turn, on the reference's side; road -/
theorem s_X6_turnsRoad {σ : Sg} {a : AT} {q : Nat} {k : Int32} {Q : Sg → Prop} (hM : RM σ a) (h8 : aNP a ≤ 8) (h12 : aNR a ≤ 12) (hq : q < aNR a) (hb : aR a q 3 < 100 ∧ aR a q 4 < 100) (hk3 : 0 ≤ (aR a q 3 : Int) + k.toInt) (hk4 : 0 ≤ (aR a q 4 : Int) - k.toInt)
    (h : ∀ τ, (∀ b, b ≠ 31 → τ b = σ b) → RM τ (turnRow a q k.toInt) → Q τ) : wp_X6_turnsRoad σ (nI q) k Q := by
  unfold wp_X6_turnsRoad
  have c3 := hM.2.2.2.2.1 q hq 3 (by decide)
  have c4 := hM.2.2.2.2.1 q hq 4 (by decide)
  have t3 : (nI (aR a q 3)).toInt = (aR a q 3 : Int) := nI_toInt (by omega)
  have t4 : (nI (aR a q 4)).toInt = (aR a q 4 : Int) := nI_toInt (by omega)
  have u3 : nI (aR a q 3) + k = nI ((aR a q 3 : Int) + k.toInt).toNat := by
    have z := i_add (a := nI (aR a q 3)) (b := k) (by rw [t3]; omega) (by rw [t3]; omega)
    rw [i_nI (x := nI (aR a q 3) + k) (by rw [z, t3]; omega), z, t3]
  have u4 : nI (aR a q 4) - k = nI ((aR a q 4 : Int) - k.toInt).toNat := by
    have z := i_sub (a := nI (aR a q 4)) (b := k) (by rw [t4]; omega) (by rw [t4]; omega)
    rw [i_nI (x := nI (aR a q 4) - k) (by rw [z, t4]; omega), z, t4]
  have i3 : 35 + 5 * nI q + 3 = nI (35 + 5 * q + 3) := e_r q 3
  have i4 : 35 + 5 * nI q + 4 = nI (35 + 5 * q + 4) := e_r q 4
  rw [i3, i4, nI_clamp (n := 35 + 5 * q + 3) (by omega), nI_clamp (n := 35 + 5 * q + 4) (by omega), c3]
  refine ⟨vp_in_nI (by omega) (by decide), vp_in_nI (by omega) (by decide), fun σ1 e1 => ⟨vp_in_nI (by omega) (by decide), vp_in_nI (by omega) (by decide), fun σ2 e2 => ?_⟩⟩
  have r5 : σ1 31 (35 + 5 * q + 4) = nI (aR a q 4) := by rw [e1, put_n (by omega), c4]
  rw [r5, u4] at e2
  rw [u3] at e1
  have g : ∀ b i, σ2 b i = if b = 31 ∧ i = 35 + 5 * q + 4 then nI ((aR a q 4 : Int) - k.toInt).toNat else if b = 31 ∧ i = 35 + 5 * q + 3 then nI ((aR a q 3 : Int) + k.toInt).toNat else σ b i := by
    intro b i
    rw [e2, put_at, e1, put_at]
  have gk : ∀ b, b ≠ 31 → σ2 b = σ b := fun b hb => by funext i; rw [g]; simp [hb]
  refine h σ2 gk ?_
  obtain ⟨d1, d2, d3, d4, d5, d6⟩ := hM
  refine ⟨by rw [g, if_neg (by omega), if_neg (by omega)]; exact d1, by rw [g, if_neg (by omega), if_neg (by omega)]; exact d2, by rw [g, if_neg (by omega), if_neg (by omega)]; exact d3, ?_, ?_, ?_⟩
  · intro p hp w hw
    have hp : p < aNP a := hp
    rw [g, if_neg (by omega), if_neg (by omega)]; exact d4 p hp w hw
  · intro r hr w hw
    have hr : r < aNR a := hr
    have f := d5 r hr w hw
    show σ2 31 (35 + 5 * r + w) = nI (up2 (up2 (aR a) q 3 _) q 4 _ r w)
    rw [g]
    unfold up2
    by_cases e : r = q ∧ w = 4
    · obtain ⟨rfl, rfl⟩ := e; simp
    · rw [if_neg (by omega), if_neg e]
      by_cases e2 : r = q ∧ w = 3
      · obtain ⟨rfl, rfl⟩ := e2; simp
      · rw [if_neg (by omega), if_neg e2]; exact f
  · intro j hj w hw
    rw [g, if_neg (by omega), if_neg (by omega)]; exact d6 j hj w hw
theorem O_b100 {a : AT} (hO : OKT a) : ∀ r, r < aNR a → aR a r 3 < 100 ∧ aR a r 4 < 100 := fun r hr => by
  have := (hO.2.2.2.2.1 r hr)
  omega
theorem C_turn (r k : Int32) : ∀ a, OKT a → ∀ τ, RC τ a → ∀ Q : Int32 → Sg → Prop, (∀ υ, FC τ υ → TC τ υ → RC υ (turnA r k a).2 → Q (turnA r k a).1 υ) → wp_X5_turn τ r k Q := by
  intro a hO τ hC Q h
  unfold wp_X5_turn
  unfold turnA at h
  refine s_X3_turnFits hC hO.2.1 (O_b100 hO) ?_
  by_cases ht : tOK a r k
  · rw [if_pos ht] at h ⊢
    refine ⟨fun z => absurd z (by decide), fun _ => ?_⟩
    obtain ⟨h1, h2, h3, h4⟩ := ht
    have h12 := hO.2.1
    obtain ⟨q, hq, rfl⟩ := inp_yes (by omega) h1
    rw [nI_clamp (by omega)] at h h3 h4
    refine s_X3_shiftLanes hC h12 hq (O_b100 hO q hq) (by omega) (by omega) (fun υ e hR => ⟨Or.inr rfl, ?_⟩)
    exact h υ (fun b hb => e b (by omega)) ⟨by rw [e 3 (by decide)], by rw [e 3 (by decide)], e 16 (by decide)⟩ hR
  · rw [if_neg ht] at h ⊢
    exact ⟨fun _ => ⟨Or.inl rfl, h τ (FC.rf τ) (TC.rf τ) hC⟩, fun z => absurd rfl z⟩
theorem M_turn (r k : Int32) : ∀ a, OKT a → ∀ τ, RM τ a → ∀ Q : Int32 → Sg → Prop, (∀ υ, FM τ υ → TM τ υ → RM υ (turnA r k a).2 → Q (turnA r k a).1 υ) → wp_X6_turn τ r k Q := by
  intro a hO τ0 hM0 Q h
  unfold wp_X6_turn
  intro τ e0
  have f0 : FM τ0 τ := by rw [e0]; exact FM_p τ0 (by decide)
  have t0 : TM τ0 τ := by rw [e0]; exact TM_t τ0 _
  have hM : RM τ a := hM0.keep (by rw [e0]; exact put_o (by decide))
  unfold turnA at h
  refine s_X6_mayTurn hM hO.2.1 (O_b100 hO) ?_
  by_cases ht : tOK a r k
  · rw [if_pos ht] at h ⊢
    refine ⟨fun z => absurd z (by decide), fun _ => ?_⟩
    obtain ⟨h1, h2, h3, h4⟩ := ht
    have h12 := hO.2.1
    obtain ⟨q, hq, rfl⟩ := inp_yes (by omega) h1
    rw [nI_clamp (by omega)] at h h3 h4
    refine s_X6_turnsRoad hM hO.1 h12 hq (O_b100 hO q hq) (by omega) (by omega) (fun υ e hR => ⟨Or.inr rfl, ?_⟩)
    exact h υ (f0.tr (fun b hb => e b (by omega))) (t0.tr ⟨by rw [e 30 (by decide)], by rw [e 30 (by decide)], e 33 (by decide)⟩) hR
  · rw [if_neg ht] at h ⊢
    exact ⟨fun _ => ⟨Or.inl rfl, h τ f0 t0 hM⟩, fun z => absurd rfl z⟩
theorem O_turn (r k : Int32) : ∀ a, OKT a → OKT (turnA r k a).2 := by
  intro a hO
  unfold turnA
  split
  · rename_i ht
    obtain ⟨h1, h2, h3, h4⟩ := ht
    obtain ⟨o1, o2, o3, o4, o5, o6⟩ := hO
    refine ⟨o1, o2, o3, o4, ?_, o6⟩
    intro q hq
    have hq : q < aNR a := hq
    have b := o5 q hq
    show up2 (up2 (aR a) _ 3 _) _ 4 _ q 0 < aNP a ∧ up2 (up2 (aR a) _ 3 _) _ 4 _ q 1 < aNP a ∧ up2 (up2 (aR a) _ 3 _) _ 4 _ q 0 ≠ up2 (up2 (aR a) _ 3 _) _ 4 _ q 1 ∧ 1 ≤ up2 (up2 (aR a) _ 3 _) _ 4 _ q 2 ∧ up2 (up2 (aR a) _ 3 _) _ 4 _ q 2 ≤ 9 ∧ 1 ≤ up2 (up2 (aR a) _ 3 _) _ 4 _ q 3 + up2 (up2 (aR a) _ 3 _) _ 4 _ q 4 ∧ up2 (up2 (aR a) _ 3 _) _ 4 _ q 3 + up2 (up2 (aR a) _ 3 _) _ 4 _ q 4 ≤ 18
    unfold up2
    by_cases e : q = r.toNatClampNeg
    · rw [← e] at h3 h4 ⊢
      simp
      omega
    · simp [e]
      exact b
  · exact hO
theorem L_turn {σ : Sg} (hI : INV σ) (r k : Int32) {K : Sg → Prop} (hK : ∀ τ, INV τ → K τ) {C : Int32 → Sg → Prop} (hw : ∀ r1 σ1, wp_X6_turn σ1 r k (fun r2 σ2 => (r1 = r2 → K σ2) ∧ (¬ (r1 = r2) → False)) → C r1 σ1) : wp_X5_turn σ r k C :=
  L_gen hI (wpC := fun τ Q => wp_X5_turn τ r k Q) (wpM := fun τ Q => wp_X6_turn τ r k Q) (turnA r k) (C_turn r k) (M_turn r k) (O_turn r k) hK hw
/-! road -/
abbrev rdOK (a : AT) (p1 p2 p3 p4 p5 : Int32) : Prop := ¬ inp (nI (aNP a)) p1 = 0 ∧ ¬ inp (nI (aNP a)) p2 = 0 ∧ ¬ p1 = p2 ∧ ¬ inr 1 9 p3 = 0 ∧ ¬ inr 0 9 p4 = 0 ∧ ¬ inr 0 9 p5 = 0 ∧ ¬ (p4 = 0 ∧ p5 = 0)
def roadA (p1 p2 p3 p4 p5 : Int32) (a : AT) : Int32 × AT := if rdOK a p1 p2 p3 p4 p5 then
  (if aNR a < 12 then (nI (aNR a), ((aNP a, aNR a + 1, aNM a), aP a, (fun r w => if r = aNR a then (if w = 0 then p1.toNatClampNeg else if w = 1 then p2.toNatClampNeg else if w = 2 then p3.toNatClampNeg else if w = 3 then p4.toNatClampNeg else p5.toNatClampNeg) else aR a r w), aM a)) else (-2, a)) else (-1, a)
theorem s_inr {σ : Sg} {lo hi x : Int32} {Q : Int32 → Sg → Prop} (h : Q (inr lo hi x) σ) : (x < lo → (bz 0 ∧ Q 0 σ)) ∧ (¬ (x < lo) → ((hi < x → (bz 0 ∧ Q 0 σ)) ∧ (¬ (hi < x) → (bz 1 ∧ Q 1 σ)))) := by
  unfold inr at h
  refine ⟨fun h1 => ⟨Or.inl rfl, ?_⟩, fun h1 => ⟨fun h2 => ⟨Or.inl rfl, ?_⟩, fun h2 => ⟨Or.inr rfl, ?_⟩⟩⟩
  · rwa [if_pos h1] at h
  · rwa [if_neg h1, if_pos h2] at h
  · rwa [if_neg h1, if_neg h2] at h
theorem s_fit0 {σ : Sg} {x b : Int32} {Q : Int32 → Sg → Prop} (h : Q (inp (σ 1 0) x) σ) : wp_X3_roadFits σ 0 x b Q := by
  unfold wp_X3_roadFits
  refine ⟨fun _ => s_X3_hasPlace ⟨inp_bz _ _, h⟩, fun z => absurd z (by decide), fun z => absurd z (by decide), fun z => absurd z (by decide), fun z => absurd rfl z⟩
theorem s_fit1 {σ : Sg} {x b : Int32} {Q : Int32 → Sg → Prop} (h : Q (if inp (σ 1 0) x = 0 ∨ x = b then 0 else 1) σ) : wp_X3_roadFits σ 1 x b Q := by
  unfold wp_X3_roadFits
  refine ⟨fun z => absurd z (by decide), fun _ => s_X3_hasPlace ⟨fun h1 => ⟨Or.inl rfl, ?_⟩, fun h1 => ⟨fun h2 => ⟨Or.inl rfl, ?_⟩, fun h2 => ⟨Or.inr rfl, ?_⟩⟩⟩, fun z => absurd z (by decide), fun z => absurd z (by decide), fun _ z => absurd rfl z⟩
  · rwa [if_pos (Or.inl h1)] at h
  · rwa [if_pos (Or.inr h2)] at h
  · rwa [if_neg (by rintro (z | z); exact h1 z; exact h2 z)] at h
theorem s_fit2 {σ : Sg} {x b : Int32} {Q : Int32 → Sg → Prop} (h : Q (inr 1 9 x) σ) : wp_X3_roadFits σ 2 x b Q := by
  unfold wp_X3_roadFits
  refine ⟨fun z => absurd z (by decide), fun z => absurd z (by decide), fun _ => s_inr h, fun z => absurd z (by decide), fun _ _ z => absurd rfl z⟩
theorem s_fit3 {σ : Sg} {x b : Int32} {Q : Int32 → Sg → Prop} (h : Q (inr 0 9 x) σ) : wp_X3_roadFits σ 3 x b Q := by
  unfold wp_X3_roadFits
  refine ⟨fun z => absurd z (by decide), fun z => absurd z (by decide), fun z => absurd z (by decide), fun _ => s_inr h, fun _ _ _ z => absurd rfl z⟩
theorem s_fit4 {σ : Sg} {x b : Int32} {Q : Int32 → Sg → Prop} (hb : ¬ inr 0 9 b = 0) (h : Q (if inr 0 9 x = 0 ∨ (b = 0 ∧ x = 0) then 0 else 1) σ) : wp_X3_roadFits σ 4 x b Q := by
  unfold wp_X3_roadFits
  refine ⟨fun z => absurd z (by decide), fun z => absurd z (by decide), fun z => absurd z (by decide), fun z => absurd z (by decide), fun _ _ _ _ => ⟨fun h1 => ⟨Or.inl rfl, ?_⟩, fun h1 => ⟨fun h2 => ⟨Or.inl rfl, ?_⟩, fun h2 => ?_⟩⟩⟩
  · rwa [if_pos (Or.inl (by unfold inr; rw [if_pos h1]))] at h
  · rwa [if_pos (Or.inl (by unfold inr; rw [if_neg h1, if_pos h2]))] at h
  · have hx : ¬ inr 0 9 x = 0 := by unfold inr; rw [if_neg h1, if_neg h2]; decide
    obtain ⟨v, -, v2, rfl⟩ := inr_yes (a := 0) (b := 9) (by decide) (by decide) hx
    obtain ⟨u, -, u2, rfl⟩ := inr_yes (a := 0) (b := 9) (by decide) (by decide) hb
    have ev : nI v = 0 ↔ v = 0 := nI_eq (b := 0) (by omega) (by decide)
    have eu : nI u = 0 ↔ u = 0 := nI_eq (b := 0) (by omega) (by decide)
    have lv : (0 : Int32) < nI v ↔ 0 < v := nI_ltI (a := 0) (by decide) (by omega)
    have lu : nI u ≤ 0 ↔ u ≤ 0 := nI_leI (b := 0) (by omega) (by decide)
    refine ⟨fun h3 => ⟨Or.inr rfl, ?_⟩, fun h3 => ⟨fun h4 => ⟨Or.inl rfl, ?_⟩, fun h4 => ⟨Or.inr rfl, ?_⟩⟩⟩
    · rw [lv] at h3
      rwa [if_neg (by rintro (z | ⟨-, z⟩); exact hx z; rw [ev] at z; omega)] at h
    · rw [lv] at h3
      rw [lu] at h4
      rwa [if_pos (Or.inr ⟨eu.mpr (by omega), ev.mpr (by omega)⟩)] at h
    · rw [lu] at h4
      rwa [if_neg (by rintro (z | ⟨z, -⟩); exact hx z; rw [eu] at z; omega)] at h
