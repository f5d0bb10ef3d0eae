/-! turn -/
theorem i_add {a b : Int32} (h1 : -2147483648 ≤ a.toInt + b.toInt) (h2 : a.toInt + b.toInt < 2147483648) : (a + b).toInt = a.toInt + b.toInt := by
  rw [Int32.toInt_add]
  exact Int.bmod_eq_of_le (by omega) (by omega)
theorem i_sub {a b : Int32} (h1 : -2147483648 ≤ a.toInt - b.toInt) (h2 : a.toInt - b.toInt < 2147483648) : (a - b).toInt = a.toInt - b.toInt := by
  rw [Int32.toInt_sub]
  exact Int.bmod_eq_of_le (by omega) (by omega)
theorem e_21_of (r : Nat) : nI (2 * r) + 1 = nI (2 * r + 1) := nI_1 _
theorem i_nI {x : Int32} (h : 0 ≤ x.toInt) : x = nI x.toInt.toNat := by
  apply Int32.toInt_inj.mp
  have h2 := Int32.toInt_lt x
  rw [nI_toInt (by omega)]
  omega
abbrev tOK (a : AT) (r k : Int32) : Prop := ¬ inp (nI (aNR a)) r = 0 ∧ ¬ k = 0 ∧ -(aR a r.toNatClampNeg 3 : Int) ≤ k.toInt ∧ k.toInt ≤ (aR a r.toNatClampNeg 4 : Int)
/-- k lanes turned -/
def turnRow (a : AT) (r : Nat) (k : Int) : AT := ((aNP a, aNR a, aNM a), aP a, up2 (up2 (aR a) r 3 ((aR a r 3 : Int) + k).toNat) r 4 ((aR a r 4 : Int) - k).toNat, aM a)
def turnA (r k : Int32) (a : AT) : Int32 × AT := if tOK a r k then (1, turnRow a r.toNatClampNeg k.toInt) else (0, a)
theorem s_X3_turnFits {σ : Sg} {a : AT} {r k : Int32} {Q : Int32 → Sg → Prop} (hC : RC σ a) (h12 : aNR a ≤ 12) (hb : ∀ r, r < aNR a → aR a r 3 < 100 ∧ aR a r 4 < 100) (h : Q (if tOK a r k then 1 else 0) σ) : wp_X3_turnFits σ r k Q := by
  unfold wp_X3_turnFits
  refine s_X3_hasRoad ?_
  rw [hC.2.1]
  refine ⟨fun h1 => ⟨Or.inl rfl, ?_⟩, fun h1 => ⟨fun h2 => ⟨Or.inl rfl, ?_⟩, fun h2 => ?_⟩⟩
  · rwa [if_neg (fun z => z.1 h1)] at h
  · rwa [if_neg (fun z => z.2.1 h2)] at h
  · obtain ⟨q, hq, rfl⟩ := inp_yes (by omega) h1
    obtain ⟨c1, c2, c3, c4, c5⟩ := hC.2.2.2.2.1 q hq
    obtain ⟨b3, b4⟩ := hb q hq
    have hcl : (nI q).toNatClampNeg = q := nI_clamp (by omega)
    rw [e_2, e_21_of]
    rw [nI_clamp (n := 2 * q) (by omega), nI_clamp (n := 2 * q + 1) (by omega), c4, c5]
    have t3 : (-nI (aR a q 3)).toInt = -(aR a q 3 : Int) := sb_negT (by omega)
    have t4 : (nI (aR a q 4)).toInt = (aR a q 4 : Int) := nI_toInt (by omega)
    refine ⟨vp_in_nI (by omega) (by decide), fun h3 => ⟨Or.inl rfl, ?_⟩, fun h3 => ⟨vp_in_nI (by omega) (by decide), fun h4 => ⟨Or.inl rfl, ?_⟩, fun h4 => ⟨Or.inr rfl, ?_⟩⟩⟩
    · rw [Int32.lt_iff_toInt_lt, t3] at h3
      rwa [if_neg (fun z => by have := z.2.2.1; rw [hcl] at this; omega)] at h
    · rw [Int32.lt_iff_toInt_lt, t4] at h4
      rwa [if_neg (fun z => by have := z.2.2.2; rw [hcl] at this; omega)] at h
    · rw [Int32.lt_iff_toInt_lt, t3] at h3
      rw [Int32.lt_iff_toInt_lt, t4] at h4
      rwa [if_pos ⟨h1, h2, by rw [hcl]; omega, by rw [hcl]; omega⟩] at h
theorem s_X6_mayTurn {σ : Sg} {a : AT} {r k : Int32} {Q : Int32 → Sg → Prop} (hM : RM σ a) (h12 : aNR a ≤ 12) (hb : ∀ r, r < aNR a → aR a r 3 < 100 ∧ aR a r 4 < 100) (h : Q (if tOK a r k then 1 else 0) σ) : wp_X6_mayTurn σ r k Q := by
  unfold wp_X6_mayTurn
  refine s_X6_isRoad hM.2.1 (by omega) ⟨fun h1 => ⟨Or.inl rfl, ?_⟩, fun h1 => ?_⟩
  · rwa [if_neg (fun z => z.1 h1)] at h
  · obtain ⟨q, hq, rfl⟩ := inp_yes (by omega) h1
    have c3 := hM.2.2.2.2.1 q hq 3 (by decide)
    have c4 := hM.2.2.2.2.1 q hq 4 (by decide)
    obtain ⟨b3, b4⟩ := hb q hq
    have hcl : (nI q).toNatClampNeg = q := nI_clamp (by omega)
    have t3 : (nI (aR a q 3)).toInt = (aR a q 3 : Int) := nI_toInt (by omega)
    have t4 : (nI (aR a q 4)).toInt = (aR a q 4 : Int) := nI_toInt (by omega)
    have m200 : ((-200 : Int32)).toInt = -200 := by decide
    have p200 : ((200 : Int32)).toInt = 200 := by decide
    refine s_X6_isIn ⟨fun h2 => ⟨Or.inl rfl, ?_⟩, fun h2 => ⟨fun h3 => ⟨Or.inl rfl, ?_⟩, fun h3 => ?_⟩⟩
    · rw [if_neg] at h
      · exact h
      · intro z
        have z3 := z.2.2.1
        have z4 := z.2.2.2
        rw [hcl] at z3 z4
        unfold inr at h2
        rw [if_neg (by rw [Int32.lt_iff_toInt_lt, m200]; omega), if_neg (by rw [Int32.lt_iff_toInt_lt, p200]; omega)] at h2
        exact absurd h2 (by decide)
    · rwa [if_neg (fun z => z.2.1 h3)] at h
    · have hk : -200 ≤ k.toInt ∧ k.toInt ≤ 200 := by
        unfold inr at h2
        by_cases z1 : k < -200
        · rw [if_pos z1] at h2; exact absurd rfl h2
        · rw [if_neg z1] at h2
          by_cases z2 : (200 : Int32) < k
          · rw [if_pos z2] at h2; exact absurd rfl h2
          · rw [Int32.lt_iff_toInt_lt, m200] at z1
            rw [Int32.lt_iff_toInt_lt, p200] at z2
            omega
      refine s_X6_ofRoad (w := 3) (by omega) (by decide) ?_
      rw [c3]
      have u3 : (nI (aR a q 3) + k).toInt = (aR a q 3 : Int) + k.toInt := by rw [i_add (by rw [t3]; omega) (by rw [t3]; omega), t3]
      have u4 : (nI (aR a q 4) - k).toInt = (aR a q 4 : Int) - k.toInt := by rw [i_sub (by rw [t4]; omega) (by rw [t4]; omega), t4]
      refine ⟨fun h4 => ⟨Or.inl rfl, ?_⟩, fun h4 => s_X6_ofRoad (w := 4) (by omega) (by decide) ?_⟩
      · rw [Int32.lt_iff_toInt_lt, u3] at h4
        have h4 : (aR a q 3 : Int) + k.toInt < 0 := h4
        rwa [if_neg (fun z => by have := z.2.2.1; rw [hcl] at this; omega)] at h
      · rw [c4]
        rw [Int32.lt_iff_toInt_lt, u3] at h4
        have h4 : ¬ (aR a q 3 : Int) + k.toInt < 0 := h4
        refine ⟨fun h5 => ⟨Or.inl rfl, ?_⟩, fun h5 => ⟨Or.inr rfl, ?_⟩⟩
        · rw [Int32.lt_iff_toInt_lt, u4] at h5
          have h5 : (aR a q 4 : Int) - k.toInt < 0 := h5
          rwa [if_neg (fun z => by have := z.2.2.2; rw [hcl] at this; omega)] at h
        · rw [Int32.lt_iff_toInt_lt, u4] at h5
          have h5 : ¬ (aR a q 4 : Int) - k.toInt < 0 := h5
          rwa [if_pos ⟨h1, h3, by rw [hcl]; omega, by rw [hcl]; omega⟩] at h
/-- the lanes turned, in the class -/
theorem s_X3_shiftLanes {σ : Sg} {a : AT} {q : Nat} {k : Int32} {Q : Sg → Prop} (hC : RC σ a) (h12 : aNR a ≤ 12) (hq : q < aNR a) (hb : aR a q 3 < 100 ∧ aR a q 4 < 100) (hk3 : 0 ≤ (aR a q 3 : Int) + k.toInt) (hk4 : 0 ≤ (aR a q 4 : Int) - k.toInt)
    (h : ∀ τ, (∀ b, b ≠ 8 → τ b = σ b) → RC τ (turnRow a q k.toInt) → Q τ) : wp_X3_shiftLanes σ (nI q) k Q := by
  unfold wp_X3_shiftLanes
  obtain ⟨c1, c2, c3, c4, c5⟩ := hC.2.2.2.2.1 q hq
  have t3 : (nI (aR a q 3)).toInt = (aR a q 3 : Int) := nI_toInt (by omega)
  have t4 : (nI (aR a q 4)).toInt = (aR a q 4 : Int) := nI_toInt (by omega)
  have u3 : nI (aR a q 3) + k = nI ((aR a q 3 : Int) + k.toInt).toNat := by
    have z := i_add (a := nI (aR a q 3)) (b := k) (by rw [t3]; omega) (by rw [t3]; omega)
    rw [i_nI (x := nI (aR a q 3) + k) (by rw [z, t3]; omega), z, t3]
  have u4 : nI (aR a q 4) - k = nI ((aR a q 4 : Int) - k.toInt).toNat := by
    have z := i_sub (a := nI (aR a q 4)) (b := k) (by rw [t4]; omega) (by rw [t4]; omega)
    rw [i_nI (x := nI (aR a q 4) - k) (by rw [z, t4]; omega), z, t4]
  rw [e_2, e_21_of, nI_clamp (n := 2 * q) (by omega), nI_clamp (n := 2 * q + 1) (by omega), c4]
  refine ⟨vp_in_nI (by omega) (by decide), vp_in_nI (by omega) (by decide), fun σ1 e1 => ⟨vp_in_nI (by omega) (by decide), vp_in_nI (by omega) (by decide), fun σ2 e2 => ?_⟩⟩
  have r5 : σ1 8 (2 * q + 1) = nI (aR a q 4) := by rw [e1, put_n (by omega), c5]
  rw [r5, u4] at e2
  rw [u3] at e1
  have g : ∀ b i, σ2 b i = if b = 8 ∧ i = 2 * q + 1 then nI ((aR a q 4 : Int) - k.toInt).toNat else if b = 8 ∧ i = 2 * q then nI ((aR a q 3 : Int) + k.toInt).toNat else σ b i := by
    intro b i
    rw [e2, put_at, e1, put_at]
  have gk : ∀ b, b ≠ 8 → σ2 b = σ b := fun b hb => by funext i; rw [g]; simp [hb]
  refine h σ2 gk ?_
  obtain ⟨d1, d2, d3, d4, d5, d6⟩ := hC
  refine ⟨by rw [gk 1 (by decide)]; exact d1, by rw [gk 1 (by decide)]; exact d2, by rw [gk 2 (by decide)]; exact d3, fun p hp w hw => by rw [gk 9 (by decide)]; exact d4 p hp w hw, ?_, fun j hj w hw => by rw [gk 13 (by decide)]; exact d6 j hj w hw⟩
  intro r hr
  have hr : r < aNR a := hr
  obtain ⟨f1, f2, f3, f4, f5⟩ := d5 r hr
  show σ2 7 (2 * r) = nI (up2 (up2 (aR a) q 3 _) q 4 _ r 0) ∧ σ2 7 (2 * r + 1) = nI (up2 (up2 (aR a) q 3 _) q 4 _ r 1) ∧ σ2 6 r = nI (up2 (up2 (aR a) q 3 _) q 4 _ r 2) ∧ σ2 8 (2 * r) = nI (up2 (up2 (aR a) q 3 _) q 4 _ r 3) ∧ σ2 8 (2 * r + 1) = nI (up2 (up2 (aR a) q 3 _) q 4 _ r 4)
  rw [gk 7 (by decide), gk 6 (by decide), g, g]
  unfold up2
  refine ⟨by simp; exact f1, by simp; exact f2, by simp; exact f3, ?_, ?_⟩
  · by_cases e : r = q
    · subst e; simp
    · rw [if_neg (by omega), if_neg (by omega), if_neg (by omega), if_neg (by omega)]; exact f4
  · by_cases e : r = q
    · subst e; simp
    · rw [if_neg (by omega), if_neg (by omega), if_neg (by omega), if_neg (by omega)]; exact f5
