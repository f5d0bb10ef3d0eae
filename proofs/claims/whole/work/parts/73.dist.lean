/-! monotone; the least thinkable minute -/
theorem CAP_mono {a a' : AT} {t t' : Nat} {X : Nat → Nat → Bool} (ht : t ≤ t') (h1 : aNP a' = aNP a) (h2 : aNR a' = aNR a) (hP : ∀ p, p < aNP a → aP a p 0 ≤ aP a' p 0 ∧ aP a p 1 ≤ aP a' p 1 ∧ aP a' p 2 ≤ aP a p 2 ∧ aP a p 3 ≤ aP a' p 3)
    (hR : ∀ y, y < 2 * aNR a → wS a' y = wS a y ∧ wE a' y = wE a y ∧ wM a' y = wM a y ∧ wL a y ≤ wL a' y) : CAP a t X ≤ CAP a' t' X := by
  have mt : ∀ f : Nat → Int, (∀ i, 0 ≤ f i) → sm (t + 1) f ≤ sm (t' + 1) f := by
    intro f hf
    have : ∀ d, sm (t + 1) f ≤ sm (t + 1 + d) f := by
      intro d
      induction d with
      | zero => exact Int.le_refl _
      | succ d ih =>
        have := hf (t + 1 + d)
        have e : sm (t + 1 + (d + 1)) f = sm (t + 1 + d) f + f (t + 1 + d) := rfl
        omega
    have := this (t' - t)
    rwa [show t + 1 + (t' - t) = t' + 1 by omega] at this
  have ma : ∀ f : Nat → Bool, b2 (anb (t + 1) f) ≤ b2 (anb (t' + 1) f) := by
    intro f
    cases e : anb (t + 1) f
    · exact b2_nn _
    · obtain ⟨i, i1, i2⟩ := anb_iff.mp e
      rw [anb_iff.mpr ⟨i, by omega, i2⟩]
      exact Int.le_refl _
  unfold CAP
  rw [h1, h2]
  have e1 := sm_le (n := aNP a) (f := fun p => (aP a p 0 : Int) * b2 (hX (aP a p 2) t (X p)) + (aP a p 1 : Int) * b2 (sX t (X p)) + (aP a p 3 : Int) * CRh t (X p)) (g := fun p => (aP a' p 0 : Int) * b2 (hX (aP a' p 2) t' (X p)) + (aP a' p 1 : Int) * b2 (sX t' (X p)) + (aP a' p 3 : Int) * CRh t' (X p)) (fun p hp => by
    obtain ⟨p0, p1, p2, p3⟩ := hP p hp
    have k1 : (aP a p 0 : Int) * b2 (hX (aP a p 2) t (X p)) ≤ (aP a' p 0 : Int) * b2 (hX (aP a' p 2) t' (X p)) := by
      refine Int.mul_le_mul (by omega) ?_ (b2_nn _) (by omega)
      cases e : hX (aP a p 2) t (X p)
      · exact b2_nn _
      · obtain ⟨i, i1, i2⟩ := anb_iff.mp e
        simp at i2
        have : hX (aP a' p 2) t' (X p) = true := anb_iff.mpr ⟨i, by omega, by simp [i2.2]; omega⟩
        rw [this]
        exact Int.le_refl _
    have k2 : (aP a p 1 : Int) * b2 (sX t (X p)) ≤ (aP a' p 1 : Int) * b2 (sX t' (X p)) := Int.mul_le_mul (by omega) (ma _) (b2_nn _) (by omega)
    have k3 : (aP a p 3 : Int) * CRh t (X p) ≤ (aP a' p 3 : Int) * CRh t' (X p) := Int.mul_le_mul (by omega) (mt _ (fun m => by split; exact b2_nn _; omega)) (CRh_nn _ _) (by omega)
    omega)
  have e2 := sm_le (n := 2 * aNR a) (f := fun y => (wL a y : Int) * CRw a t X y) (g := fun y => (wL a' y : Int) * CRw a' t' X y) (fun y hy => by
    obtain ⟨y1, y2, y3, y4⟩ := hR y hy
    have : CRw a' t' X y = CRw a t' X y := by unfold CRw; rw [y1, y2, y3]
    rw [this]
    exact Int.mul_le_mul (by omega) (mt _ (fun m => by split; exact b2_nn _; omega)) (CRw_nn _ _ _ _) (by omega))
  omega
theorem CAN.mono {a a' : AT} {t t' : Nat} (h : CAN a t) (ht : t ≤ t') (h1 : aNP a' = aNP a) (h2 : aNR a' = aNR a) (hP : ∀ p, p < aNP a → aP a' p 0 = aP a p 0 ∧ aP a p 1 ≤ aP a' p 1 ∧ aP a' p 2 ≤ aP a p 2 ∧ aP a p 3 ≤ aP a' p 3)
    (hR : ∀ y, y < 2 * aNR a → wS a' y = wS a y ∧ wE a' y = wE a y ∧ wM a' y = wM a y ∧ wL a y ≤ wL a' y) : CAN a' t' := by
  intro X
  have e1 := h X
  have e2 := CAP_mono (X := X) ht h1 h2 (fun p hp => by obtain ⟨p0, p1, p2, p3⟩ := hP p hp; exact ⟨by omega, p1, p2, p3⟩) hR
  have e3 : TOT a' = TOT a := by
    unfold TOT
    rw [h1]
    exact sm_congr (fun p hp => by rw [(hP p hp).1])
  omega
theorem CAN.later {a : AT} {t t' : Nat} (h : CAN a t) (ht : t ≤ t') : CAN a t' := h.mono ht rfl rfl (fun p _ => ⟨rfl, Nat.le_refl _, Nat.le_refl _, Nat.le_refl _⟩) (fun y _ => ⟨rfl, rfl, rfl, Nat.le_refl _⟩)
/-- a cut by how far it is -/
theorem no_can {a : AT} {t p : Nat} {d : Nat → Nat} (hd0 : ∀ p, p < aNP a → 0 < aP a p 1 → d p = 0) (hd : ∀ y, y < 2 * aNR a → 0 < wL a y → d (wS a y) ≤ wM a y + d (wE a y)) (hp : p < aNP a) (h0 : 0 < aP a p 0) (ht : t < aP a p 2 + d p) : ¬ CAN a t := by
  intro hc
  have h1 := hc (fun p m => decide (t < m + d p))
  unfold CAP TOT at h1
  have e1 : sm (2 * aNR a) (fun y => (wL a y : Int) * CRw a t (fun p m => decide (t < m + d p)) y) = 0 := by
    refine sm_zero (fun y hy => ?_)
    rcases Nat.eq_zero_or_pos (wL a y) with q | q
    · rw [q]; simp
    · have := hd y hy q
      have : CRw a t (fun p m => decide (t < m + d p)) y = 0 := by
        refine sm_zero (fun m hm => ?_)
        by_cases z : wM a y ≤ m
        · rw [if_pos z]
          by_cases z1 : t < m - wM a y + d (wS a y)
          · have : t < m + d (wE a y) := by omega
            simp [b2, this]
          · simp [b2, z1]
        · rw [if_neg z]
      rw [this, Int.mul_zero]
  have e2 : ∀ i, i < aNP a → (aP a i 0 : Int) * b2 (hX (aP a i 2) t (fun m => decide (t < m + d i))) + (aP a i 1 : Int) * b2 (sX t (fun m => decide (t < m + d i))) + (aP a i 3 : Int) * CRh t (fun m => decide (t < m + d i)) ≤ (aP a i 0 : Int) - (if i = p then 1 else 0) := by
    intro i hi
    have c1 : CRh t (fun m => decide (t < m + d i)) = 0 := by
      refine sm_zero (fun m hm => ?_)
      by_cases z : 1 ≤ m
      · rw [if_pos z]
        by_cases z1 : t < m - 1 + d i
        · have : t < m + d i := by omega
          simp [b2, this]
        · simp [b2, z1]
      · rw [if_neg z]
    have c2 : (aP a i 1 : Int) * b2 (sX t (fun m => decide (t < m + d i))) = 0 := by
      rcases Nat.eq_zero_or_pos (aP a i 1) with q | q
      · rw [q]; simp
      · have q2 := hd0 i hi q
        cases e : sX t (fun m => decide (t < m + d i))
        · simp [b2]
        · obtain ⟨j, j1, j2⟩ := anb_iff.mp e
          simp at j2
          omega
    rw [c1, c2]
    by_cases z : i = p
    · subst z
      have : hX (aP a i 2) t (fun m => decide (t < m + d i)) = false := by
        cases e : hX (aP a i 2) t (fun m => decide (t < m + d i))
        · rfl
        · obtain ⟨j, j1, j2⟩ := anb_iff.mp e
          simp at j2
          omega
      rw [this, if_pos rfl]
      simp [b2]
      omega
    · rw [if_neg z]
      cases hX (aP a i 2) t (fun m => decide (t < m + d i)) <;> simp [b2]
  have e3 := sm_le e2
  rw [sm_sub, sm_one 1 hp] at e3
  dsimp only at h1
  omega
theorem no_room {a : AT} {t : Nat} (h : TOT a > sm (aNP a) (fun p => (aP a p 1 : Int))) : ¬ CAN a t := by
  intro hc
  have h1 := hc (fun _ _ => true)
  unfold CAP at h1
  have e1 : sm (2 * aNR a) (fun y => (wL a y : Int) * CRw a t (fun _ _ => true) y) = 0 := by
    refine sm_zero (fun y hy => ?_)
    have : CRw a t (fun _ _ => true) y = 0 := sm_zero (fun m hm => by split <;> simp [b2])
    rw [this, Int.mul_zero]
  have e2 : ∀ p, p < aNP a → (aP a p 0 : Int) * b2 (hX (aP a p 2) t (fun _ => true)) + (aP a p 1 : Int) * b2 (sX t (fun _ => true)) + (aP a p 3 : Int) * CRh t (fun _ => true) ≤ (aP a p 1 : Int) := by
    intro p hp
    have c1 : CRh t (fun _ => true) = 0 := sm_zero (fun m hm => by split <;> simp [b2])
    have c2 : hX (aP a p 2) t (fun _ => true) = false := by
      cases h : hX (aP a p 2) t (fun _ => true)
      · rfl
      · obtain ⟨i, -, h2⟩ := anb_iff.mp h
        simp at h2
    rw [c1, c2]
    cases sX t (fun _ => true) <;> simp [b2]
  have e3 := sm_le e2
  dsimp only at h1
  omega
/-- QUICKEST, 41 for none -/
def isQ (a : AT) (q : Nat) : Prop := q ≤ 41 ∧ (∀ t, t < q → ¬ CAN a t) ∧ (q ≤ 40 → CAN a q)
theorem isQ_ex (a : AT) : ∃ q, isQ a q := by
  by_cases h : ∃ t, t ≤ 40 ∧ CAN a t
  · obtain ⟨q, ⟨q1, q2⟩, q3⟩ := pk_least (fun t => t ≤ 40 ∧ CAN a t) h
    exact ⟨q, by omega, fun t ht hc => q3 t ht ⟨by omega, hc⟩, fun _ => q2⟩
  · exact ⟨41, by omega, fun t ht hc => h ⟨t, by omega, hc⟩, fun z => by omega⟩
theorem isQ.can {a : AT} {q : Nat} (h : isQ a q) {t : Nat} (ht : t ≤ 40) : CAN a t ↔ q ≤ t := by
  constructor
  · intro hc
    rcases Nat.lt_or_ge t q with z | z
    · exact absurd hc (h.2.1 t z)
    · exact z
  · intro hq
    exact (h.2.2 (by omega)).later hq
theorem isQ.uniq {a : AT} {q r : Nat} (h : isQ a q) (g : isQ a r) : q = r := by
  rcases Nat.lt_trichotomy q r with z | z | z
  · exact absurd (h.2.2 (by have := g.1; omega)) (g.2.1 q z)
  · exact z
  · exact absurd (g.2.2 (by have := h.1; omega)) (h.2.1 r z)
