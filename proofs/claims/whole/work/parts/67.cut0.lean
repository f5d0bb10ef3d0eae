/-! CUTS of the town laid out minute by minute. X p m: the place p in minute m is on the source's side. -/
def wS (a : AT) (y : Nat) : Nat := aR a (y / 2) (y % 2)
def wE (a : AT) (y : Nat) : Nat := aR a (y / 2) (1 - y % 2)
def wL (a : AT) (y : Nat) : Nat := aR a (y / 2) (3 + y % 2)
def wM (a : AT) (y : Nat) : Nat := aR a (y / 2) 2
def b2 (b : Bool) : Int := if b then 1 else 0
theorem b2_nn (b : Bool) : 0 ≤ b2 b := by unfold b2; split <;> omega
def anb : Nat → (Nat → Bool) → Bool
  | 0, _ => false
  | n + 1, f => anb n f || f n
theorem anb_iff {n : Nat} {f : Nat → Bool} : anb n f = true ↔ ∃ i, i < n ∧ f i = true := by
  induction n with
  | zero => simp [anb]
  | succ n ih =>
    rw [anb, Bool.or_eq_true, ih]
    constructor
    · rintro (⟨i, h1, h2⟩ | h)
      · exact ⟨i, by omega, h2⟩
      · exact ⟨n, by omega, h⟩
    · rintro ⟨i, h1, h2⟩
      by_cases e : i = n
      · subst e; exact Or.inr h2
      · exact Or.inl ⟨i, by omega, h2⟩
theorem anb_no {n : Nat} {f : Nat → Bool} (h : anb n f = false) {i : Nat} (hi : i < n) : f i = false := by
  cases e : f i
  · rfl
  · have := anb_iff.mpr ⟨i, hi, e⟩
    rw [h] at this; cases this
/-- some minute from b to t is not on the source's side -/
def hX (b t : Nat) (x : Nat → Bool) : Bool := anb (t + 1) (fun m => decide (b ≤ m) && !x m)
def sX (t : Nat) (x : Nat → Bool) : Bool := anb (t + 1) x
def CRw (a : AT) (t : Nat) (X : Nat → Nat → Bool) (y : Nat) : Int := sm (t + 1) (fun m => if wM a y ≤ m then b2 (X (wS a y) (m - wM a y) && !X (wE a y) m) else 0)
def CRh (t : Nat) (x : Nat → Bool) : Int := sm (t + 1) (fun m => if 1 ≤ m then b2 (x (m - 1) && !x m) else 0)
def CAP (a : AT) (t : Nat) (X : Nat → Nat → Bool) : Int :=
  sm (aNP a) (fun p => (aP a p 0 : Int) * b2 (hX (aP a p 2) t (X p)) + (aP a p 1 : Int) * b2 (sX t (X p)) + (aP a p 3 : Int) * CRh t (X p)) + sm (2 * aNR a) (fun y => (wL a y : Int) * CRw a t X y)
theorem CRw_nn (a : AT) (t : Nat) (X : Nat → Nat → Bool) (y : Nat) : 0 ≤ CRw a t X y := sm_nn (fun m _ => by split; exact b2_nn _; omega)
theorem CRh_nn (t : Nat) (x : Nat → Bool) : 0 ≤ CRh t x := sm_nn (fun m _ => by split; exact b2_nn _; omega)
/-- the net, seen by a test g of pairs of nodes -/
def NET (hc rc : Nat → Int) (a : AT) (t : Nat) (g : Nat → Nat → Int) : Int :=
  sm (aNP a) (fun p => ((aP a p 0 : Int) * g 344 (328 + p) + sm (t + 1) (fun m => if aP a p 2 ≤ m then hc p * g (328 + p) (8 * m + p) else 0)) +
    ((aP a p 1 : Int) * g (336 + p) 345 + sm (t + 1) (fun m => rc p * g (8 * m + p) (336 + p))) + sm (t + 1) (fun m => if 1 ≤ m then (aP a p 3 : Int) * g (8 * (m - 1) + p) (8 * m + p) else 0)) +
  sm (2 * aNR a) (fun y => sm (t + 1) (fun m => if wM a y ≤ m then (wL a y : Int) * g (8 * (m - wM a y) + wS a y) (8 * m + wE a y) else 0))
theorem sm_mulif {n : Nat} {c : Int} {C : Nat → Prop} [∀ i, Decidable (C i)] {f : Nat → Int} : sm n (fun i => if C i then c * f i else 0) = c * sm n (fun i => if C i then f i else 0) := by
  rw [← sm_mul]
  refine sm_congr (fun i _ => ?_)
  by_cases h : C i
  · rw [if_pos h, if_pos h]
  · rw [if_neg h, if_neg h, Int.mul_zero]
/-- what the numbers of a town must keep to for the net -/
def OKN (a : AT) : Prop := aNP a ≤ 8 ∧ aNR a ≤ 12 ∧ aNM a ≤ 40 ∧ (∀ p, p < aNP a → aP a p 0 ≤ 60 ∧ aP a p 1 ≤ 300 ∧ aP a p 2 ≤ 20 ∧ aP a p 3 ≤ 300) ∧
  (∀ r, r < aNR a → aR a r 0 < aNP a ∧ aR a r 1 < aNP a ∧ 1 ≤ aR a r 2 ∧ aR a r 2 ≤ 9 ∧ aR a r 3 ≤ 99 ∧ aR a r 4 ≤ 99)
theorem OKT.n {a : AT} (h : OKT a) : OKN a := ⟨h.1, h.2.1, h.2.2.1, h.2.2.2.1, fun r hr => by
  obtain ⟨h1, h2, h3, h4, h5, h6, h7⟩ := h.2.2.2.2.1 r hr
  exact ⟨h1, h2, h4, h5, by omega, by omega⟩⟩
theorem OKN.way {a : AT} (h : OKN a) {y : Nat} (hy : y < 2 * aNR a) : wS a y < aNP a ∧ wE a y < aNP a ∧ 1 ≤ wM a y ∧ wM a y ≤ 9 ∧ wL a y ≤ 99 := by
  obtain ⟨h1, h2, h3, h4, h5, h6⟩ := h.2.2.2.2 (y / 2) (by omega)
  unfold wS wE wM wL
  rcases Nat.mod_two_eq_zero_or_one y with e | e
  · rw [e]; exact ⟨h1, h2, h3, h4, h5⟩
  · rw [e]; exact ⟨h2, h1, h3, h4, h6⟩
/-- a set of nodes that a cut of the places makes -/
def SX (a : AT) (t : Nat) (X : Nat → Nat → Bool) (u : Nat) : Bool :=
  if u < 328 then X (u % 8) (u / 8) else if u < 336 then !hX (aP a (u - 328) 2) t (X (u - 328)) else if u < 344 then sX t (X (u - 336)) else decide (u = 344)
theorem SX_nd {a : AT} {t : Nat} {X : Nat → Nat → Bool} {p m : Nat} (hp : p < 8) (hm : m ≤ 40) : SX a t X (8 * m + p) = X p m := by
  unfold SX
  rw [if_pos (by omega), show (8 * m + p) % 8 = p by omega, show (8 * m + p) / 8 = m by omega]
theorem SX_ho {a : AT} {t : Nat} {X : Nat → Nat → Bool} {p : Nat} (hp : p < 8) : SX a t X (328 + p) = !hX (aP a p 2) t (X p) := by
  unfold SX
  rw [if_neg (by omega), if_pos (by omega), show 328 + p - 328 = p by omega]
theorem SX_sh {a : AT} {t : Nat} {X : Nat → Nat → Bool} {p : Nat} (hp : p < 8) : SX a t X (336 + p) = sX t (X p) := by
  unfold SX
  rw [if_neg (by omega), if_neg (by omega), if_pos (by omega), show 336 + p - 336 = p by omega]
theorem SX_s {a : AT} {t : Nat} {X : Nat → Nat → Bool} : SX a t X 344 = true := by unfold SX; simp
theorem SX_t {a : AT} {t : Nat} {X : Nat → Nat → Bool} : SX a t X 345 = false := by unfold SX; simp
theorem crs_b2 (S : Nat → Bool) (u w : Nat) : crs S u w = b2 (S u && !S w) := by unfold crs b2; cases S u <;> cases S w <;> rfl
theorem NET_SX {hc rc : Nat → Int} {a : AT} {t : Nat} {X : Nat → Nat → Bool} (hO : OKN a) (ht : t ≤ 40) : NET hc rc a t (crs (SX a t X)) = CAP a t X := by
  unfold NET CAP
  have h8 := hO.1
  congr 1
  · refine sm_congr (fun p hp => ?_)
    have e1 : sm (t + 1) (fun m => if aP a p 2 ≤ m then hc p * crs (SX a t X) (328 + p) (8 * m + p) else 0) = 0 := by
      refine sm_zero (fun m hm => ?_)
      by_cases hb : aP a p 2 ≤ m
      · rw [if_pos hb, crs_b2, SX_ho (by omega), SX_nd (by omega) (by omega)]
        cases hh : hX (aP a p 2) t (X p)
        · have := anb_no hh hm
          rw [decide_eq_true hb] at this
          simp at this
          rw [this]; simp [b2]
        · simp [b2]
      · rw [if_neg hb]
    have e2 : sm (t + 1) (fun m => rc p * crs (SX a t X) (8 * m + p) (336 + p)) = 0 := by
      refine sm_zero (fun m hm => ?_)
      rw [crs_b2, SX_sh (by omega), SX_nd (by omega) (by omega)]
      cases hh : sX t (X p)
      · have := anb_no hh hm
        rw [this]; simp [b2]
      · simp [b2]
    have e3 : crs (SX a t X) 344 (328 + p) = b2 (hX (aP a p 2) t (X p)) := by rw [crs_b2, SX_s, SX_ho (by omega)]; simp
    have e4 : crs (SX a t X) (336 + p) 345 = b2 (sX t (X p)) := by rw [crs_b2, SX_t, SX_sh (by omega)]; simp
    have e5 : sm (t + 1) (fun m => if 1 ≤ m then (aP a p 3 : Int) * crs (SX a t X) (8 * (m - 1) + p) (8 * m + p) else 0) = (aP a p 3 : Int) * CRh t (X p) := by
      rw [sm_mulif]
      unfold CRh
      congr 1
      refine sm_congr (fun m hm => ?_)
      by_cases hb : 1 ≤ m
      · rw [if_pos hb, if_pos hb, crs_b2, SX_nd (by omega) (by omega), SX_nd (by omega) (by omega)]
      · rw [if_neg hb, if_neg hb]
    rw [e1, e2, e3, e4, e5]
    omega
  · refine sm_congr (fun y hy => ?_)
    obtain ⟨w1, w2, w3, w4, w5⟩ := hO.way hy
    rw [sm_mulif]
    unfold CRw
    congr 1
    refine sm_congr (fun m hm => ?_)
    by_cases hb : wM a y ≤ m
    · rw [if_pos hb, if_pos hb, crs_b2, SX_nd (by omega) (by omega), SX_nd (by omega) (by omega)]
    · rw [if_neg hb, if_neg hb]
def XS (S : Nat → Bool) (p m : Nat) : Bool := S (8 * m + p)
theorem NET_le {hc rc : Nat → Int} {a : AT} {t : Nat} {S : Nat → Bool} (h0 : ∀ p, p < aNP a → (aP a p 0 : Int) ≤ hc p) (h1 : ∀ p, p < aNP a → (aP a p 1 : Int) ≤ rc p) (hs : S 344 = true) (ht : S 345 = false) : CAP a t (XS S) ≤ NET hc rc a t (crs S) := by
  unfold NET CAP
  have e1 : ∀ p, p < aNP a → (aP a p 0 : Int) * b2 (hX (aP a p 2) t (XS S p)) + (aP a p 1 : Int) * b2 (sX t (XS S p)) + (aP a p 3 : Int) * CRh t (XS S p) ≤ ((aP a p 0 : Int) * crs S 344 (328 + p) + sm (t + 1) (fun m => if aP a p 2 ≤ m then hc p * crs S (328 + p) (8 * m + p) else 0)) +
    ((aP a p 1 : Int) * crs S (336 + p) 345 + sm (t + 1) (fun m => rc p * crs S (8 * m + p) (336 + p))) + sm (t + 1) (fun m => if 1 ≤ m then (aP a p 3 : Int) * crs S (8 * (m - 1) + p) (8 * m + p) else 0) := by
    intro p hp
    have k0 := h0 p hp
    have k1 := h1 p hp
    have n1 : ∀ m, m < t + 1 → 0 ≤ (if aP a p 2 ≤ m then hc p * crs S (328 + p) (8 * m + p) else 0) := by
      intro m _
      split
      · rw [crs_b2]; exact Int.mul_nonneg (by omega) (b2_nn _)
      · omega
    have n2 : ∀ m, m < t + 1 → 0 ≤ rc p * crs S (8 * m + p) (336 + p) := by
      intro m _
      rw [crs_b2]; exact Int.mul_nonneg (by omega) (b2_nn _)
    have q1 : (aP a p 0 : Int) * b2 (hX (aP a p 2) t (XS S p)) ≤ (aP a p 0 : Int) * crs S 344 (328 + p) + sm (t + 1) (fun m => if aP a p 2 ≤ m then hc p * crs S (328 + p) (8 * m + p) else 0) := by
      have nn := sm_nn n1
      cases hh : hX (aP a p 2) t (XS S p)
      · rw [crs_b2]
        have := Int.mul_nonneg (a := (aP a p 0 : Int)) (by omega) (b2_nn (S 344 && !S (328 + p)))
        simp [b2] at this ⊢
        omega
      · cases hH : S (328 + p)
        · rw [crs_b2, hs, hH]; simp [b2]; omega
        · obtain ⟨m, m1, m2⟩ := anb_iff.mp hh
          simp [XS] at m2
          have := sm_mem n1 m1
          rw [if_pos m2.1, crs_b2, hH, m2.2] at this
          rw [crs_b2, hs, hH]
          simp [b2] at this ⊢
          omega
    have q2 : (aP a p 1 : Int) * b2 (sX t (XS S p)) ≤ (aP a p 1 : Int) * crs S (336 + p) 345 + sm (t + 1) (fun m => rc p * crs S (8 * m + p) (336 + p)) := by
      have nn := sm_nn n2
      cases hh : sX t (XS S p)
      · rw [crs_b2]
        have := Int.mul_nonneg (a := (aP a p 1 : Int)) (by omega) (b2_nn (S (336 + p) && !S 345))
        simp [b2] at this ⊢
        omega
      · cases hH : S (336 + p)
        · obtain ⟨m, m1, m2⟩ := anb_iff.mp hh
          simp [XS] at m2
          have := sm_mem n2 m1
          rw [crs_b2, hH, m2] at this
          rw [crs_b2, ht, hH]
          simp [b2] at this ⊢
          omega
        · rw [crs_b2, ht, hH]; simp [b2]; omega
    have q3 : sm (t + 1) (fun m => if 1 ≤ m then (aP a p 3 : Int) * crs S (8 * (m - 1) + p) (8 * m + p) else 0) = (aP a p 3 : Int) * CRh t (XS S p) := by
      rw [sm_mulif]
      unfold CRh
      congr 1
    omega
  have e2 := sm_le e1
  have e3 : sm (2 * aNR a) (fun y => sm (t + 1) (fun m => if wM a y ≤ m then (wL a y : Int) * crs S (8 * (m - wM a y) + wS a y) (8 * m + wE a y) else 0)) = sm (2 * aNR a) (fun y => (wL a y : Int) * CRw a t (XS S) y) := by
    refine sm_congr (fun y hy => ?_)
    rw [sm_mulif]
    unfold CRw
    congr 1
  omega
/-! the greatest flow, by cuts -/
def MFV (a : AT) (t : Nat) (v : Int) : Prop := (∀ X, v ≤ CAP a t X) ∧ ∃ X, CAP a t X = v
def NOP (a : AT) (t : Nat) (p m : Nat) : Prop := ∃ X v, MFV a t v ∧ CAP a t X = v ∧ X p m = true
theorem MFV.uniq {a : AT} {t : Nat} {v w : Int} (h : MFV a t v) (g : MFV a t w) : v = w := by
  obtain ⟨h1, X, h2⟩ := h
  obtain ⟨g1, Y, g2⟩ := g
  have := h1 Y
  have := g1 X
  omega
def TOT (a : AT) : Int := sm (aNP a) (fun p => (aP a p 0 : Int))
theorem CAP_none (a : AT) (t : Nat) : CAP a t (fun _ _ => false) ≤ TOT a := by
  unfold CAP TOT
  have e1 : sm (2 * aNR a) (fun y => (wL a y : Int) * CRw a t (fun _ _ => false) y) = 0 := by
    refine sm_zero (fun y hy => ?_)
    have : CRw a t (fun _ _ => false) y = 0 := sm_zero (fun m hm => by split <;> simp [b2])
    rw [this, Int.mul_zero]
  have e2 : sm (aNP a) (fun p => (aP a p 0 : Int) * b2 (hX (aP a p 2) t (fun _ => false)) + (aP a p 1 : Int) * b2 (sX t (fun _ => false)) + (aP a p 3 : Int) * CRh t (fun _ => false)) ≤ sm (aNP a) (fun p => (aP a p 0 : Int)) := by
    refine sm_le (fun p hp => ?_)
    have c1 : CRh t (fun _ => false) = 0 := sm_zero (fun m hm => by split <;> simp [b2])
    have c2 : sX t (fun _ => false) = false := by
      cases h : sX t (fun _ => false)
      · rfl
      · obtain ⟨i, -, h2⟩ := anb_iff.mp h
        cases h2
    rw [c1, c2]
    cases hX (aP a p 2) t (fun _ => false) <;> simp [b2]
  rw [e1, Int.add_zero]; exact e2
theorem MFV.le {a : AT} {t : Nat} {v : Int} (h : MFV a t v) : v ≤ TOT a := Int.le_trans (h.1 _) (CAP_none a t)
def CAN (a : AT) (t : Nat) : Prop := ∀ X, TOT a ≤ CAP a t X
theorem MFV.can {a : AT} {t : Nat} {v : Int} (h : MFV a t v) : CAN a t ↔ v = TOT a := by
  obtain ⟨h1, X, h2⟩ := h
  constructor
  · intro hc
    have := hc X
    have := MFV.le ⟨h1, X, h2⟩
    omega
  · intro e Y
    have := h1 Y
    omega
/-- a flow and a cut that it can't leave -/
theorem mf_of {E : Nat} {lt : Nat → Nat} {s : Nat → Int} {v : Int} {hc rc : Nat → Int} {a : AT} {t : Nat} (hO : OKN a) (ht : t ≤ 40) (hs : ∀ b, b < 2 * E → 0 ≤ s b) (hF : ∀ χ, Fl E lt s χ = v * (χ 344 - χ 345)) (hN : ∀ g, Cp E lt s g = NET hc rc a t g)
    (h0 : ∀ p, p < aNP a → (aP a p 0 : Int) ≤ hc p) (h1 : ∀ p, p < aNP a → (aP a p 1 : Int) ≤ rc p) :
    (∀ X, v ≤ CAP a t X) ∧ (∀ S : Nat → Bool, S 344 = true → S 345 = false → (∀ b, b < 2 * E → S (lt (pr b)) = true → 0 < s b → S (lt b) = true) → MFV a t v ∧ CAP a t (XS S) = v) := by
  have w : ∀ X, v ≤ CAP a t X := by
    intro X
    have := weak hs hF (SX a t X) SX_s SX_t
    rwa [hN, NET_SX hO ht] at this
  refine ⟨w, fun S s1 s2 s3 => ?_⟩
  have h2 := strong hs hF S s1 s2 s3
  rw [hN] at h2
  have h3 := NET_le (t := t) h0 h1 s1 s2
  have h4 := w (XS S)
  exact ⟨⟨w, XS S, by omega⟩, by omega⟩
theorem op_of {E : Nat} {lt : Nat → Nat} {s : Nat → Int} {v : Int} {hc rc : Nat → Int} {a : AT} {t : Nat} (hO : OKN a) (ht : t ≤ 40) (hs : ∀ b, b < 2 * E → 0 ≤ s b) (hF : ∀ χ, Fl E lt s χ = v * (χ 344 - χ 345)) (hN : ∀ g, Cp E lt s g = NET hc rc a t g)
    (h0 : ∀ p, p < aNP a → (aP a p 0 : Int) ≤ hc p) (h1 : ∀ p, p < aNP a → (aP a p 1 : Int) ≤ rc p) {S : Nat → Bool} (s1 : S 344 = true) (s2 : S 345 = false) (s3 : ∀ b, b < 2 * E → S (lt (pr b)) = true → 0 < s b → S (lt b) = true)
    (s4 : ∀ S' : Nat → Bool, S' 345 = false → (∀ b, b < 2 * E → S' (lt (pr b)) = true → 0 < s b → S' (lt b) = true) → ∀ u, u < 346 → S u = false → S' u = false) {p m : Nat} (hp : p < 8) (hm : m ≤ t) : S (8 * m + p) = true ↔ NOP a t p m := by
  obtain ⟨w, k⟩ := mf_of hO ht hs hF hN h0 h1
  obtain ⟨k1, k2⟩ := k S s1 s2 s3
  constructor
  · intro h
    exact ⟨XS S, v, k1, k2, h⟩
  · rintro ⟨X, v', x1, x2, x3⟩
    have := x1.uniq k1
    subst this
    cases hh : S (8 * m + p)
    · have c := closed hs hF (SX a t X) SX_s SX_t (by rw [hN, NET_SX hO ht, x2]; exact Int.le_refl _)
      have := s4 _ SX_t c (8 * m + p) (by omega) hh
      rw [SX_nd hp (by omega), x3] at this
      cases this
    · rfl
