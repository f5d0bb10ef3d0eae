/-! the class: pushing, filling up to a minute, where it is open -/
def TOTn (a : AT) : Nat := ns (aNP a) (fun p => aP a p 0)
theorem ns_sm (n : Nat) (f : Nat → Nat) : ((ns n f : Nat) : Int) = sm n (fun i => (f i : Int)) := by
  induction n with
  | zero => rfl
  | succ n ih => rw [ns, sm, Int.natCast_add, ih]
theorem TOT_n (a : AT) : TOT a = (TOTn a : Int) := (ns_sm _ _).symm
theorem TOTn_le {a : AT} (h : OKN a) : TOTn a ≤ 480 := by
  have h1 := ns_le (n := aNP a) (f := fun p => aP a p 0) (b := 60) (fun i hi => (h.2.2.2.1 i hi).1)
  have h2 := h.1
  unfold TOTn
  omega
def CS (a : AT) (t : Nat) (τ : Sg) (E V : Nat) : Prop := CN a τ E (NB a (t + 1)) (fun χ => (V : Int) * (χ 344 - χ 345)) ∧ E ≤ 16 + 48 * (t + 1) ∧ τ 4 2 = nI t ∧ τ 4 3 = nI (TOTn a) ∧ τ 4 4 = nI V
theorem CS.cg {a : AT} {t : Nat} {σ τ : Sg} {E V : Nat} (h : CS a t σ E V) (f : ∀ k, k ≠ 23 → k ≠ 24 → k ≠ 25 → k ≠ 26 → k ≠ 27 → τ k = σ k) : CS a t τ E V := by
  obtain ⟨⟨⟨g1, g2⟩, g3, g4, g5⟩, h2, h3, h4, h5⟩ := h
  have o : ∀ k, k < 23 → τ k = σ k := fun k hk => f k (by omega) (by omega) (by omega) (by omega) (by omega)
  refine ⟨⟨⟨?_, ?_⟩, g3.keep (by rw [o 1 (by decide)]) (by rw [o 1 (by decide)]) (by rw [o 2 (by decide)]) (o 6 (by decide)) (o 7 (by decide)) (o 8 (by decide)) (o 9 (by decide)) (o 13 (by decide)), ?_, ?_⟩, h2, ?_, ?_, ?_⟩
  · rw [o 19 (by decide), o 20 (by decide), o 21 (by decide), o 22 (by decide)]; exact g1
  · rw [o 4 (by decide)]; exact g2
  · rw [o 21 (by decide), o 22 (by decide)]; exact g4
  · rw [o 21 (by decide), o 22 (by decide)]; exact g5
  · rw [o 4 (by decide)]; exact h3
  · rw [o 4 (by decide)]; exact h4
  · rw [o 4 (by decide)]; exact h5
theorem CS.mf {a : AT} {t : Nat} {τ : Sg} {E V : Nat} (hO : OKN a) (ht : t ≤ 40) (h : CS a t τ E V) : (∀ X, (V : Int) ≤ CAP a t X) ∧ (∀ S : Nat → Bool, S 344 = true → S 345 = false → (∀ b, b < 2 * E → S (ltf (τ 21) (pr b)) = true → 0 < spf (τ 22) b → S (ltf (τ 21) b) = true) → MFV a t V ∧ CAP a t (XS S) = V) :=
  mf_of hO ht (fun b hb => (h.1.1.1.2.1 b hb).2.2.2) h.1.2.2.2 (fun g => by rw [h.1.2.2.1, NB_NET]) (fun p _ => Int.le_refl _) (fun p _ => Int.le_refl _)
theorem CS.le {a : AT} {t : Nat} {τ : Sg} {E V : Nat} (hO : OKN a) (ht : t ≤ 40) (h : CS a t τ E V) : V ≤ TOTn a := by
  have h1 := (h.mf hO ht).1 (fun _ _ => false)
  have h2 := CAP_none a t
  rw [TOT_n] at h2
  omega
def mkS (τ : Sg) (u : Nat) : Bool := decide (τ 23 u = -1)
def PF (σ τ : Sg) : Prop := ∀ k, k ≠ 4 → (k < 22 ∨ 25 < k) → τ k = σ k
theorem s_push {a : AT} {σ : Sg} {t E V : Nat} {Q : Sg → Prop} (hO : OKN a) (ht : t ≤ 40) (hS : CS a t σ E V)
    (h : ∀ (τ : Sg) (V' : Nat), PF σ τ → CS a t τ E V' → MFV a t V' → (V' < TOTn a → CAP a t (XS (mkS τ)) = V') → Q τ) : wp_X0_push σ Q := by
  have h480 := TOTn_le hO
  have key : ∀ f c V (τ : Sg), TOTn a - V < f → c ≤ V → CS a t τ E V → PF σ τ → wp_X0_push_2 Q f (nI c) τ := by
    intro f
    induction f with
    | zero => intro c V τ hf; omega
    | succ f ih =>
      intro c V τ hf hc hS hF
      have hle := hS.le hO ht
      rw [wp_X0_push_2, hS.2.2.2.1, hS.2.2.2.2]
      refine ⟨fun z => absurd z (nI_ge (b := 1000000) (by omega) (by omega)), fun _ => ?_⟩
      refine pk_le (TOTn a) V (fun hge => ?_) (fun hlt => ?_) rfl rfl (by omega) (by omega)
      · refine h τ V hF hS ⟨(hS.mf hO ht).1, fun _ _ => false, ?_⟩ (fun z => by omega)
        have h1 := (hS.mf hO ht).1 (fun _ _ => false)
        have h2 := CAP_none a t
        rw [TOT_n] at h2
        omega
      · have hG := hS.1.1.1
        refine s_reachSource hG (fun r υ f1 hR hL h345 hr => ⟨fun h0 => ?_, fun h0 => ?_⟩)
        · rcases hr with ⟨-, q2, q3⟩ | ⟨q1, -⟩
          · have hS' : CS a t υ E V := hS.cg (fun k a b c _ _ => f1 k a c)
            have e21 : υ 21 = τ 21 := f1 21 (by decide) (by decide)
            have e22 : υ 22 = τ 22 := f1 22 (by decide) (by decide)
            obtain ⟨k1, k2⟩ := (hS'.mf hO ht).2 (mkS υ) (by unfold mkS; rw [q2]; rfl) (by unfold mkS; rw [h345]; rfl) (fun b hb h1 h2 => by
              unfold mkS at h1 ⊢
              rw [e21] at h1 ⊢
              rw [e22] at h2
              by_cases z : υ 23 (ltf (τ 21) b) = -1
              · simp [z]
              · have := q3 b hb z h2
                simp at h1
                exact absurd h1 this)
            refine h υ V (fun k k4 hk => ?_) hS' k1 (fun _ => k2)
            rw [f1 k (by omega) (by omega)]
            exact hF k k4 hk
          · rw [h0] at q1; exact absurd q1 (by decide)
        · rcases hr with ⟨q1, -⟩ | ⟨-, q2⟩
          · exact absurd q1 h0
          · refine s_fillPaths f1 hG hS.1.2.2.2 hS.2.2.2.2 hS.2.2.2.1 (by omega) (by omega) hR h345 q2 (fun ω V' w1 w2 w3 w4 w5 w6 w7 => ?_)
            intro x1 e1
            rw [nI_1] at e1
            subst e1
            have o : ∀ k, k ≠ 4 → k < 22 → ω k = τ k := fun k a b => by rw [w1 k a (by omega) (by omega) (by omega), f1 k (by omega) (by omega)]
            have o4 : ∀ j, j ≠ 4 → ω 4 j = τ 4 j := fun j hj => by rw [w2 j hj, f1 4 (by decide) (by decide)]
            have hSω : CS a t ω E V' := by
              refine ⟨⟨⟨w3, by rw [o4 1 (by decide)]; exact hS.1.1.2⟩, hS.1.2.1.keep (by rw [o 1 (by decide) (by decide)]) (by rw [o 1 (by decide) (by decide)]) (by rw [o 2 (by decide) (by decide)]) (o 6 (by decide) (by decide)) (o 7 (by decide) (by decide)) (o 8 (by decide) (by decide)) (o 9 (by decide) (by decide)) (o 13 (by decide) (by decide)), fun g => by rw [w4, hS.1.2.2.1], w5⟩, hS.2.1, by rw [o4 2 (by decide)]; exact hS.2.2.1, by rw [o4 3 (by decide)]; exact hS.2.2.2.1, w6⟩
            refine ih (c + 1) V' ω (by omega) (by omega) hSω (fun k k4 hk => ?_)
            rw [w1 k k4 (by omega) (by omega) (by omega), f1 k (by omega) (by omega)]
            exact hF k k4 hk
  exact ⟨TOTn a + 1, key (TOTn a + 1) 0 V σ (by omega) (by omega) hS (fun _ _ _ => rfl)⟩
def UF (σ τ : Sg) : Prop := ∀ k, k ≠ 4 → (k < 19 ∨ 25 < k) → τ k = σ k
theorem UF.rc {σ τ : Sg} {a : AT} (f : UF σ τ) (h : RC σ a) : RC τ a := h.keep (by rw [f 1 (by decide) (by decide)]) (by rw [f 1 (by decide) (by decide)]) (by rw [f 2 (by decide) (by decide)]) (f 6 (by decide) (by decide)) (f 7 (by decide) (by decide)) (f 8 (by decide) (by decide)) (f 9 (by decide) (by decide)) (f 13 (by decide) (by decide))
theorem s_fillUpTo {a : AT} {σ : Sg} {t : Nat} {Q : Sg → Prop} (hO : OKN a) (ht : t ≤ 40) (hC : RC σ a)
    (h : ∀ (τ : Sg) (E V : Nat), UF σ τ → CS a t τ E V → MFV a t V → (V < TOTn a → CAP a t (XS (mkS τ)) = V) → Q τ) : wp_X0_fillUpTo σ (nI t) Q := by
  unfold wp_X0_fillUpTo
  refine s_begin hO hC (fun τ0 E0 f0 l0 t0 s0 hE0 hN0 => ⟨t + 2, ?_⟩)
  have key : ∀ r m, m + r = t + 1 → ∀ (τ : Sg) (E : Nat), BFm σ τ → (m = 0 → τ 4 2 = -1) → (0 < m → τ 4 2 = nI (m - 1)) → τ 4 3 = nI (TOTn a) → τ 4 4 = 0 → E ≤ 16 + 48 * m → CN a τ E (NB a m) (fun _ => 0) → wp_X0_fillUpTo_6 Q (r + 1) (nI t) (nI m) τ := by
    intro r
    induction r with
    | zero =>
      intro m hm τ E f l1 l2 t3 s4 hE hN
      have : m = t + 1 := by omega
      subst this
      rw [wp_X0_fillUpTo_6]
      refine ⟨fun _ => ?_, fun z => absurd (nI_lt (by omega) (by omega)) z⟩
      have hS : CS a t τ E 0 := ⟨⟨hN.1, hN.2.1, hN.2.2.1, fun χ => by rw [hN.2.2.2]; simp⟩, hE, l2 (by omega), t3, s4⟩
      refine s_push hO ht hS (fun υ V' f1 h1 h2 h3 => h υ E V' (fun k k4 hk => ?_) h1 h2 h3)
      rw [f1 k k4 (by omega)]
      exact f k k4 (by omega)
    | succ r ih =>
      intro m hm τ E f l1 l2 t3 s4 hE hN
      rw [wp_X0_fillUpTo_6]
      refine ⟨fun z => absurd z (nI_nlt (by omega) (by omega)), fun _ => ?_⟩
      have l3 : τ 4 2 + 1 = nI m := by
        rcases Nat.eq_zero_or_pos m with q | q
        · rw [l1 q, q]; decide
        · rw [l2 q, nI_1, show m - 1 + 1 = m by omega]
      refine s_addMinute hO (by omega) l3 hE hN (fun υ E' f1 k2 k3 k4 hE' hN' => ?_)
      intro x2 e2
      rw [nI_1] at e2
      subst e2
      exact ih (m + 1) (by omega) υ E' (fun k a b => by rw [f1 k a b, f k a b]) (fun z => by omega) (fun _ => by rw [k2]; rfl) (by rw [k3, t3]) (by rw [k4, s4]) hE' hN'
  exact key (t + 1) 0 (by omega) τ0 E0 f0 (fun _ => l0) (fun z => by omega) t0 s0 (by omega) hN0
theorem s_findOpen {a : AT} {σ : Sg} {t : Nat} {Q : Sg → Prop} (hO : OKN a) (ht : t ≤ 40) (hC : RC σ a)
    (h : ∀ (τ : Sg), UF σ τ → (∀ p m, p < 8 → m ≤ t → (τ 23 (8 * m + p) = -1 ↔ NOP a t p m)) → Q τ) : wp_X0_findOpen σ (nI t) Q := by
  unfold wp_X0_findOpen
  refine s_fillUpTo hO ht hC (fun τ E V f hS hM _ => ?_)
  have hG := hS.1.1.1
  refine s_reachSource hG (fun r υ f1 hR hL h345 hr => ?_)
  have hs : ∀ b, b < 2 * E → 0 ≤ spf (τ 22) b := fun b hb => (hG.2.1 b hb).2.2.2
  have hF := hS.1.2.2.2
  have hN : ∀ g, Cp E (ltf (τ 21)) (spf (τ 22)) g = NET (fun p => (aP a p 0 : Int)) (fun p => (aP a p 1 : Int)) a t g := fun g => by rw [hS.1.2.2.1, NB_NET]
  refine h υ (fun k k4 hk => by rw [f1 k (by omega) (by omega)]; exact f k k4 (by omega)) (fun p m hp hm => ?_)
  rcases hr with ⟨-, q2, q3⟩ | ⟨-, q2⟩
  · have o := op_of hO ht hs hF hN (fun p _ => Int.le_refl _) (fun p _ => Int.le_refl _) (S := mkS υ) (by unfold mkS; rw [q2]; rfl) (by unfold mkS; rw [h345]; rfl)
      (fun b hb h1 h2 => by
        unfold mkS at h1 ⊢
        by_cases z : υ 23 (ltf (τ 21) b) = -1
        · simp [z]
        · have := q3 b hb z h2
          simp at h1
          exact absurd h1 this)
      (fun S' s1 s2 u hu h1 => hL S' s1 s2 u hu (by unfold mkS at h1; simpa using h1)) hp hm
    rw [← o]
    unfold mkS
    simp
  · obtain ⟨-, X, hX⟩ := hM
    have c := closed hs hF (SX a t X) SX_s SX_t (by rw [hN, NET_SX hO ht, hX]; exact Int.le_refl _)
    have := hL (SX a t X) SX_t c 344 (by decide) q2
    rw [SX_s] at this
    cases this
