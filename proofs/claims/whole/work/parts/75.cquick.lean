/-! the class: leastThinkable, allSafeBy, soonestWithin -/
theorem s_leastThinkable {a : AT} {σ : Sg} {Q : Int32 → Sg → Prop} (hO : OKN a) (hC : RC σ a)
    (h : ∀ (L : Nat) (τ : Sg), L ≤ 41 → (∀ k, k ≠ 27 → τ k = σ k) → (∀ t, t < L → ¬ CAN a t) → Q (nI L) τ) : wp_X0_leastThinkable σ Q := by
  have h8 := hO.1
  unfold wp_X0_leastThinkable
  have b0 := TOTn_le hO
  have b1 := ns_le (n := aNP a) (f := fun p => aP a p 1) (b := 300) (fun i hi => (hO.2.2.2.1 i hi).2.1)
  refine s_X3_total (w := 0) h8 hC (by decide) (s_X3_total (w := 1) h8 hC (by decide) ?_)
  refine pk_le (TOTn a) (ns (aNP a) (fun p => aP a p 1)) (fun hle => ?_) (fun hgt => ?_) rfl rfl (by omega) (by omega)
  · refine s_measureRoads hO hC (fun τ hI hd => ?_)
    have key : ∀ r i, i + r = aNP a → ∀ L, L ≤ 61 → (∀ t, t < L → ¬ CAN a t) → wp_X0_leastThinkable_30 Q (r + 1) (nI L) (nI i) τ := by
      intro r
      induction r with
      | zero =>
        intro i hi L hL hn
        have : i = aNP a := by omega
        subst this
        rw [wp_X0_leastThinkable_30, hI.1 1 (by decide), hC.1]
        refine ⟨fun _ => ?_, fun z => absurd (nI_le (Nat.le_refl _) (by omega)) z⟩
        by_cases z : 41 < L
        · rw [if_pos (show (41 : Int32) < nI L from nI_lt (a := 41) z (by omega))]
          exact h 41 τ (by omega) hI.1 (fun t ht => hn t (by omega))
        · rw [if_neg (show ¬ (41 : Int32) < nI L from nI_nlt (a := 41) (by omega) (by omega))]
          exact h L τ (by omega) hI.1 hn
      | succ r ih =>
        intro i hi L hL hn
        rw [wp_X0_leastThinkable_30, hI.1 1 (by decide), hC.1]
        refine ⟨fun z => absurd z (nI_ge (by omega) (by omega)), fun _ => s_X3_fact (w := 0) (by omega) (by decide) ?_⟩
        obtain ⟨q0, q1, q2, q3⟩ := hO.2.2.2.1 i (by omega)
        obtain ⟨d1, d2, d3⟩ := hI.2 i (by omega)
        rw [hI.1 9 (by decide), hC.2.2.2.1 i (by omega) 0 (by decide)]
        have step : ∀ L', L' ≤ 61 → (∀ t, t < L' → ¬ CAN a t) → wp_X0_leastThinkable_74 Q (fun z1 z2 σ => wp_X0_leastThinkable_30 Q (r + 1) z1 z2 σ) (nI L') (nI i) τ := by
          intro L' hL' hn' x2 e2
          rw [nI_1] at e2
          subst e2
          exact ih (i + 1) (by omega) L' hL' hn'
        refine pk_le (aP a i 0) 0 (fun _ => step L hL hn) (fun hp => s_X3_fact (w := 2) (by omega) (by decide) ⟨vp_in_nI (by omega) (by decide), ?_⟩) rfl rfl (by omega) (by omega)
        rw [hI.1 9 (by decide), hC.2.2.2.1 i (by omega) 2 (by decide), nI_clamp (n := i) (by omega), d1, nI_add]
        intro x1 e1
        by_cases z : L < aP a i 2 + dd τ i
        · rw [if_pos (nI_lt z (by omega))] at e1
          subst e1
          refine step _ (by omega) (fun t ht => ?_)
          exact no_can (d := dd τ) (fun p hp h1 => (hI.2 p hp).2.2 h1) hd (p := i) (by omega) hp ht
        · rw [if_neg (nI_nlt (by omega) (by omega))] at e1
          subst e1
          exact step L hL hn
    exact ⟨aNP a + 1, key (aNP a) 0 (by omega) 0 (by omega) (fun t ht => by omega)⟩
  · refine h 41 σ (Nat.le_refl _) (fun _ _ => rfl) (fun t ht => no_room ?_)
    rw [TOT_n, ← ns_sm]
    omega
theorem s_mostSafeBy {a : AT} {σ : Sg} {t : Nat} {Q : Int32 → Sg → Prop} (hO : OKN a) (ht : t ≤ 40) (hC : RC σ a) (h : ∀ (τ : Sg) (V : Nat), SF σ τ → MFV a t V → Q (nI V) τ) : wp_X0_mostSafeBy σ (nI t) Q := by
  unfold wp_X0_mostSafeBy
  refine s_fillUpTo hO ht hC (fun τ E V f hS hM _ => ?_)
  rw [hS.2.2.2.2]
  exact h τ V f.sf hM
theorem CS.canI {a : AT} {t : Nat} {V : Nat} (hM : MFV a t V) : CAN a t ↔ V = TOTn a := by
  rw [hM.can, TOT_n]
  omega
theorem s_allSafeBy {a : AT} {σ : Sg} {t q : Nat} {Q : Int32 → Sg → Prop} (hO : OKN a) (ht : t ≤ 40) (hC : RC σ a) (hq : isQ a q) (h : ∀ (τ : Sg), SF σ τ → Q (if q ≤ t then 1 else 0) τ) : wp_X0_allSafeBy σ (nI t) Q := by
  unfold wp_X0_allSafeBy
  have b0 := TOTn_le hO
  refine s_leastThinkable hO hC (fun L τ hL f hn => ?_)
  have sf : SF σ τ := fun k a b c => f k c
  refine pk_le L t (fun hle => ?_) (fun hgt => ⟨Or.inl rfl, ?_⟩) rfl rfl (by omega) (by omega)
  · refine s_fillUpTo hO ht (sf.rc hC) (fun υ E V f1 hS hM _ => ?_)
    rw [hS.2.2.2.2, hS.2.2.2.1]
    have hV := hS.le hO ht
    have c := CS.canI hM
    rw [hq.can ht] at c
    refine pk_eq V (TOTn a) (fun e => ⟨Or.inr rfl, ?_⟩) (fun e => ⟨Or.inl rfl, ?_⟩) rfl rfl (by omega) (by omega)
    · have := h υ (sf.tr f1.sf)
      rwa [if_pos (c.mpr e)] at this
    · have := h υ (sf.tr f1.sf)
      rwa [if_neg (fun z => e (c.mp z))] at this
  · have := h τ sf
    rwa [if_neg (fun z => hn t hgt ((hq.can ht).mpr z))] at this
def qres (lo bd q : Nat) : Nat := if max lo q < bd then max lo q else bd
theorem s_soonestWithin {a : AT} {σ : Sg} {lo bd q : Nat} {Q : Int32 → Sg → Prop} (hO : OKN a) (hC : RC σ a) (hlo : lo ≤ 41) (hbd : bd ≤ 41) (hq : isQ a q) (h : ∀ (τ : Sg), SF σ τ → Q (nI (qres lo bd q)) τ) : wp_X0_soonestWithin σ (nI lo) (nI bd) Q := by
  unfold wp_X0_soonestWithin
  have b0 := TOTn_le hO
  have hq1 := hq.1
  refine s_leastThinkable hO hC (fun L τ hL f hn => ?_)
  have sf : SF σ τ := fun k a b c => f k c
  have hLq : L ≤ q := by
    rcases Nat.lt_or_ge q L with z | z
    · exact absurd (hq.2.2 (by omega)) (hn q z)
    · exact z
  intro x3 e3
  have e3' : x3 = nI (max lo L) := by
    rw [e3]
    by_cases z : lo < L
    · rw [if_pos (nI_lt z (by omega)), Nat.max_eq_right (by omega)]
    · rw [if_neg (nI_nlt (by omega) (by omega)), Nat.max_eq_left (by omega)]
  subst e3'
  refine pk_lt (max lo L) bd (fun hlt => ?_) (fun hge => ?_) rfl rfl (by omega) (by omega)
  · refine s_fillUpTo hO (by omega) (sf.rc hC) (fun υ E V f1 hS hM _ => ?_)
    intro x4 e4
    rw [nI_1] at e4
    subst e4
    have fin : ∀ (ω : Sg) (s E V : Nat), SF σ ω → CS a s ω E V → MFV a s V → s < bd → lo ≤ s → s ≤ max lo q → (V = TOTn a ∨ bd ≤ s + 1) → wp_X0_soonestWithin_57 Q (nI bd) ω := by
      intro ω s E V f hS hM hs1 hs2 hs3 hx
      have hV := hS.le hO (by omega)
      have c := CS.canI hM
      rw [hq.can (by omega)] at c
      unfold wp_X0_soonestWithin_57
      rw [hS.2.2.2.2, hS.2.2.2.1, hS.2.2.1]
      refine pk_eq V (TOTn a) (fun e => ?_) (fun e => ?_) rfl rfl (by omega) (by omega)
      · have := c.mpr e
        have r := h ω f
        unfold qres at r
        rw [if_pos (by omega), show max lo q = s by omega] at r
        exact r
      · have : ¬ q ≤ s := fun z => e (c.mp z)
        have r := h ω f
        unfold qres at r
        rw [if_neg (by omega)] at r
        exact r
    have key : ∀ r s, s + r = bd → ∀ (ω : Sg) (E V : Nat), SF σ ω → CS a s ω E V → MFV a s V → s < bd → lo ≤ s → s ≤ max lo q → wp_X0_soonestWithin_26 Q (r + 1) (nI bd) (nI (s + 1)) ω := by
      intro r
      induction r with
      | zero => intro s hs ω E V f hS hM h1; omega
      | succ r ih =>
        intro s hs ω E V f hS hM h1 h2 h3
        have hV := hS.le hO (by omega)
        rw [wp_X0_soonestWithin_26]
        refine pk_le bd (s + 1) (fun hle => fin ω s E V f hS hM h1 h2 h3 (Or.inr hle)) (fun hgt => ?_) rfl rfl (by omega) (by omega)
        rw [hS.2.2.2.1, hS.2.2.2.2]
        refine pk_le (TOTn a) V (fun hle => fin ω s E V f hS hM h1 h2 h3 (Or.inl (by omega))) (fun hgt2 => ?_) rfl rfl (by omega) (by omega)
        have c := CS.canI hM
        rw [hq.can (by omega)] at c
        have nc : ¬ q ≤ s := fun z => by have := c.mp z; omega
        refine s_addMinute (m := s + 1) hO (by omega) (by rw [hS.2.2.1, nI_1]) hS.2.1 hS.1 (fun ω1 E1 f1 k2 k3 k4 hE1 hN1 => ?_)
        have hS1 : CS a (s + 1) ω1 E1 V := ⟨hN1, hE1, k2, by rw [k3]; exact hS.2.2.2.1, by rw [k4]; exact hS.2.2.2.2⟩
        refine s_push hO (by omega) hS1 (fun ω2 V2 f2 hS2 hM2 _ => ?_)
        intro x4 e4
        rw [nI_1] at e4
        subst e4
        refine ih (s + 1) (by omega) ω2 E1 V2 (fun k a b c => ?_) hS2 hM2 (by omega) (by omega) (by omega)
        rw [f2 k a (by omega), f1 k a (by omega)]
        exact f k a b c
    exact ⟨_, key (bd - max lo L) (max lo L) (by omega) υ E V (sf.tr f1.sf) hS hM hlt (by omega) (by omega)⟩
  · have r := h τ sf
    unfold qres at r
    rw [if_neg (by omega)] at r
    exact r
theorem s_soonest {a : AT} {σ : Sg} {q : Nat} {Q : Int32 → Sg → Prop} (hO : OKN a) (hC : RC σ a) (hq : isQ a q) (h : ∀ (τ : Sg), SF σ τ → Q (nI q) τ) : wp_X0_soonest σ Q := by
  unfold wp_X0_soonest
  refine s_soonestWithin (lo := 0) (bd := 41) hO hC (by omega) (by omega) hq (fun τ f => ?_)
  have hq1 := hq.1
  have : qres 0 41 q = q := by unfold qres; split <;> omega
  rw [this]
  exact h τ f
