/-! fault, end, count, along, feed -/
theorem INV_thrown {σ : Sg} (h : INV σ) (v : Int32) : INV (put σ 30 0 v) := by
  obtain ⟨a, nt, tp, ft, h0, h1, h2, h3⟩ := h
  exact INV_step h0 h1 (h2.keep (put_o (by decide))) h3 (FC.rf σ) (TC.rf σ) (FM_p σ (by decide)) (TM_t σ v)
theorem L_fault {σ : Sg} (hI : INV σ) {K : Sg → Prop} (hK : ∀ τ, INV τ → K τ) {C : Int32 → Sg → Prop} (hw : ∀ r1 σ1, wp_X6_fault σ1 (fun r2 σ2 => (r1 = r2 → K σ2) ∧ (¬ (r1 = r2) → False)) → C r1 σ1) : wp_X5_fault σ C := by
  unfold wp_X5_fault
  refine hw _ _ ?_
  intro τ e
  have hi : INV τ := by rw [e]; exact INV_thrown hI _
  refine ⟨fun _ => hK τ hi, fun h => h ?_⟩
  obtain ⟨a, nt, tp, ft, h0, h1, h2, h3⟩ := hI
  rw [e, put_n (by decide), h3.2.2.2.2.1, h3.2.2.2.2.2]
theorem INV_tape {σ τ : Sg} {a : AT} {nt nt' : Nat} {tp tp' : Nat → Int32} {ft : Int32} (hO : OKT a) (hC : RC σ a) (hM : RM σ a) (hT : RT τ nt' tp' ft) (h : ∀ k, k ≠ 3 → k ≠ 16 → k ≠ 30 → k ≠ 33 → τ k = σ k) : INV τ :=
  ⟨a, nt', tp', ft, hO, hC.keep (by rw [h 1 (by decide) (by decide) (by decide) (by decide)]) (by rw [h 1 (by decide) (by decide) (by decide) (by decide)]) (by rw [h 2 (by decide) (by decide) (by decide) (by decide)]) (h 6 (by decide) (by decide) (by decide) (by decide)) (h 7 (by decide) (by decide) (by decide) (by decide)) (h 8 (by decide) (by decide) (by decide) (by decide)) (h 9 (by decide) (by decide) (by decide) (by decide)) (h 13 (by decide) (by decide) (by decide) (by decide)), hM.keep (h 31 (by decide) (by decide) (by decide) (by decide)), hT⟩
theorem L_end {σ : Sg} (hI : INV σ) (n : Int32) {K : Sg → Prop} (hK : ∀ τ, INV τ → K τ) {C : Int32 → Sg → Prop} (hw : ∀ r1 σ1, wp_X6_end σ1 n (fun r2 σ2 => (r1 = r2 → K σ2) ∧ (¬ (r1 = r2) → False)) → C r1 σ1) : wp_X5_end σ n C := by
  have hI' := hI
  obtain ⟨a, nt, tp, ft, h0, h1, h2, h3⟩ := hI
  have h4 := h3.1
  have key : inr 0 (nI nt) n = 0 → C 0 σ := by
    intro z
    refine hw _ _ ?_
    intro τ e
    have r : τ 30 4 = nI nt := by rw [e, put_n (by decide)]; exact h3.2.2.1
    rw [r]
    refine s_X6_isIn ⟨fun _ => ⟨Or.inl rfl, fun _ => hK τ (by rw [e]; exact INV_thrown hI' _), fun q => absurd rfl q⟩, fun q => absurd z q⟩
  unfold wp_X5_end
  rw [h3.2.1]
  refine ⟨fun g1 => ⟨Or.inl rfl, key (by unfold inr; rw [if_pos g1])⟩, fun g1 => ⟨fun g2 => ?_, fun g2 => ⟨Or.inl rfl, key ?_⟩⟩⟩
  · intro υ e1
    refine ⟨Or.inr rfl, hw _ _ ?_⟩
    intro τ e
    have r : τ 30 4 = nI nt := by rw [e, put_n (by decide), e1, put_o (by decide)]; exact h3.2.2.1
    rw [r]
    have z : ¬ inr 0 (nI nt) n = 0 := by
      unfold inr
      rw [if_neg g1, if_neg (by rw [Int32.lt_iff_toInt_lt]; rw [Int32.le_iff_toInt_le] at g2; omega)]
      decide
    obtain ⟨v, -, v2, rfl⟩ := inr_yes (a := 0) (by decide) (by omega) z
    refine s_X6_isIn ⟨fun q => absurd q z, fun _ => ?_⟩
    intro τ2 e2
    refine ⟨Or.inr rfl, fun _ => hK τ2 ?_, fun q => absurd rfl q⟩
    refine INV_tape h0 h1 h2 (nt := nt) (tp := tp) (nt' := v) (tp' := tp) (ft := ft) ?_ (fun k k3 k16 k30 k33 => by rw [e2, put_o k30, e, put_o k30, e1, put_o k3])
    refine ⟨by omega, ?_, ?_, ?_, ?_, ?_⟩
    · rw [e2, put_o (by decide), e, put_o (by decide), e1, put_s]
    · rw [e2, put_s]
    · intro j hj
      obtain ⟨b1, b2, b3⟩ := h3.2.2.2.1 j (by omega)
      exact ⟨by rw [e2, put_o (by decide), e, put_o (by decide), e1, put_o (by decide)]; exact b1, by rw [e2, put_o (by decide), e, put_o (by decide), e1, put_o (by decide)]; exact b2, b3⟩
    · rw [e2, put_o (by decide), e, put_o (by decide), e1, put_n (by decide)]; exact h3.2.2.2.2.1
    · rw [e2, put_n (by decide), e, put_n (by decide), e1, put_o (by decide)]; exact h3.2.2.2.2.2
  · unfold inr
    rw [if_neg g1, if_pos (by rw [Int32.lt_iff_toInt_lt]; rw [Int32.le_iff_toInt_le] at g2; omega)]
/-- a sum of numbers -/
def ns : Nat → (Nat → Nat) → Nat
  | 0, _ => 0
  | n + 1, f => ns n f + f n
theorem ns_le {n : Nat} {f : Nat → Nat} {b : Nat} (h : ∀ i, i < n → f i ≤ b) : ns n f ≤ n * b := by
  induction n with
  | zero => exact Nat.zero_le _
  | succ n ih =>
    have h1 := ih (fun i hi => h i (by omega))
    have h2 := h n (by omega)
    rw [ns, Nat.succ_mul]
    omega
theorem s_X3_total {σ : Sg} {a : AT} {w : Nat} {Q : Int32 → Sg → Prop} (h8 : aNP a ≤ 8) (hC : RC σ a) (hw : w < 4) (h : Q (nI (ns (aNP a) (fun p => aP a p w))) σ) : wp_X3_total σ (nI w) Q := by
  have key : ∀ r i, i + r = aNP a → wp_X3_total_4 Q (r + 1) (nI w) (nI (ns i (fun p => aP a p w))) (nI i) σ := by
    intro r
    induction r with
    | zero =>
      intro i hi
      rw [wp_X3_total_4, hC.1]
      have : i = aNP a := by omega
      subst this
      exact ⟨fun _ => h, fun z => absurd (nI_le (Nat.le_refl _) (by omega)) z⟩
    | succ r ih =>
      intro i hi
      rw [wp_X3_total_4, hC.1]
      refine ⟨fun z => absurd z (nI_ge (by omega) (by omega)), fun _ => s_X3_fact (by omega) hw ?_⟩
      rw [hC.2.2.2.1 i (by omega) w hw]
      intro x2 e2 x3 e3
      rw [nI_add] at e2
      rw [nI_1] at e3
      subst e2
      subst e3
      exact ih (i + 1) (by omega)
  exact ⟨aNP a + 1, key (aNP a) 0 (by omega)⟩
theorem s_X6_sum {σ : Sg} {a : AT} {w : Nat} {Q : Int32 → Sg → Prop} (h8 : aNP a ≤ 8) (hM : RM σ a) (hw : w < 4) (h : Q (nI (ns (aNP a) (fun p => aP a p w))) σ) : wp_X6_sum σ (nI w) Q := by
  have key : ∀ r i, i + r = aNP a → wp_X6_sum_4 Q (r + 1) (nI w) (nI (ns i (fun p => aP a p w))) (nI i) σ := by
    intro r
    induction r with
    | zero =>
      intro i hi
      rw [wp_X6_sum_4]
      refine s_X6_places ?_
      rw [hM.1]
      have : i = aNP a := by omega
      subst this
      exact ⟨fun _ => h, fun z => absurd (nI_le (Nat.le_refl _) (by omega)) z⟩
    | succ r ih =>
      intro i hi
      rw [wp_X6_sum_4]
      refine s_X6_places ?_
      rw [hM.1]
      refine ⟨fun z => absurd z (nI_ge (by omega) (by omega)), fun _ => s_X6_ofPlace (by omega) hw ?_⟩
      rw [hM.2.2.2.1 i (by omega) w hw]
      intro x2 e2 x3 e3
      rw [nI_add] at e2
      rw [nI_1] at e3
      subst e2
      subst e3
      exact ih (i + 1) (by omega)
  exact ⟨aNP a + 1, key (aNP a) 0 (by omega)⟩
theorem L_count {σ : Sg} (hI : INV σ) (n : Int32) {K : Sg → Prop} (hK : ∀ τ, INV τ → K τ) {C : Int32 → Sg → Prop} (hw : ∀ r1 σ1, wp_X6_count σ1 n (fun r2 σ2 => (r1 = r2 → K σ2) ∧ (¬ (r1 = r2) → False)) → C r1 σ1) : wp_X5_count σ n C := by
  have hI' := hI
  obtain ⟨a, nt, tp, ft, h0, h1, h2, h3⟩ := hI
  have h8 := h0.1
  have hKt : ∀ τ, τ = put σ 30 0 0 → K τ := fun τ e => hK τ (by rw [e]; exact INV_thrown hI' _)
  have fin : ∀ (r : Int32) (τ : Sg), τ = put σ 30 0 0 → (r = r → K τ) ∧ (¬ (r = r) → False) := fun r τ e => ⟨fun _ => hKt τ e, fun q => q rfl⟩
  have r31 : ∀ τ, τ = put σ 30 0 0 → RM τ a := fun τ e => h2.keep (by rw [e]; exact put_o (by decide))
  unfold wp_X5_count
  refine ⟨fun e => ?_, fun e => ?_, fun e => ?_, fun e => ?_, fun e => ?_, fun e => ?_, fun n0 n1 n2 n3 n4 n5 => ?_⟩
  · refine hw _ _ (fun τ e0 => ?_)
    subst e
    refine ⟨fun _ => ⟨by unfold vp_in; decide, ?_⟩, fun z => absurd z (by decide), fun z => absurd z (by decide), fun z => absurd z (by decide), fun z => absurd z (by decide), fun z => absurd z (by decide), fun z => absurd rfl z⟩
    show (σ 1 0 = τ 31 0 → K τ) ∧ (¬ (σ 1 0 = τ 31 0) → False)
    rw [h1.1, (r31 τ e0).1]
    exact fin _ τ e0
  · refine hw _ _ (fun τ e0 => ?_)
    subst e
    refine ⟨fun z => absurd z (by decide), fun _ => ⟨by unfold vp_in; decide, ?_⟩, fun z => absurd z (by decide), fun z => absurd z (by decide), fun z => absurd z (by decide), fun z => absurd z (by decide), fun _ z => absurd rfl z⟩
    show (σ 1 1 = τ 31 1 → K τ) ∧ (¬ (σ 1 1 = τ 31 1) → False)
    rw [h1.2.1, (r31 τ e0).2.1]
    exact fin _ τ e0
  · refine hw _ _ (fun τ e0 => ?_)
    subst e
    refine ⟨fun z => absurd z (by decide), fun z => absurd z (by decide), fun _ => ⟨by unfold vp_in; decide, ?_⟩, fun z => absurd z (by decide), fun z => absurd z (by decide), fun z => absurd z (by decide), fun _ _ z => absurd rfl z⟩
    show (σ 2 0 = τ 31 2 → K τ) ∧ (¬ (σ 2 0 = τ 31 2) → False)
    rw [h1.2.2.1, (r31 τ e0).2.2.1]
    exact fin _ τ e0
  · refine hw _ _ (fun τ e0 => ?_)
    subst e
    refine ⟨fun z => absurd z (by decide), fun z => absurd z (by decide), fun z => absurd z (by decide), fun _ => ?_, fun z => absurd z (by decide), fun z => absurd z (by decide), fun _ _ _ z => absurd rfl z⟩
    have : τ 30 4 = σ 3 0 := by rw [e0, put_n (by decide), h3.2.2.1, h3.2.1]
    rw [this]
    exact fin _ τ e0
  · refine s_X3_total (w := 0) h8 h1 (by decide) (hw _ _ (fun τ e0 => ?_))
    subst e
    refine ⟨fun z => absurd z (by decide), fun z => absurd z (by decide), fun z => absurd z (by decide), fun z => absurd z (by decide), fun _ => s_X6_sum (w := 0) h8 (r31 τ e0) (by decide) (fin _ τ e0), fun z => absurd z (by decide), fun _ _ _ _ z => absurd rfl z⟩
  · refine s_X3_total (w := 1) h8 h1 (by decide) (hw _ _ (fun τ e0 => ?_))
    subst e
    refine ⟨fun z => absurd z (by decide), fun z => absurd z (by decide), fun z => absurd z (by decide), fun z => absurd z (by decide), fun z => absurd z (by decide), fun _ => s_X6_sum (w := 1) h8 (r31 τ e0) (by decide) (fin _ τ e0), fun _ _ _ _ _ z => absurd rfl z⟩
  · refine hw _ _ (fun τ e0 => ?_)
    exact ⟨fun z => absurd z n0, fun z => absurd z n1, fun z => absurd z n2, fun z => absurd z n3, fun z => absurd z n4, fun z => absurd z n5, fun _ _ _ _ _ _ => fin _ τ e0⟩
/-! along -/
abbrev alOK (a : AT) (p1 p2 : Int32) : Prop := ¬ inp (nI (aNR a)) p1 = 0 ∧ ¬ inp 5 p2 = 0
theorem inr04 (x : Int32) : inr 0 4 x = inp 5 x := inr_inp (n := 5) (by decide) x
theorem s_X5_along {σ : Sg} {a : AT} {p1 p2 : Int32} {QX : Sg → Prop} {Q : Int32 → Sg → Prop} (h12 : aNR a ≤ 12) (hC : RC σ a) (hx : ¬ alOK a p1 p2 → QX σ) (h : alOK a p1 p2 → Q (nI (aR a p1.toNatClampNeg p2.toNatClampNeg)) σ) : wp_X5_along σ QX p1 p2 Q := by
  unfold wp_X5_along wp_X5_along_20
  refine s_X3_hasRoad ?_
  rw [hC.2.1]
  refine ⟨fun h1 => hx (fun y => y.1 h1), fun h1 => ⟨fun h2 => hx (fun y => y.2 (by unfold inp; rw [if_pos h2])), fun h2 => ⟨fun h3 => ?_, fun h3 => hx (fun y => y.2 ?_)⟩⟩⟩
  · have h4 : ¬ inp 5 p2 = 0 := by
      rw [← inr04]
      unfold inr
      rw [if_neg h2, if_neg (by rw [Int32.lt_iff_toInt_lt]; rw [Int32.le_iff_toInt_le] at h3; omega)]
      decide
    have h9 := h ⟨h1, h4⟩
    obtain ⟨q, hq, rfl⟩ := inp_yes (by omega) h1
    obtain ⟨w, hw, rfl⟩ := inp_yes (n := 5) (by decide) h4
    obtain ⟨c1, c2, c3, c4, c5⟩ := hC.2.2.2.2.1 q hq
    rw [nI_clamp (n := q) (by omega), nI_clamp (n := w) (by omega)] at h9
    rw [e_2, e_21_of, nI_clamp (n := 2 * q) (by omega), nI_clamp (n := 2 * q + 1) (by omega), nI_clamp (n := q) (by omega), c1, c2, c3, c4, c5]
    have ne : ∀ k, k < 5 → (nI w = nI k ↔ w = k) := fun k hk => nI_eq (by omega) (by omega)
    have n0 : nI w = 0 ↔ w = 0 := ne 0 (by decide)
    have n1 : nI w = 1 ↔ w = 1 := ne 1 (by decide)
    have n2 : nI w = 2 ↔ w = 2 := ne 2 (by decide)
    have n3 : nI w = 3 ↔ w = 3 := ne 3 (by decide)
    rw [n0, n1, n2, n3]
    refine ⟨fun e => ⟨vp_in_nI (by omega) (by decide), by subst e; exact h9⟩, fun e => ⟨vp_in_nI (by omega) (by decide), by subst e; exact h9⟩, fun e => ⟨vp_in_nI (by omega) (by decide), by subst e; exact h9⟩, fun e => ⟨vp_in_nI (by omega) (by decide), by subst e; exact h9⟩, fun e0 e1 e2 e3 => ⟨vp_in_nI (by omega) (by decide), ?_⟩⟩
    have : w = 4 := by omega
    subst this
    exact h9
  · rw [← inr04]
    unfold inr
    rw [if_neg h2, if_pos (by rw [Int32.lt_iff_toInt_lt]; rw [Int32.le_iff_toInt_le] at h3; omega)]
theorem lg_cmp_rf (x : Int64) : lg_cmp x x = 0 := by unfold lg_cmp; simp
theorem L_along {σ : Sg} (hI : INV σ) (p1 p2 : Int32) {A B : Prop} (hA : A) (hB : B) {K : Sg → Prop} (hK : ∀ τ, INV τ → K τ) : wp_L_along σ p1 p2 (fun r85 σ84 => A ∧ (B ∧ (wp_X6_along σ84 p1 p2 (fun r87 σ86 => wp_X6_thrown σ86 (fun r89 σ88 => (r89 = r85 → ((r85 = 0 → (vp_in (0 : Int32) 1 ∧ (((lg_cmp ((σ88 47 ((0 : Int32)).toNatClampNeg).toInt64) (r87.toInt64)) = 0 → K σ88) ∧ (¬ ((lg_cmp ((σ88 47 ((0 : Int32)).toNatClampNeg).toInt64) (r87.toInt64)) = 0) → (False))))) ∧ (¬ (r85 = 0) → K σ88))) ∧ (¬ (r89 = r85) → (False))))))) := by
  have hI' := hI
  obtain ⟨a, nt, tp, ft, h0, h1, h2, h3⟩ := hI
  have h12 := h0.2.1
  have v01 : vp_in (0 : Int32) 1 := by unfold vp_in; decide
  unfold wp_L_along
  refine s_X5_along h12 h1 (fun hn => ⟨hA, hB, ?_⟩) (fun hy => ⟨hA, hB, ?_⟩)
  · unfold wp_X6_along
    have k22 : ∀ Q : Int32 → Sg → Prop, (∀ τ, τ = put σ 30 0 1 → Q 0 τ) → wp_X6_along_22 Q p1 p2 σ := by
      intro Q hQ τ e
      have r : τ 30 0 = 1 := by rw [e, put_s]
      exact ⟨fun _ => hQ τ e, fun z => absurd r z⟩
    have fin : ∀ τ, τ = put σ 30 0 1 → wp_X6_thrown τ (fun r89 σ88 => (r89 = (1 : Int32) → (((1 : Int32) = 0 → (vp_in (0 : Int32) 1 ∧ (((lg_cmp ((σ88 47 ((0 : Int32)).toNatClampNeg).toInt64) ((0 : Int32).toInt64)) = 0 → K σ88) ∧ (¬ ((lg_cmp ((σ88 47 ((0 : Int32)).toNatClampNeg).toInt64) ((0 : Int32).toInt64)) = 0) → (False))))) ∧ (¬ ((1 : Int32) = 0) → K σ88))) ∧ (¬ (r89 = 1) → (False))) := by
      intro τ e
      have r : τ 30 0 = 1 := by rw [e, put_s]
      refine ⟨fun _ => ⟨fun z => absurd z (by decide), fun _ => hK τ (by rw [e]; exact INV_thrown hI' _)⟩, fun z => z r⟩
    refine s_X6_isRoad h2.2.1 (by omega) ⟨fun g1 => k22 _ fin, fun g1 => s_X6_isIn ?_⟩
    rw [inr04]
    refine ⟨fun g2 => k22 _ fin, fun g2 => absurd ⟨g1, g2⟩ hn⟩
  · have hc : ∀ k, k ≠ 47 → put σ 47 0 (nI (aR a p1.toNatClampNeg p2.toNatClampNeg)) k = σ k := fun k hk => put_o hk
    generalize hυ : put σ 47 0 (nI (aR a p1.toNatClampNeg p2.toNatClampNeg)) = υ at hc
    have hM : RM υ a := h2.keep (hc 31 (by decide))
    have hIυ : INV υ := INV_step (nt := nt) (tp := tp) (ft := ft) h0 (h1.keep (by rw [hc 1 (by decide)]) (by rw [hc 1 (by decide)]) (by rw [hc 2 (by decide)]) (hc 6 (by decide)) (hc 7 (by decide)) (hc 8 (by decide)) (hc 9 (by decide)) (hc 13 (by decide))) hM ⟨h3.1, by rw [hc 3 (by decide)]; exact h3.2.1, by rw [hc 30 (by decide)]; exact h3.2.2.1, fun j hj => by rw [hc 16 (by decide), hc 33 (by decide)]; exact h3.2.2.2.1 j hj, by rw [hc 3 (by decide)]; exact h3.2.2.2.2.1, by rw [hc 30 (by decide)]; exact h3.2.2.2.2.2⟩ (FC.rf υ) (TC.rf υ) (FM.rf υ) (TM.rf υ)
    have r47 : υ 47 0 = nI (aR a p1.toNatClampNeg p2.toNatClampNeg) := by rw [← hυ, put_s]
    unfold wp_X6_along
    refine s_X6_isRoad hM.2.1 (by omega) ⟨fun g1 => absurd g1 hy.1, fun g1 => s_X6_isIn ?_⟩
    rw [inr04]
    refine ⟨fun g2 => absurd g2 hy.2, fun g2 => ?_⟩
    intro τ e
    have r0 : τ 30 0 = 0 := by rw [e, put_s]
    refine ⟨fun z => absurd (r0.symm.trans z) (by decide), fun _ => ?_⟩
    have hMτ : RM τ a := hM.keep (by rw [e]; exact put_o (by decide))
    have rτ : τ 47 0 = nI (aR a p1.toNatClampNeg p2.toNatClampNeg) := by rw [e, put_o (by decide)]; exact r47
    obtain ⟨q, hq, rfl⟩ := inp_yes (by omega) g1
    obtain ⟨w, hw, rfl⟩ := inp_yes (n := 5) (by decide) g2
    rw [nI_clamp (n := q) (by omega), nI_clamp (n := w) (by omega)] at rτ
    refine s_X6_ofRoad (by omega) hw ?_
    rw [hMτ.2.2.2.2.1 q hq w hw]
    show (τ 30 0 = 0 → _) ∧ (¬ τ 30 0 = 0 → False)
    have hKτ : K τ := hK τ (by rw [e]; exact INV_thrown hIυ _)
    refine ⟨fun _ => ⟨fun _ => ⟨v01, fun _ => hKτ, fun z => z ?_⟩, fun _ => hKτ⟩, fun z => z r0⟩
    show lg_cmp ((τ 47 0).toInt64) _ = 0
    rw [rτ]
    exact lg_cmp_rf _
