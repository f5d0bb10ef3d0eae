/-! worst, lacks -/
def wst (f : Nat → Nat) : Nat → Nat × Nat
  | 0 => (0, f 0)
  | n + 1 => if (wst f n).2 < f (n + 1) then (n + 1, f (n + 1)) else wst f n
/-- wst f n: of f 0 .. f n the first of the greatest -/
theorem wst_le {f : Nat → Nat} (h : ∀ n, f n ≤ 41) : ∀ n, (wst f n).2 ≤ 41 ∧ (wst f n).1 ≤ n := by
  intro n
  induction n with
  | zero => exact ⟨h 0, Nat.le_refl _⟩
  | succ n ih =>
    rw [wst]
    split
    · exact ⟨h _, Nat.le_refl _⟩
    · exact ⟨ih.1, by omega⟩
theorem wst_top {f : Nat → Nat} (h : ∀ n, f n ≤ 41) {i : Nat} (h41 : (wst f i).2 = 41) : ∀ d, wst f (i + d) = wst f i := by
  intro d
  induction d with
  | zero => rfl
  | succ d ih =>
    have := h (i + d + 1)
    rw [show i + (d + 1) = i + d + 1 by omega, wst, ih, if_neg (by omega)]
theorem wL_setR (a : AT) (r c v y : Nat) (hc : c < 2) : wL (setR a r (3 + c) v) y = if y = 2 * r + c then v else wL a y := by
  unfold wL
  rw [aR_setR]
  by_cases z : y = 2 * r + c
  · rw [if_pos z, if_pos (by omega)]
  · rw [if_neg z, if_neg (by omega)]
theorem wS_setR (a : AT) (r c v y : Nat) : wS (setR a r (3 + c) v) y = wS a y := by unfold wS; rw [aR_setR, if_neg (by omega)]
theorem wE_setR (a : AT) (r c v y : Nat) : wE (setR a r (3 + c) v) y = wE a y := by unfold wE; rw [aR_setR, if_neg (by omega)]
theorem wM_setR (a : AT) (r c v y : Nat) : wM (setR a r (3 + c) v) y = wM a y := by unfold wM; rw [aR_setR, if_neg (by omega)]
theorem can_setR {a : AT} {r c v t : Nat} (hc : c < 2) (h : CAN a t) (hv : aR a r (3 + c) ≤ v) : CAN (setR a r (3 + c) v) t :=
  h.mono (Nat.le_refl t) rfl rfl (fun i _ => ⟨rfl, Nat.le_refl _, Nat.le_refl _, Nat.le_refl _⟩) (fun y _ => ⟨wS_setR a r c v y, wE_setR a r c v y, wM_setR a r c v y, by
    rw [wL_setR a r c v y hc]
    split
    · rename_i z
      unfold wL
      rw [z, show (2 * r + c) / 2 = r by omega, show (2 * r + c) % 2 = c by omega]
      exact hv
    · exact Nat.le_refl _⟩)
theorem qk_shR (a : AT) (r : Nat) : qk a ≤ qk (shR a r) := by
  rcases Nat.lt_or_ge (qk (shR a r)) (qk a) with z | z
  · have hq := qk_le a
    have c := (qk_is (shR a r)).2.2 (by omega)
    have c1 := can_setR (r := r) (c := 0) (v := aR a r 3) (by decide) c (by rw [show (3 + 0 : Nat) = 3 from rfl]; unfold shR; rw [aR_setR, aR_setR]; simp)
    have c2 := can_setR (r := r) (c := 1) (v := aR a r 4) (by decide) c1 (by rw [show (3 + 1 : Nat) = 4 from rfl, show (3 + 0 : Nat) = 3 from rfl]; unfold shR; rw [aR_setR, aR_setR]; simp)
    have e := shR_back a r
    rw [show (3 + 1 : Nat) = 4 from rfl, show (3 + 0 : Nat) = 3 from rfl, e] at c2
    exact absurd c2 ((qk_is a).2.1 _ z)
  · exact z
noncomputable def woF (a : AT) (r : Nat) : Nat := qk (shR a r)
noncomputable def woA (a : AT) : Int32 := if aNR a = 0 then -2 else nI (wst (woF a) (aNR a - 1)).1
theorem L_worst {σ : Sg} (hI : INV σ) {K : Sg → Prop} (hK : ∀ τ, INV τ → K τ) {C : Int32 → Sg → Prop} (hw : ∀ r1 σ1, wp_X6_worst σ1 (fun r2 σ2 => (r1 = r2 → K σ2) ∧ (¬ (r1 = r2) → False)) → C r1 σ1) : wp_X5_worst σ C := by
  refine L_ask hI (wpC := fun σ C => wp_X5_worst σ C) (wpM := fun σ C => wp_X6_worst σ C) woA (fun a hO τ hC Q h => ?_) (fun a hO τ hM Q h => ?_) hK hw
  · show wp_X5_worst τ Q
    unfold wp_X5_worst
    have h12 := hO.2.1
    have hf : ∀ n, woF a n ≤ 41 := fun n => qk_le _
    rw [hC.2.1]
    refine pk_eq (aNR a) 0 (fun z => ?_) (fun z => s_soonest hO.n hC (qk_is a) (fun σ2 f2 => ?_)) rfl rfl (by omega) (by omega)
    · have := h τ (FC.rf τ) (TC.rf τ) hC
      unfold woA at this
      rwa [if_pos z] at this
    · have fin : ∀ υ, WF τ υ → RC υ a → Q (nI (wst (woF a) (aNR a - 1)).1) υ := by
        intro υ f hC'
        have := h υ f.fc f.tc hC'
        unfold woA at this
        rwa [if_neg z] at this
      have key : ∀ d i, i + d = aNR a → 1 ≤ i → ∀ υ, WF τ υ → RC υ a → wp_X5_worst_25 Q (d + 1) (nI (wst (woF a) (i - 1)).1) (nI (wst (woF a) (i - 1)).2) (nI i) υ := by
        intro d
        induction d with
        | zero =>
          intro i hi hi1 υ f hC'
          have : i = aNR a := by omega
          subst this
          rw [wp_X5_worst_25, hC'.2.1]
          exact ⟨fun _ => fin υ f hC', fun w => absurd (nI_le (Nat.le_refl _) (by omega)) w⟩
        | succ d ih =>
          intro i hi hi1 υ f hC'
          obtain ⟨l1, l2⟩ := wst_le hf (i - 1)
          have hfi := hf i
          rw [wp_X5_worst_25, hC'.2.1]
          refine ⟨fun w => absurd w (nI_ge (by omega) (by omega)), fun _ => ?_⟩
          refine pk_le 41 (wst (woF a) (i - 1)).2 (fun hz => ?_) (fun hpos => ?_) rfl rfl (by omega) (by omega)
          · have := wst_top hf (i := i - 1) (by omega) d
            rw [show i - 1 + d = aNR a - 1 - 1 by omega] at this
            have t2 := wst_top hf (i := i - 1) (by omega) (d + 1)
            rw [show i - 1 + (d + 1) = aNR a - 1 by omega] at t2
            have r := fin υ f hC'
            rwa [t2] at r
          · refine s_without hO.n hC' (by omega) l1 (fun ω fω rω => ?_)
            have nx := ih (i + 1) (by omega) (by omega) ω (f.tr fω) rω
            obtain ⟨i', rfl⟩ : ∃ i', i = i' + 1 := ⟨i - 1, by omega⟩
            rw [show i' + 1 + 1 - 1 = i' + 1 by omega, wst] at nx
            rw [show i' + 1 - 1 = i' by omega] at l1 l2 hpos ⊢
            have eq : qres (wst (woF a) i').2 41 (qk (shR a (i' + 1))) = max (wst (woF a) i').2 (woF a (i' + 1)) := by
              unfold qres
              have : qk (shR a (i' + 1)) = woF a (i' + 1) := rfl
              rw [this]
              split <;> omega
            rw [eq]
            refine pk_le (max (wst (woF a) i').2 (woF a (i' + 1))) (wst (woF a) i').2 (fun hle => ?_) (fun hgt => ?_) rfl rfl (by omega) (by omega)
            · rw [if_neg (by omega)] at nx
              intro x3 e3
              rw [nI_1] at e3
              subst e3
              exact nx
            · rw [if_pos (by omega)] at nx
              rw [show max (wst (woF a) i').2 (woF a (i' + 1)) = woF a (i' + 1) by omega]
              intro x3 e3
              rw [nI_1] at e3
              subst e3
              exact nx
      refine ⟨aNR a + 1, ?_⟩
      have c2 := f2.rc hC
      have hq := qk_le a
      have hge := qk_shR a 0
      have hf0 := hf 0
      have e0 : qk (shR a 0) = woF a 0 := rfl
      obtain ⟨d, hd⟩ : ∃ d, aNR a = d + 1 := ⟨aNR a - 1, by omega⟩
      rw [wp_X5_worst_25, c2.2.1]
      refine ⟨fun w => absurd w (nI_ge (a := 0) (by omega) (by omega)), fun _ => ?_⟩
      refine pk_le 41 (qk a) (fun hz => ?_) (fun hpos => ?_) rfl rfl (by omega) (by omega)
      · have t := wst_top hf (i := 0) (by rw [wst]; dsimp only; omega) (aNR a - 1)
        rw [show 0 + (aNR a - 1) = aNR a - 1 by omega] at t
        have r := fin σ2 f2.wf c2
        rw [t] at r
        exact r
      · refine s_without (r := 0) hO.n c2 (by omega) hq (fun ω fω rω => ?_)
        have nx := key d 1 (by omega) (by omega) ω (f2.wf.tr fω) rω
        rw [show (1 - 1 : Nat) = 0 from rfl, wst] at nx
        dsimp only at nx
        have eq : qres (qk a) 41 (qk (shR a 0)) = woF a 0 := by
          unfold qres
          rw [e0]
          rw [e0] at hge
          split <;> omega
        rw [eq]
        rw [hd]
        rw [e0] at hge
        refine pk_le (woF a 0) (qk a) (fun hle => ?_) (fun hgt => ?_) rfl rfl (by omega) (by omega)
        · have : qk a = woF a 0 := by omega
          rw [this]
          intro x3 e3
          rw [show (0 : Int32) + 1 = nI 1 from rfl] at e3
          subst e3
          exact nx
        · intro x3 e3
          rw [show (0 : Int32) + 1 = nI 1 from rfl] at e3
          subst e3
          exact nx
  · show wp_X6_worst τ Q
    unfold wp_X6_worst
    have h12 := hO.2.1
    have hf : ∀ n, woF a n ≤ 41 := fun n => qk_le _
    intro σ1 e1
    have k1 : KF τ σ1 := KF.t0 e1
    have hM1 : RM σ1 a := k1.rm hO.n hM
    refine s_X6_roads ?_
    rw [hM1.2.1]
    refine pk_eq (aNR a) 0 (fun z => ?_) (fun z => ?_) rfl rfl (by omega) (by omega)
    · have := h σ1 k1.1 k1.2.1 hM1
      unfold woA at this
      rwa [if_pos z] at this
    · -- one road more
      have sh : ∀ i, i < aNR a → shutA (nI i) a = tq (woF a i) 41 := by
        intro i hi
        unfold shutA
        have := inp_nI (n := aNR a) (v := i) (by omega) (by omega)
        rw [if_pos hi] at this
        rw [this, if_neg (by decide), nI_clamp (by omega)]
        rfl
      have up : ∀ q : Nat, q ≤ 41 → ∃ y : Nat, y = (if q = 41 then 99 else q) := fun q _ => ⟨_, rfl⟩
      have key : ∀ d i, i + d = aNR a → 1 ≤ i → ∀ υ, KF τ υ → ∀ L, L = (if (wst (woF a) (i - 1)).2 = 41 then 99 else (wst (woF a) (i - 1)).2) → wp_X6_worst_21 Q (d + 1) (nI (wst (woF a) (i - 1)).1) (nI L) (nI i) υ := by
        intro d
        induction d with
        | zero =>
          intro i hi hi1 υ kf L hL
          have : i = aNR a := by omega
          subst this
          rw [wp_X6_worst_21]
          refine s_X6_roads ?_
          rw [(kf.rm hO.n hM).2.1]
          refine ⟨fun _ => ?_, fun w => absurd (nI_le (Nat.le_refl _) (by omega)) w⟩
          have := h υ kf.1 kf.2.1 (kf.rm hO.n hM)
          unfold woA at this
          rwa [if_neg z] at this
        | succ d ih =>
          intro i hi hi1 υ kf L hL
          obtain ⟨l1, l2⟩ := wst_le hf (i - 1)
          have hfi := hf i
          rw [wp_X6_worst_21]
          refine s_X6_roads ?_
          rw [(kf.rm hO.n hM).2.1]
          refine ⟨fun w => absurd w (nI_ge (by omega) (by omega)), fun _ => s_shut hO.n (kf.rm hO.n hM) (fun ω kω => ?_)⟩
          rw [sh i (by omega)]
          have nx := ih (i + 1) (by omega) (by omega) ω (kf.tr kω)
          obtain ⟨i', rfl⟩ : ∃ i', i = i' + 1 := ⟨i - 1, by omega⟩
          rw [show i' + 1 + 1 - 1 = i' + 1 by omega, wst] at nx
          rw [show i' + 1 - 1 = i' by omega] at l1 l2 hL ⊢
          have fin : ∀ y : Nat, y = (if woF a (i' + 1) = 41 then 99 else woF a (i' + 1)) → wp_X6_worst_49 Q (fun z1 z2 z3 σ => wp_X6_worst_21 Q (d + 1) z1 z2 z3 σ) (nI (wst (woF a) i').1) (nI L) (nI (i' + 1)) (nI y) ω := by
            intro y hy
            unfold wp_X6_worst_49
            refine pk_lt L y (fun hlt => ?_) (fun hge => ?_) rfl rfl (by split at hL <;> omega) (by split at hy <;> omega)
            · have w : (wst (woF a) i').2 < woF a (i' + 1) := by split at hL <;> split at hy <;> omega
              rw [if_pos w] at nx
              intro x3 e3
              rw [nI_1] at e3
              subst e3
              exact nx y hy
            · have w : ¬ (wst (woF a) i').2 < woF a (i' + 1) := by split at hL <;> split at hy <;> omega
              rw [if_neg w] at nx
              intro x3 e3
              rw [nI_1] at e3
              subst e3
              exact nx L hL
          unfold tq
          by_cases w41 : woF a (i' + 1) < 41
          · rw [if_pos w41]
            exact ⟨fun w => absurd w (nI_nm1 (by omega)), fun _ => fin _ (by rw [if_neg (by omega)])⟩
          · rw [if_neg w41]
            exact ⟨fun _ => fin 99 (by rw [if_pos (by omega)]), fun w => absurd rfl w⟩
      refine ⟨aNR a + 1, ?_⟩
      obtain ⟨d, hd⟩ : ∃ d, aNR a = d + 1 := ⟨aNR a - 1, by omega⟩
      rw [wp_X6_worst_21]
      refine s_X6_roads ?_
      rw [hM1.2.1]
      have hf0 := hf 0
      refine ⟨fun w => absurd w (nI_ge (a := 0) (by omega) (by omega)), fun _ => s_shut hO.n hM1 (fun ω kω => ?_)⟩
      rw [show (0 : Int32) = nI 0 from rfl, sh 0 (by omega)]
      have nx := key d 1 (by omega) (by omega) ω (k1.tr kω)
      rw [show (1 - 1 : Nat) = 0 from rfl, wst] at nx
      dsimp only at nx
      have fin : ∀ y : Nat, y = (if woF a 0 = 41 then 99 else woF a 0) → wp_X6_worst_49 Q (fun z1 z2 z3 σ => wp_X6_worst_21 Q (aNR a) z1 z2 z3 σ) (-1) (-1) (nI 0) (nI y) ω := by
        intro y hy
        have hy2 : y ≤ 99 := by split at hy <;> omega
        unfold wp_X6_worst_49
        have lt : (-1 : Int32) < nI y := by
          rw [Int32.lt_iff_toInt_lt, nI_toInt (by omega)]
          have : ((-1 : Int32)).toInt = -1 := by decide
          omega
        refine ⟨fun _ => ?_, fun w => absurd lt w⟩
        intro x3 e3
        rw [nI_1] at e3
        subst e3
        rw [hd]
        exact nx y hy
      unfold tq
      by_cases w41 : woF a 0 < 41
      · rw [if_pos w41]
        exact ⟨fun w => absurd w (nI_nm1 (by omega)), fun _ => fin _ (by rw [if_neg (by omega)])⟩
      · rw [if_neg w41]
        exact ⟨fun _ => fin 99 (by rw [if_pos (by omega)]), fun w => absurd rfl w⟩
/-! lacks -/
def lkP (a : AT) (r c t : Nat) (j : Nat) : Prop := CAN (setR a r (3 + c) (aR a r (3 + c) + j)) t
theorem lk_mono {a : AT} {r c t j j' : Nat} (hc : c < 2) (h : lkP a r c t j) (hj : j ≤ j') : lkP a r c t j' := by
  unfold lkP at h ⊢
  have := can_setR (r := r) (v := aR a r (3 + c) + j') hc h (by rw [aR_setR, if_pos ⟨rfl, rfl⟩]; omega)
  rwa [setR_setR] at this
noncomputable def lkA (x y b : Int32) (a : AT) : Int32 := if inr 0 40 x = 0 ∨ inp (nI (aNR a)) y = 0 then -2 else
  if fst1 (lkP a y.toNatClampNeg (bc b) x.toNatClampNeg) 31 = 31 then -1 else nI (fst1 (lkP a y.toNatClampNeg (bc b) x.toNatClampNeg) 31)
theorem s_allSafeWith {a : AT} {σ : Sg} {r c k t : Nat} {Q : Int32 → Sg → Prop} (hO : OKT a) (hC : RC σ a) (hr : r < aNR a) (hc : c < 2) (hk : k ≤ 30) (ht : t ≤ 40)
    (h1 : lkP a r c t k → ∀ τ, WF σ τ → RC τ a → Q 1 τ) (h0 : ¬ lkP a r c t k → ∀ τ, WF σ τ → RC τ a → Q 0 τ) : wp_X5_allSafeWith σ (nI (2 * r + c)) (nI k) (nI t) Q := by
  unfold wp_X5_allSafeWith
  have h12 := hO.2.1
  have hl := hO.lane hr hc
  have vw : vp_in (nI (2 * r + c)) 24 := vp_in_nI (by omega) (by decide)
  rw [nI_clamp (n := 2 * r + c) (by omega), hC.lane hr hc, nI_add]
  refine ⟨vw, vw, fun σ1 e1 => ?_⟩
  have r1 := hC.setR hr hc e1
  have o1 := hO.n.setR (r := r) (w34 c hc) (v := aR a r (3 + c) + k) (by omega)
  refine s_allSafeBy o1 ht r1 (qk_is _) (fun σ2 f2 => ⟨vw, vw, fun σ4 e4 => ?_⟩)
  have r2 := f2.rc r1
  have l2 := r2.lane (r := r) hr hc
  rw [aR_setR, if_pos ⟨rfl, rfl⟩] at l2
  rw [l2, pk_sub (by omega), show aR a r (3 + c) + k - k = aR a r (3 + c) by omega] at e4
  have r4 := r2.setR (r := r) hr hc e4
  rw [setR_setR, setR_self] at r4
  have wf : WF σ σ4 := ((WF_8 (fun k hk => by rw [e1, put_o hk])).tr f2.wf).tr (WF_8 (fun k hk => by rw [e4, put_o hk]))
  have cc := (qk_is (setR a r (3 + c) (aR a r (3 + c) + k))).can ht
  by_cases w : qk (setR a r (3 + c) (aR a r (3 + c) + k)) ≤ t
  · rw [if_pos w]
    exact ⟨Or.inr rfl, h1 (cc.mpr w) σ4 wf r4⟩
  · rw [if_neg w]
    exact ⟨Or.inl rfl, h0 (fun z => w (cc.mp z)) σ4 wf r4⟩
theorem lk_0 {a : AT} {r c t : Nat} : lkP a r c t 0 ↔ CAN a t := by
  unfold lkP
  rw [Nat.add_zero, setR_self]
theorem L_lacks {σ : Sg} (hI : INV σ) (p1 p2 b : Int32) {K : Sg → Prop} (hK : ∀ τ, INV τ → K τ) {C : Int32 → Sg → Prop} (hw : ∀ r1 σ1, wp_X6_lacks σ1 p1 p2 b (fun r2 σ2 => (r1 = r2 → K σ2) ∧ (¬ (r1 = r2) → False)) → C r1 σ1) : wp_X5_lacks σ p1 p2 b C := by
  have hb := bc_lt b
  refine L_ask hI (wpC := fun σ C => wp_X5_lacks σ p1 p2 b C) (wpM := fun σ C => wp_X6_lacks σ p1 p2 b C) (lkA p1 p2 b) (fun a hO τ hC Q h => ?_) (fun a hO τ hM Q h => ?_) hK hw
  · show wp_X5_lacks τ p1 p2 b Q
    unfold wp_X5_lacks
    have h12 := hO.2.1
    have no : (inr 0 40 p1 = 0 ∨ inp (nI (aNR a)) p2 = 0) → Q (-2) τ := fun w => by
      have := h τ (FC.rf τ) (TC.rf τ) hC
      unfold lkA at this
      rwa [if_pos w] at this
    refine s_X5_isT (fun e => ⟨fun _ => no (Or.inl e), fun z => absurd rfl z⟩) (fun t ht e => ⟨fun z => absurd z (by decide), fun _ => s_X3_hasRoad ?_⟩)
    rw [hC.2.1]
    refine ⟨fun z => no (Or.inr z), fun z => ?_⟩
    obtain ⟨r, hr, rfl⟩ := inp_yes (by omega) z
    subst e
    have fin : ∀ (υ : Sg) (l : Nat), WF τ υ → RC υ a → FST (lkP a r (bc b) t) 31 l → l ≤ 30 → Q (nI l) υ := by
      intro υ l f hC' hF hl
      have := h υ f.fc f.tc hC'
      unfold lkA at this
      rw [if_neg (by rintro (w | w); exact inr40 ht w; exact z w), nI_clamp (n := r) (by omega), nI_clamp (n := t) (by omega), fst1_eq hF, if_neg (by omega)] at this
      exact this
    refine s_way (s_allSafeBy hO.n ht hC (qk_is a) (fun σ9 f9 => ?_))
    have c9 := f9.rc hC
    have cc := (qk_is a).can ht
    by_cases w : qk a ≤ t
    · rw [if_pos w]
      refine ⟨fun q => absurd q (by decide), fun _ => fin σ9 0 f9.wf c9 ⟨by omega, fun j hj => by omega, fun _ => lk_0.mpr (cc.mpr w)⟩ (by omega)⟩
    · rw [if_neg w]
      have n0 : ¬ lkP a r (bc b) t 0 := fun q => w (cc.mp (lk_0.mp q))
      refine ⟨fun _ => ?_, fun q => absurd rfl q⟩
      refine s_allSafeWith (k := 30) hO c9 hr hb (by omega) ht (fun p30 υ fυ rυ => ⟨fun q => absurd q (by decide), fun _ => ?_⟩) (fun n30 υ fυ rυ => ⟨fun _ => ?_, fun q => absurd rfl q⟩)
      · have key : ∀ d n, n + d = 30 → ∀ (υ : Sg) (lo hi : Nat), WF τ υ → RC υ a → lo < hi → hi ≤ 30 → hi - lo ≤ 30 - n → ¬ lkP a r (bc b) t lo → lkP a r (bc b) t hi → wp_X5_lacks_65 Q (d + 1) (nI t) (nI (2 * r + bc b)) (nI lo) (nI hi) (nI n) υ := by
          intro d
          induction d with
          | zero => intro n hn υ lo hi f hC' h1 h2 h3; omega
          | succ d ih =>
            intro n hn υ lo hi f hC' h1 h2 h3 hlo hhi
            rw [wp_X5_lacks_65]
            refine ⟨fun q => absurd q (nI_ge (b := 30) (by omega) (by omega)), fun _ => ?_⟩
            rw [pk_sub (by omega)]
            refine pk_le (hi - lo) 1 (fun hle => ?_) (fun hgt => ?_) rfl rfl (by omega) (by omega)
            · refine fin υ hi f hC' ⟨by omega, fun j hj hp => hlo (lk_mono hb hp (by omega)), fun _ => hhi⟩ h2
            · intro x8 e8
              rw [nI_add, show (2 : Int32) = nI 2 from rfl, pk_div (by omega) (by decide) (by decide)] at e8
              subst e8
              refine s_allSafeWith (k := (hi + lo) / 2) hO hC' hr hb (by omega) ht (fun pm ω fω rω => ⟨fun q => absurd q (by decide), fun _ => ?_⟩) (fun nm ω fω rω => ⟨fun _ => ?_, fun q => absurd rfl q⟩)
              · intro x7 e7
                rw [nI_1] at e7
                subst e7
                exact ih (n + 1) (by omega) ω lo ((hi + lo) / 2) (f.tr fω) rω (by omega) (by omega) (by omega) hlo pm
              · intro x7 e7
                rw [nI_1] at e7
                subst e7
                exact ih (n + 1) (by omega) ω ((hi + lo) / 2) hi (f.tr fω) rω (by omega) (by omega) (by omega) nm hhi
        exact ⟨_, key 30 0 (by omega) υ 0 30 (f9.wf.tr fυ) rυ (by omega) (by omega) (by omega) n0 p30⟩
      · have ff := f9.wf.tr fυ
        have := h υ ff.fc ff.tc rυ
        unfold lkA at this
        rw [if_neg (by rintro (w | w); exact inr40 ht w; exact z w), nI_clamp (n := r) (by omega), nI_clamp (n := t) (by omega), fst1_eq (l := 31) ⟨by omega, fun j hj hp => n30 (lk_mono hb hp (by omega)), fun q => by omega⟩, if_pos rfl] at this
        exact this
  · show wp_X6_lacks τ p1 p2 b Q
    unfold wp_X6_lacks
    have h8 := hO.1
    have h12 := hO.2.1
    intro σ1 e1
    have k1 : KF τ σ1 := KF.t0 e1
    have hM1 : RM σ1 a := k1.rm hO.n hM
    have no : (inr 0 40 p1 = 0 ∨ inp (nI (aNR a)) p2 = 0) → Q (-2) σ1 := fun w => by
      have := h σ1 k1.1 k1.2.1 hM1
      unfold lkA at this
      rwa [if_pos w] at this
    refine s_isMinute (fun e => ⟨fun _ => no (Or.inl e), fun z => absurd rfl z⟩) (fun t ht e => ⟨fun z => absurd z (by decide), fun _ => s_X6_isRoad hM1.2.1 (by omega) ?_⟩)
    refine ⟨fun z => no (Or.inr z), fun z => ?_⟩
    obtain ⟨r, hr, rfl⟩ := inp_yes (by omega) z
    subst e
    have hl := hO.lane hr hb
    refine s_keep hO.n hM1 (fun σ8 kp8 m8 => ?_)
    have fin : ∀ (υ : Sg) (l : Nat), KP σ1 υ → FST (lkP a r (bc b) t) 31 l → wp_X6_lacks_76 Q (nI l) υ := by
      intro υ l kp hF
      have hl := hF.1
      unfold wp_X6_lacks_76
      refine s_cb kp (fun ω kω => ?_)
      have kk := k1.tr kω
      have := h ω kk.1 kk.2.1 (kk.rm hO.n hM)
      unfold lkA at this
      rw [if_neg (by rintro (w | w); exact inr40 ht w; exact z w), nI_clamp (n := r) (by omega), nI_clamp (n := t) (by omega), fst1_eq hF] at this
      refine pk_le l 30 (fun hle => ?_) (fun hgt => ?_) rfl rfl (by omega) (by omega)
      · rwa [if_neg (by omega)] at this
      · rwa [if_pos (by omega)] at this
    have key : ∀ d k, k + d = 31 → ∀ (υ : Sg), KP σ1 υ → RM υ (setR a r (3 + bc b) (aR a r (3 + bc b) + k)) → (∀ j, j < k → ¬ lkP a r (bc b) t j) → wp_X6_lacks_30 Q (d + 1) (nI t) (nI r) b (nI k) υ := by
      intro d
      induction d with
      | zero =>
        intro k hk υ kp rm hn
        have : k = 31 := by omega
        subst this
        rw [wp_X6_lacks_30]
        exact ⟨fun _ => fin υ 31 kp ⟨by omega, hn, fun q => by omega⟩, fun q => absurd (nI_lt (a := 30) (by omega) (by omega)) q⟩
      | succ d ih =>
        intro k hk υ kp rm hn
        rw [wp_X6_lacks_30]
        refine ⟨fun q => absurd q (nI_nlt (b := k) (a := 30) (by omega) (by omega)), fun _ => ?_⟩
        have ok := hO.n.setR (r := r) (w34 _ hb) (v := aR a r (3 + bc b) + k) (by omega)
        have cc := (qk_is (setR a r (3 + bc b) (aR a r (3 + bc b) + k))).can ht
        refine s_can ok ht rm (qk_is _) (fun ω lf => ?_)
        by_cases w : qk (setR a r (3 + bc b) (aR a r (3 + bc b) + k)) ≤ t
        · rw [if_pos w]
          exact ⟨fun q => absurd q (by decide), fun _ => fin ω k (kp.lf lf) ⟨by omega, hn, fun _ => cc.mpr w⟩⟩
        · rw [if_neg w]
          refine ⟨fun _ x4 e4 => ?_, fun q => absurd rfl q⟩
          rw [nI_1] at e4
          subst e4
          have go : ∀ w' : Nat, w' = 3 + bc b → wp_X6_lacks_67 Q (fun z1 z2 z3 z4 σ => wp_X6_lacks_30 Q (d + 1) z1 z2 z3 z4 σ) (nI t) (nI r) b (nI (k + 1)) ((35 : Int32) + ((5 : Int32) * nI r)) (nI w') ω := by
            intro w' hw'
            subst hw'
            have mω := lf.rm rm
            have cω := mω.2.2.2.2.1 r hr (3 + bc b) (by omega)
            rw [aR_setR, if_pos ⟨rfl, rfl⟩] at cω
            unfold wp_X6_lacks_67
            rw [e_r, nI_clamp (n := 35 + 5 * r + (3 + bc b)) (by omega), cω, nI_1]
            refine ⟨vp_in_nI (by omega) (by decide), vp_in_nI (by omega) (by decide), fun σ19 e19 => ?_⟩
            have m19 := mω.setR (τ := σ19) (r := r) (w := 3 + bc b) (v := aR a r (3 + bc b) + k + 1) h8 h12 hr (by omega) (fun j => by rw [e19, put_at]; simp)
            rw [setR_setR] at m19
            refine ih (k + 1) (by omega) σ19 ((kp.lf lf).p31 (fun i hi => by rw [e19, put_o hi])) m19 (fun j hj hp => ?_)
            by_cases q : j = k
            · subst q; exact w (cc.mp hp)
            · exact hn j (by omega) hp
          refine ⟨fun zb => go 3 (by unfold bc; rw [if_pos zb]), fun zb => go 4 (by unfold bc; rw [if_neg zb])⟩
    exact ⟨_, key 31 0 (by omega) σ8 kp8 (by rw [Nat.add_zero, setR_self]; exact m8) (fun j hj => by omega)⟩
