/-! best -/
def bs (f : Nat → Nat) : Nat → Nat × Nat
  | 0 => (0, 41)
  | n + 1 => if f n < (bs f n).2 then (n, f n) else bs f n
theorem bs_le (f : Nat → Nat) : ∀ n, (bs f n).2 ≤ 41 ∧ (bs f n).1 ≤ n := by
  intro n
  induction n with
  | zero => exact ⟨Nat.le_refl _, Nat.le_refl _⟩
  | succ n ih =>
    rw [bs]
    split
    · exact ⟨by dsimp only; omega, by dsimp only; omega⟩
    · exact ⟨ih.1, by omega⟩
theorem bs_zero {f : Nat → Nat} {i : Nat} (h : (bs f i).2 = 0) : ∀ d, bs f (i + d) = bs f i := by
  intro d
  induction d with
  | zero => rfl
  | succ d ih =>
    rw [show i + (d + 1) = i + d + 1 by omega, bs, ih, if_neg (by omega)]
noncomputable def bsF (a : AT) (k p : Nat) : Nat := qk (setP a p 1 (min 300 (aP a p 1 + k)))
noncomputable def beA (x : Int32) (a : AT) : Int32 := if aNP a = 0 ∨ inr 1 300 x = 0 then -2 else nI (bs (bsF a x.toNatClampNeg) (aNP a)).1
theorem L_best {σ : Sg} (hI : INV σ) (p1 : Int32) {K : Sg → Prop} (hK : ∀ τ, INV τ → K τ) {C : Int32 → Sg → Prop} (hw : ∀ r1 σ1, wp_X6_best σ1 p1 (fun r2 σ2 => (r1 = r2 → K σ2) ∧ (¬ (r1 = r2) → False)) → C r1 σ1) : wp_X5_best σ p1 C := by
  have e1' : ((1 : Int32)).toInt = 1 := by decide
  have e3' : ((300 : Int32)).toInt = 300 := by decide
  refine L_ask hI (wpC := fun σ C => wp_X5_best σ p1 C) (wpM := fun σ C => wp_X6_best σ p1 C) (beA p1) (fun a hO τ hC Q h => ?_) (fun a hO τ hM Q h => ?_) hK hw
  · show wp_X5_best τ p1 Q
    unfold wp_X5_best
    have h8 := hO.1
    have no : (aNP a = 0 ∨ inr 1 300 p1 = 0) → Q (-2) τ := fun w => by
      have := h τ (FC.rf τ) (TC.rf τ) hC
      unfold beA at this
      rwa [if_pos w] at this
    rw [hC.1]
    refine pk_eq (aNP a) 0 (fun z => no (Or.inl z)) (fun z => ⟨fun z1 => no (Or.inr (by unfold inr; rw [if_pos z1])), fun z1 => ⟨fun z2 => ?_, fun z2 => no (Or.inr (by unfold inr; rw [if_neg z1, if_pos (by rw [Int32.lt_iff_toInt_lt]; rw [Int32.le_iff_toInt_le] at z2; omega)]))⟩⟩) rfl rfl (by omega) (by omega)
    have zi : ¬ inr 1 300 p1 = 0 := by
      unfold inr
      rw [if_neg z1, if_neg (by rw [Int32.lt_iff_toInt_lt]; rw [Int32.le_iff_toInt_le] at z2; omega)]
      decide
    obtain ⟨k, k1, k2, rfl⟩ := inr_yes (a := 1) (b := 300) (by decide) (by decide) zi
    have fin : ∀ υ, WF τ υ → RC υ a → Q (nI (bs (bsF a k) (aNP a)).1) υ := by
      intro υ f hC'
      have := h υ f.fc f.tc hC'
      unfold beA at this
      rwa [if_neg (by rintro (w | w); exact z w; exact zi w), nI_clamp (by omega)] at this
    have key : ∀ d i, i + d = aNP a → ∀ υ, WF τ υ → RC υ a → wp_X5_best_33 Q (d + 1) (nI k) (nI (bs (bsF a k) i).1) (nI (bs (bsF a k) i).2) (nI i) υ := by
      intro d
      induction d with
      | zero =>
        intro i hi υ f hC'
        have : i = aNP a := by omega
        subst this
        rw [wp_X5_best_33, hC'.1]
        exact ⟨fun _ => fin υ f hC', fun w => absurd (nI_le (Nat.le_refl _) (by omega)) w⟩
      | succ d ih =>
        intro i hi υ f hC'
        obtain ⟨l1, l2⟩ := bs_le (bsF a k) i
        obtain ⟨q0, q1, q2, q3⟩ := hO.2.2.2.1 i (by omega)
        rw [wp_X5_best_33, hC'.1]
        refine ⟨fun w => absurd w (nI_ge (by omega) (by omega)), fun _ => ?_⟩
        refine pk_le (bs (bsF a k) i).2 0 (fun hz => ?_) (fun hpos => s_X3_fact (w := 1) (by omega) (by decide) ?_) rfl rfl (by omega) (by omega)
        · have := bs_zero (f := bsF a k) (i := i) (by omega) (d + 1)
          rw [hi] at this
          have r := fin υ f hC'
          rwa [this] at r
        · rw [hC'.2.2.2.1 i (by omega) 1 (by decide), nI_add]
          have em : (if nI (aP a i 1 + k) < (300 : Int32) then nI (aP a i 1 + k) else (300 : Int32)) = nI (min 300 (aP a i 1 + k)) := by
            by_cases w : aP a i 1 + k < 300
            · rw [if_pos (show nI (aP a i 1 + k) < (300 : Int32) from nI_lt (b := 300) w (by omega)), Nat.min_eq_right (by omega)]
            · rw [if_neg (show ¬ nI (aP a i 1 + k) < (300 : Int32) from nI_nlt (b := 300) (by omega) (by omega)), Nat.min_eq_left (by omega)]
              rfl
          rw [em]
          refine s_X3_change (w := 1) (by omega) (by decide) ?_
          have r8 := hC'.setP (p := i) (v := min 300 (aP a i 1 + k)) (by omega) (w := 1) (by decide) rfl
          have o8 := hO.n.setP (p := i) (w := 1) (v := min 300 (aP a i 1 + k)) (Or.inl ⟨rfl, by omega⟩)
          have f8 : WF υ (put υ 9 (4 * i + 1) (nI (min 300 (aP a i 1 + k)))) := WF_9 (fun k hk => put_o hk)
          have hqk : qk (setP a i 1 (min 300 (aP a i 1 + k))) = bsF a k i := rfl
          have back : ∀ (ω : Sg) (y : Nat), WF τ ω → RC ω (setP a i 1 (min 300 (aP a i 1 + k))) → y = (if bsF a k i < (bs (bsF a k) i).2 then bsF a k i else (bs (bsF a k) i).2) → wp_X5_best_107 Q (fun z1 z2 z3 z4 σ => wp_X5_best_33 Q (d + 1) z1 z2 z3 z4 σ) (nI k) (nI (bs (bsF a k) i).1) (nI (bs (bsF a k) i).2) (nI i) (nI (aP a i 1)) (nI y) ω := by
            intro ω y fω rω hy
            unfold wp_X5_best_107
            refine s_X3_change (w := 1) (by omega) (by decide) ?_
            have r13 := rω.setP (p := i) (v := aP a i 1) (show i < aNP a by omega) (w := 1) (by decide) rfl
            rw [setP_setP, setP_self] at r13
            have f13 : WF τ (put ω 9 (4 * i + 1) (nI (aP a i 1))) := fω.tr (WF_9 (fun k hk => put_o hk))
            have nx := ih (i + 1) (by omega) _ f13 r13
            rw [bs] at nx
            refine pk_le (bs (bsF a k) i).2 y (fun hle => ?_) (fun hgt => ?_) rfl rfl (by omega) (by split at hy <;> omega)
            · have : ¬ bsF a k i < (bs (bsF a k) i).2 := by intro w; rw [if_pos w] at hy; omega
              rw [if_neg this] at nx
              intro x4 e4
              rw [nI_1] at e4
              subst e4
              exact nx
            · have : bsF a k i < (bs (bsF a k) i).2 := by
                by_cases w : bsF a k i < (bs (bsF a k) i).2
                · exact w
                · rw [if_neg w] at hy; omega
              rw [if_pos this] at nx
              rw [if_pos this] at hy
              rw [hy]
              intro x4 e4
              rw [nI_1] at e4
              subst e4
              exact nx
          obtain ⟨l, hl⟩ : ∃ l, (bs (bsF a k) i).2 = l + 1 := ⟨(bs (bsF a k) i).2 - 1, by omega⟩
          rw [show nI (bs (bsF a k) i).2 - 1 = nI l by rw [hl, nI_pred]]
          refine s_allSafeBy o8 (by omega) r8 (qk_is _) (fun σ10 f10 => ?_)
          rw [hqk]
          by_cases w : bsF a k i ≤ l
          · rw [if_pos w]
            refine ⟨fun q => absurd q (by decide), fun _ => s_soonestWithin (lo := 0) o8 (f10.rc r8) (by omega) l1 (qk_is _) (fun σ17 f17 => ?_)⟩
            refine back σ17 _ ((f.tr f8).tr (f10.tr f17).wf) ((f10.tr f17).rc r8) ?_
            rw [hqk, if_pos (by omega)]
            unfold qres
            rw [if_pos (by omega)]
            omega
          · rw [if_neg w]
            refine ⟨fun _ => back σ10 _ ((f.tr f8).tr f10.wf) (f10.rc r8) ?_, fun q => absurd rfl q⟩
            rw [if_neg (by omega)]
    exact ⟨_, key (aNP a) 0 (by omega) τ (WF.rf τ) hC⟩
  · show wp_X6_best τ p1 Q
    unfold wp_X6_best
    have h8 := hO.1
    intro σ1 e1
    have k1 : KF τ σ1 := KF.t0 e1
    have hM1 : RM σ1 a := k1.rm hO.n hM
    have no : (aNP a = 0 ∨ inr 1 300 p1 = 0) → Q (-2) σ1 := fun w => by
      have := h σ1 k1.1 k1.2.1 hM1
      unfold beA at this
      rwa [if_pos w] at this
    refine s_X6_places ?_
    rw [hM1.1]
    refine pk_eq (aNP a) 0 (fun z => no (Or.inl z)) (fun z => s_X6_isIn ⟨fun z1 => no (Or.inr z1), fun zi => ?_⟩) rfl rfl (by omega) (by omega)
    obtain ⟨k, k1', k2', rfl⟩ := inr_yes (a := 1) (b := 300) (by decide) (by decide) zi
    have key : ∀ d i, i + d = aNP a → ∀ υ, KF τ υ → ∀ L, L = (if (bs (bsF a k) i).2 = 41 then 99 else (bs (bsF a k) i).2) → wp_X6_best_34 Q (d + 1) (nI k) (nI (bs (bsF a k) i).1) (nI L) (nI i) υ := by
      intro d
      induction d with
      | zero =>
        intro i hi υ kf L hL
        have : i = aNP a := by omega
        subst this
        rw [wp_X6_best_34]
        refine s_X6_places ?_
        rw [(kf.rm hO.n hM).1]
        refine ⟨fun _ => ?_, fun w => absurd (nI_le (Nat.le_refl _) (by omega)) w⟩
        have := h υ kf.1 kf.2.1 (kf.rm hO.n hM)
        unfold beA at this
        rwa [if_neg (by rintro (w | w); exact z w; exact zi w), nI_clamp (by omega)] at this
      | succ d ih =>
        intro i hi υ kf L hL
        obtain ⟨l1, l2⟩ := bs_le (bsF a k) i
        obtain ⟨q0, q1, q2, q3⟩ := hO.2.2.2.1 i (by omega)
        have mυ := kf.rm hO.n hM
        rw [wp_X6_best_34]
        refine s_X6_places ?_
        rw [mυ.1]
        refine ⟨fun w => absurd w (nI_ge (by omega) (by omega)), fun _ => s_X6_ofPlace (w := 1) (by omega) (by decide) ?_⟩
        rw [mυ.2.2.2.1 i (by omega) 1 (by decide), nI_add]
        have fin : ∀ v, v = min 300 (aP a i 1 + k) → wp_X6_with υ (nI i) 1 (nI v) (fun r16 σ15 => (r16 = (-1 : Int32) → (wp_X6_best_88 Q (fun z1 z2 z3 z4 σ => wp_X6_best_34 Q (d + 1) z1 z2 z3 z4 σ) (nI k) (nI (bs (bsF a k) i).1) (nI L) (nI i) σ15)) ∧ (¬ (r16 = (-1 : Int32)) → ((r16 < nI L → (wp_X6_best_88 Q (fun z1 z2 z3 z4 σ => wp_X6_best_34 Q (d + 1) z1 z2 z3 z4 σ) (nI k) (nI i) r16 (nI i) σ15)) ∧ (¬ (r16 < nI L) → (wp_X6_best_88 Q (fun z1 z2 z3 z4 σ => wp_X6_best_34 Q (d + 1) z1 z2 z3 z4 σ) (nI k) (nI (bs (bsF a k) i).1) (nI L) (nI i) σ15))))) := by
          intro v hv
          refine s_with hO.n mυ (by omega) (by omega) (fun ω kω => ?_)
          have hqk : qk (setP a i 1 v) = bsF a k i := by rw [hv]; rfl
          have hq41 : bsF a k i ≤ 41 := qk_le _
          rw [hqk]
          unfold tq
          have nx := ih (i + 1) (by omega) ω (kf.tr kω)
          rw [bs] at nx
          have same : ¬ bsF a k i < (bs (bsF a k) i).2 → wp_X6_best_88 Q (fun z1 z2 z3 z4 σ => wp_X6_best_34 Q (d + 1) z1 z2 z3 z4 σ) (nI k) (nI (bs (bsF a k) i).1) (nI L) (nI i) ω := by
            intro w x4 e4
            rw [nI_1] at e4
            subst e4
            rw [if_neg w] at nx
            exact nx L hL
          by_cases w41 : bsF a k i < 41
          · rw [if_pos w41]
            refine ⟨fun w => absurd w (nI_nm1 (by omega)), fun _ => ?_⟩
            refine pk_lt (bsF a k i) L (fun hlt => ?_) (fun hge => same (by intro w; split at hL <;> omega)) rfl rfl (by omega) (by split at hL <;> omega)
            have w : bsF a k i < (bs (bsF a k) i).2 := by split at hL <;> omega
            rw [if_pos w] at nx
            intro x4 e4
            rw [nI_1] at e4
            subst e4
            exact nx (bsF a k i) (by dsimp only; rw [if_neg (by omega)])
          · rw [if_neg w41]
            exact ⟨fun _ => same (by omega), fun w => absurd rfl w⟩
        unfold wp_X6_lesser
        refine pk_le (aP a i 1 + k) 300 (fun hle => fin _ (by omega)) (fun hgt => fin 300 (by omega)) rfl rfl (by omega) (by omega)
    exact ⟨_, key (aNP a) 0 (by omega) σ1 k1 99 (by rw [bs]; rfl)⟩
/-! the first of a row that holds -/
def FST (P : Nat → Prop) (B l : Nat) : Prop := l ≤ B ∧ (∀ j, j < l → ¬ P j) ∧ (l < B → P l)
theorem FST_ex (P : Nat → Prop) (B : Nat) : ∃ l, FST P B l := by
  by_cases h : ∃ t, t < B ∧ P t
  · obtain ⟨q, ⟨q1, q2⟩, q3⟩ := pk_least (fun t => t < B ∧ P t) h
    exact ⟨q, by omega, fun t ht hc => q3 t ht ⟨by omega, hc⟩, fun _ => q2⟩
  · exact ⟨B, Nat.le_refl _, fun t ht hc => h ⟨t, by omega, hc⟩, fun z => by omega⟩
noncomputable def fst1 (P : Nat → Prop) (B : Nat) : Nat := Classical.choose (FST_ex P B)
theorem fst1_is (P : Nat → Prop) (B : Nat) : FST P B (fst1 P B) := Classical.choose_spec (FST_ex P B)
theorem fst1_eq {P : Nat → Prop} {B l : Nat} (h : FST P B l) : fst1 P B = l := by
  obtain ⟨g1, g2, g3⟩ := fst1_is P B
  obtain ⟨h1, h2, h3⟩ := h
  rcases Nat.lt_trichotomy (fst1 P B) l with z | z | z
  · exact absurd (g3 (by omega)) (h2 _ z)
  · exact z
  · exact absurd (h3 (by omega)) (g2 _ z)
/-! latest -/
def ltP (a : AT) (p t : Nat) (j : Nat) : Prop := CAN (setP a p 2 (20 - j)) t
theorem can_setP2 {a : AT} {p v v' t : Nat} (h : CAN (setP a p 2 v) t) (hv : v' ≤ v) : CAN (setP a p 2 v') t :=
  h.mono (Nat.le_refl t) rfl rfl (fun i hi => by
    simp only [aP_setP]
    refine ⟨?_, ?_, ?_, ?_⟩ <;> (split <;> (try split) <;> omega)) (fun y hy => ⟨rfl, rfl, rfl, Nat.le_refl _⟩)
noncomputable def laA (x : Int32) (a : AT) : Int32 := if inp (nI (aNP a)) x = 0 then -2 else if qk a = 41 then -1 else nI (20 - fst1 (ltP a x.toNatClampNeg (qk a)) 21)
theorem L_latest {σ : Sg} (hI : INV σ) (p1 : Int32) {K : Sg → Prop} (hK : ∀ τ, INV τ → K τ) {C : Int32 → Sg → Prop} (hw : ∀ r1 σ1, wp_X6_latest σ1 p1 (fun r2 σ2 => (r1 = r2 → K σ2) ∧ (¬ (r1 = r2) → False)) → C r1 σ1) : wp_X5_latest σ p1 C := by
  refine L_ask hI (wpC := fun σ C => wp_X5_latest σ p1 C) (wpM := fun σ C => wp_X6_latest σ p1 C) (laA p1) (fun a hO τ hC Q h => ?_) (fun a hO τ hM Q h => ?_) hK hw
  · show wp_X5_latest τ p1 Q
    unfold wp_X5_latest
    have h8 := hO.1
    refine s_X3_hasPlace ?_
    rw [hC.1]
    refine ⟨fun z => ?_, fun z => s_soonest hO.n hC (qk_is a) (fun σ4 f4 => ?_)⟩
    · have := h τ (FC.rf τ) (TC.rf τ) hC
      unfold laA at this
      rwa [if_pos z] at this
    · obtain ⟨p, hp, rfl⟩ := inp_yes (by omega) z
      have hq := qk_le a
      have c4 := f4.rc hC
      obtain ⟨q0, q1, q2, q3⟩ := hO.2.2.2.1 p hp
      refine pk_eq (qk a) 41 (fun e => ?_) (fun e => s_X3_fact (w := 2) (by omega) (by decide) ?_) rfl rfl (by omega) (by omega)
      · have := h σ4 f4.fc f4.tc c4
        unfold laA at this
        rwa [if_neg z, if_pos e] at this
      · rw [c4.2.2.2.1 p hp 2 (by decide)]
        have fin : ∀ (υ : Sg) (v g : Nat), WF τ υ → RC υ (setP a p 2 v) → g ≤ 20 → CAN (setP a p 2 g) (qk a) → (∀ w, g < w → w ≤ 20 → ¬ CAN (setP a p 2 w) (qk a)) → wp_X5_latest_114 Q (nI p) (nI (aP a p 2)) (nI g) υ := by
          intro υ v g fυ rυ hg h1 h2
          unfold wp_X5_latest_114
          refine s_X3_change (w := 2) (by omega) (by decide) ?_
          have r13 := rυ.setP (p := p) (v := aP a p 2) hp (w := 2) (by decide) rfl
          rw [setP_setP, setP_self] at r13
          have f13 : WF τ (put υ 9 (4 * p + 2) (nI (aP a p 2))) := fυ.tr (WF_9 (fun k hk => put_o hk))
          have := h _ f13.fc f13.tc r13
          unfold laA at this
          rw [if_neg z, if_neg e, nI_clamp (n := p) (by omega), fst1_eq (P := ltP a p (qk a)) (B := 21) (l := 20 - g) ⟨by omega, fun j hj hc => h2 (20 - j) (by omega) (by omega) hc, fun _ => by unfold ltP; rw [show 20 - (20 - g) = g by omega]; exact h1⟩, show 20 - (20 - g) = g by omega] at this
          exact this
        have key : ∀ d n, n + d = 20 → ∀ (υ : Sg) (v g b : Nat), WF τ υ → RC υ (setP a p 2 v) → g < b → b ≤ 21 → b - g ≤ 21 - n → CAN (setP a p 2 g) (qk a) → (∀ w, b ≤ w → w ≤ 20 → ¬ CAN (setP a p 2 w) (qk a)) → wp_X5_latest_50 Q (d + 1) (nI p) (nI (qk a)) (nI (aP a p 2)) (nI g) (nI b) (nI n) υ := by
          intro d
          induction d with
          | zero =>
            intro n hn υ v g b fυ rυ hgb hb hd h1 h2
            rw [wp_X5_latest_50]
            exact ⟨fun _ => fin υ v g fυ rυ (by omega) h1 (fun w w1 w2 => h2 w (by omega) w2), fun q => absurd (nI_le (a := 20) (by omega) (by omega)) q⟩
          | succ d ih =>
            intro n hn υ v g b fυ rυ hgb hb hd h1 h2
            rw [wp_X5_latest_50]
            refine ⟨fun q => absurd q (nI_ge (b := 20) (by omega) (by omega)), fun _ => ?_⟩
            rw [pk_sub (by omega)]
            refine pk_le (b - g) 1 (fun hle => fin υ v g fυ rυ (by omega) h1 (fun w w1 w2 => h2 w (by omega) w2)) (fun hgt => ?_) rfl rfl (by omega) (by omega)
            intro x7 e7
            rw [nI_add, show (2 : Int32) = nI 2 from rfl, pk_div (by omega) (by decide) (by decide)] at e7
            subst e7
            refine s_X3_change (w := 2) (by omega) (by decide) ?_
            have r14 := rυ.setP (p := p) (v := (g + b) / 2) hp (w := 2) (by decide) rfl
            rw [setP_setP] at r14
            have o14 := hO.n.setP (p := p) (w := 2) (v := (g + b) / 2) (Or.inr ⟨rfl, by omega⟩)
            refine s_allSafeBy o14 (by omega) r14 (qk_is _) (fun σ16 f16 => ?_)
            have f : WF τ σ16 := (fυ.tr (WF_9 (fun k hk => put_o hk))).tr f16.wf
            have cc := (qk_is (setP a p 2 ((g + b) / 2))).can (t := qk a) (by omega)
            by_cases w : qk (setP a p 2 ((g + b) / 2)) ≤ qk a
            · rw [if_pos w]
              refine ⟨fun q => absurd q (by decide), fun _ x6 e6 => ?_⟩
              rw [nI_1] at e6
              subst e6
              exact ih (n + 1) (by omega) σ16 _ ((g + b) / 2) b f (f16.rc r14) (by omega) hb (by omega) (cc.mpr w) h2
            · rw [if_neg w]
              refine ⟨fun _ x6 e6 => ?_, fun q => absurd rfl q⟩
              rw [nI_1] at e6
              subst e6
              exact ih (n + 1) (by omega) σ16 _ g ((g + b) / 2) f (f16.rc r14) (by omega) (by omega) (by omega) h1 (fun u u1 u2 hc => w (cc.mp (can_setP2 hc u1)))
        exact ⟨_, key 20 0 (by omega) σ4 (aP a p 2) (aP a p 2) 21 f4.wf (by rw [setP_self]; exact c4) (by omega) (by omega) (by omega) (by rw [setP_self]; exact (qk_is a).2.2 (by omega)) (fun w w1 w2 => by omega)⟩
  · show wp_X6_latest τ p1 Q
    unfold wp_X6_latest
    have h8 := hO.1
    intro σ1 e1
    have k1 : KF τ σ1 := KF.t0 e1
    have hM1 : RM σ1 a := k1.rm hO.n hM
    refine s_X6_isPlace hM1.1 (by omega) ⟨fun z => ?_, fun z => s_quickestNow hO.n hM1 (qk_is a) (fun σ5 lf5 => ?_)⟩
    · have := h σ1 k1.1 k1.2.1 hM1
      unfold laA at this
      rwa [if_pos z] at this
    · obtain ⟨p, hp, rfl⟩ := inp_yes (by omega) z
      have hq := qk_le a
      have k5 := k1.tr lf5.kf
      have m5 := k5.rm hO.n hM
      obtain ⟨q0, q1, q2, q3⟩ := hO.2.2.2.1 p hp
      unfold tq
      by_cases e : qk a < 41
      · rw [if_pos e]
        refine ⟨fun w => absurd w (nI_nm1 (by omega)), fun _ => s_keep hO.n m5 (fun σ8 kp8 m8 => ?_)⟩
        rw [show (2 : Int32) = nI 2 from rfl, e_p, nI_clamp (n := 3 + 4 * p + 2) (by omega)]
        refine ⟨vp_in_nI (by omega) (by decide), fun σ10 e10 => ?_⟩
        have m10 := m8.setP (τ := σ10) (v := 20) h8 hp (w := 2) (by decide) (fun j => by rw [e10, put_at]; simp; rfl)
        have key : ∀ d v, v = aP a p 2 + d → v ≤ 20 → ∀ υ, KP σ5 υ → RM υ (setP a p 2 v) → (∀ w, v < w → w ≤ 20 → ¬ CAN (setP a p 2 w) (qk a)) → wp_X6_latest_48 Q (d + 1) (nI p) (nI (qk a)) (nI v) υ := by
          intro d
          induction d with
          | zero =>
            intro v hv hv2 υ kp rm hn
            have : v = aP a p 2 := by omega
            subst this
            rw [wp_X6_latest_48]
            have hc : CAN a (qk a) := (qk_is a).2.2 (by omega)
            rw [setP_self] at rm
            refine s_can hO.n (by omega) rm (qk_is a) (fun ω lf => ?_)
            rw [if_pos (Nat.le_refl _)]
            refine ⟨fun w => absurd w (by decide), fun _ => s_cb (kp.lf lf) (fun ξ kξ => ?_)⟩
            have kk := k5.tr kξ
            have := h ξ kk.1 kk.2.1 (kk.rm hO.n hM)
            unfold laA at this
            rw [if_neg z, if_neg (by omega), nI_clamp (n := p) (by omega), fst1_eq (P := ltP a p (qk a)) (B := 21) (l := 20 - aP a p 2) ⟨by omega, fun j hj hc => hn (20 - j) (by omega) (by omega) hc, fun _ => by unfold ltP; rw [show 20 - (20 - aP a p 2) = aP a p 2 by omega, setP_self]; exact hc⟩, show 20 - (20 - aP a p 2) = aP a p 2 by omega] at this
            exact this
          | succ d ih =>
            intro v hv hv2 υ kp rm hn
            rw [wp_X6_latest_48]
            have ov := hO.n.setP (p := p) (w := 2) (v := v) (Or.inr ⟨rfl, hv2⟩)
            have cc := (qk_is (setP a p 2 v)).can (t := qk a) (by omega)
            refine s_can ov (by omega) rm (qk_is _) (fun ω lf => ?_)
            by_cases w : qk (setP a p 2 v) ≤ qk a
            · rw [if_pos w]
              refine ⟨fun w => absurd w (by decide), fun _ => s_cb (kp.lf lf) (fun ξ kξ => ?_)⟩
              have kk := k5.tr kξ
              have := h ξ kk.1 kk.2.1 (kk.rm hO.n hM)
              unfold laA at this
              rw [if_neg z, if_neg (by omega), nI_clamp (n := p) (by omega), fst1_eq (P := ltP a p (qk a)) (B := 21) (l := 20 - v) ⟨by omega, fun j hj hc => hn (20 - j) (by omega) (by omega) hc, fun _ => by unfold ltP; rw [show 20 - (20 - v) = v by omega]; exact cc.mpr w⟩, show 20 - (20 - v) = v by omega] at this
              exact this
            · rw [if_neg w]
              refine ⟨fun _ x3 e3 => ?_, fun q => absurd rfl q⟩
              obtain ⟨v', rfl⟩ : ∃ v', v = v' + 1 := ⟨v - 1, by omega⟩
              rw [pk_m1] at e3
              subst e3
              rw [show (2 : Int32) = nI 2 from rfl, e_p, nI_clamp (n := 3 + 4 * p + 2) (by omega)]
              refine ⟨vp_in_nI (by omega) (by decide), fun σ17 e17 => ?_⟩
              have m17 := (lf.rm rm).setP (τ := σ17) (v := v') h8 (p := p) hp (w := 2) (by decide) (fun j => by rw [e17, put_at]; simp)
              rw [setP_setP] at m17
              refine ih v' (by omega) (by omega) σ17 ((kp.lf lf).p31 (fun k hk => by rw [e17, put_o hk])) m17 (fun u u1 u2 hc => ?_)
              by_cases q : u = v' + 1
              · subst q; exact w (cc.mp hc)
              · exact hn u (by omega) u2 hc
        exact ⟨_, key (20 - aP a p 2) 20 (by omega) (by omega) σ10 (kp8.p31 (fun k hk => by rw [e10, put_o hk])) m10 (fun w w1 w2 => by omega)⟩
      · rw [if_neg e]
        refine ⟨fun _ => ?_, fun w => absurd rfl w⟩
        have := h σ5 k5.1 k5.2.1 m5
        unfold laA at this
        rwa [if_neg z, if_pos (by omega)] at this
