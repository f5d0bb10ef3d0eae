theorem tI_tI (T : Nat → Int32) (n b : Nat) : tI T n (tI T n b) = tI T n b := sc_no (sc_all (cW_b T n) _ b rfl).2.2.1
theorem J_st {T : Nat → Int32} {n : Nat} {a : AT} {i : Nat} {σ0 σ : Sg} {Q : Sg → Prop} (hT : ∀ j, j < n → (T j).toInt8.toInt32 = T j) (hO : OKT a) (hi : tI T n i = i) (hc : MT T n a i σ0 σ) (hA : ANM T n σ0 Q (stS T n a i)) : wp_X6_statement σ Q := by
  have h12 := hO.2.1
  have h8 := hO.1
  have h40 := hO.2.2.1
  unfold wp_X6_statement
  refine s_word hc.1 ?_
  rw [hi]
  obtain ⟨mb, rm, m5, mk⟩ := hc
  have hin := mb.2.2.2.2
  have h400 := mb.1
  intro τ k c e5 e8
  rw [m5] at e5
  have w0 := word_eq (T := T) (w := 0) hin (by decide)
  have w1 := word_eq (T := T) (w := 1) hin (by decide)
  have w2 := word_eq (T := T) (w := 2) hin (by decide)
  have w3 := word_eq (T := T) (w := 3) hin (by decide)
  rw [show nI (cdW.getD 0 0) = (((((16 : Int32) * 32 + 12) * 32 + 1) * 32 + 3) * 32 + 5) by decide] at w0
  rw [show nI (cdW.getD 1 0) = (((((0 : Int32) * 32 + 18) * 32 + 15) * 32 + 1) * 32 + 4) by decide] at w1
  rw [show nI (cdW.getD 2 0) = (((((0 : Int32) * 32 + 20) * 32 + 21) * 32 + 18) * 32 + 14) by decide] at w2
  rw [show nI (cdW.getD 3 0) = (((((0 : Int32) * 32 + 13) * 32 + 15) * 32 + 22) * 32 + 5) by decide] at w3
  have ct : ∀ w, isW T n i w → MT T n a (tEi T n i) σ0 τ := fun w hw => ⟨by rw [← isW_E hw]; exact c, rm.k k, e5, mk.k k⟩
  have rm' := rm.k k
  have full : ∀ υ, υ = put τ 30 5 (3 + 8 * τ 30 8) → stS T n a i = (3 + 8 * i, a, 0) → ¬ υ 30 5 = 0 ∧ Q υ := by
    intro υ eυ est
    have kυ : K30 τ υ := by rw [eυ]; exact K30_p _ _ (by decide)
    have r5 : υ 30 5 = nI (3 + 8 * i) := by rw [eυ, put_s, e8]; exact e_8 3 _
    rw [est] at hA
    exact ⟨by rw [r5]; exact nI_ne0 (by omega) (by omega), hA.1 (by show ¬ 3 + 8 * i = 0; omega) υ ⟨r5, (mk.k k).k kυ⟩⟩
  refine ⟨fun g => ?_, fun g => ⟨fun g1 => ?_, fun g1 => ⟨fun g2 => ?_, fun g2 => ⟨fun g3 => ?_, fun g3 => ?_⟩⟩⟩⟩
  · have g' := w0.mp g
    unfold wp_X6_placeTold
    refine s_X6_places ?_
    rw [rm'.1]
    refine pk_eq (aNP a) 8 (fun q => s_fails0 e5 (fun υ eυ => ?_)) (fun q => ?_) rfl rfl (by omega) (by omega)
    · obtain ⟨n5, hq⟩ := full υ eυ (by unfold stS; rw [if_pos g', if_neg (by omega)])
      exact J_placeF n5 hq
    · refine J_place hT h12 (ct 0 g') (by omega) ?_
      unfold stS at hA
      rw [if_pos g', if_pos (by omega)] at hA
      exact hA
  · have g' := w1.mp g1
    have n0 : ¬ isW T n i 0 := fun z => g (w0.mpr z)
    unfold wp_X6_roadTold
    refine s_X6_roads ?_
    rw [rm'.2.1]
    refine pk_eq (aNR a) 12 (fun q => s_fails0 e5 (fun υ eυ => ?_)) (fun q => ?_) rfl rfl (by omega) (by omega)
    · obtain ⟨n5, hq⟩ := full υ eυ (by unfold stS; rw [if_neg n0, if_pos g', if_neg (by omega)])
      exact J_roadF n5 hq
    · refine J_road hT h8 (ct 1 g') (by omega) ?_
      unfold stS at hA
      rw [if_neg n0, if_pos g', if_pos (by omega)] at hA
      exact hA
  · have g' := w2.mp g2
    have n0 : ¬ isW T n i 0 := fun z => g (w0.mpr z)
    have n1 : ¬ isW T n i 1 := fun z => g1 (w1.mpr z)
    refine J_turn hT hO (ct 2 g') ?_
    unfold stS at hA
    rw [if_neg n0, if_neg n1, if_pos g'] at hA
    exact hA
  · have g' := w3.mp g3
    have n0 : ¬ isW T n i 0 := fun z => g (w0.mpr z)
    have n1 : ¬ isW T n i 1 := fun z => g1 (w1.mpr z)
    have n2 : ¬ isW T n i 2 := fun z => g2 (w2.mpr z)
    unfold wp_X6_moveTold
    refine s_X6_moves ?_
    rw [rm'.2.2.1]
    refine pk_eq (aNM a) 40 (fun q => s_fails0 e5 (fun υ eυ => ?_)) (fun q => ?_) rfl rfl (by omega) (by omega)
    · obtain ⟨n5, hq⟩ := full υ eυ (by unfold stS; rw [if_neg n0, if_neg n1, if_neg n2, if_pos g', if_neg (by omega)])
      exact s_numbr_n n5 (s_X6_roads (s_numbr_n n5 ⟨fun z => absurd z n5, fun _ => hq⟩))
    · refine J_move hT hO (ct 3 g') (by omega) ?_
      unfold stS at hA
      rw [if_neg n0, if_neg n1, if_neg n2, if_pos g', if_pos (by omega)] at hA
      exact hA
  · have n0 : ¬ isW T n i 0 := fun z => g (w0.mpr z)
    have n1 : ¬ isW T n i 1 := fun z => g1 (w1.mpr z)
    have n2 : ¬ isW T n i 2 := fun z => g2 (w2.mpr z)
    have n3 : ¬ isW T n i 3 := fun z => g3 (w3.mpr z)
    refine s_fails0 e5 (fun υ eυ => ?_)
    have kυ : K30 τ υ := by rw [eυ]; exact K30_p _ _ (by decide)
    have r5 : υ 30 5 = nI (1 + 8 * i) := by rw [eυ, put_s, e8]; exact e_8 1 _
    unfold stS at hA
    rw [if_neg n0, if_neg n1, if_neg n2, if_neg n3] at hA
    exact hA.1 (by show ¬ 1 + 8 * i = 0; omega) υ ⟨r5, (mk.k k).k kυ⟩
theorem M_tell {T : Nat → Int32} {n : Nat} {a0 : AT} {σ : Sg} {Q : Int32 → Sg → Prop} (hTb : ∀ j, j < n → (T j).toInt8.toInt32 = T j) (hO : OKT a0) (hM : RM σ a0) (hn : n ≤ 400) (hT : ∀ j, j < n → σ 33 j = T j) (h0 : σ 30 4 = nI n)
    (hg : (tlS T n n a0 0 0).1 = 0 → ∀ τ, RM τ (tlS T n n a0 0 0).2.1 → FM σ τ → τ 30 4 = 0 → τ 30 5 = 0 → Q (nI (tlS T n n a0 0 0).2.2) τ)
    (hb : ¬ (tlS T n n a0 0 0).1 = 0 → ∀ τ, RM τ a0 → FM σ τ → τ 30 4 = 0 → τ 30 5 = nI (tlS T n n a0 0 0).1 → Q (-1) τ) : wp_X6_tell σ Q := by
  intro σ1 e1 σ2 e2 σ3 e3 σ4 e4 σ5 e5
  have k5 : ∀ k, k ≠ 30 → σ5 k = σ k := fun k hk => by rw [e5, put_o hk, e4, put_o hk, e3, put_o hk, e2, put_o hk, e1, put_o hk]
  have g5 : ∀ j, σ5 30 j = if j = 7 then 0 else if j = 5 then 0 else if j = 4 then 0 else if j = 6 then σ 30 4 else if j = 0 then 0 else σ 30 j := by
    intro j
    rw [e5, e4, e3, e2, e1]
    simp only [put_at]
    simp
  refine s_keeps (fun σ6 k6 s6 => ?_)
  have f6 : FM σ σ6 := fun k hk => by rw [k6 k (by omega), k5 k (by omega)]
  have h31 : σ6 31 = σ 31 := by rw [k6 31 (by decide), k5 31 (by decide)]
  have g6 : ∀ j, σ6 30 j = σ5 30 j := fun j => by rw [k6 30 (by decide)]
  have mt0 : MT T n a0 0 σ6 σ6 := by
    refine ⟨⟨hn, fun j hj => by rw [k6 33 (by decide), k5 33 (by decide)]; exact hT j hj, ?_, ?_, Nat.zero_le _⟩, hM.keep h31, ?_, FM.rf _, rfl, rfl⟩
    · rw [g6, g5]; simp; exact h0
    · rw [g6, g5]; rfl
    · rw [g6, g5]; rfl
  have s32 : ∀ j, j < 256 → σ6 32 j = σ 31 j := fun j hj => by rw [s6 j hj, k5 31 (by decide)]
  have q4 : σ6 30 4 = 0 := by rw [g6, g5]; rfl
  have k94 : ∀ c τ, (tlS T n n a0 0 0).1 = 0 → (tlS T n n a0 0 0).2.2 = c → RM τ (tlS T n n a0 0 0).2.1 → τ 30 5 = 0 → MK σ6 τ → wp_X6_tell_94 Q (nI c) τ := by
    intro c τ g ec rc e5' mk
    refine ⟨fun _ => ?_, fun z => absurd e5' z⟩
    have := hg g τ rc (f6.tr mk.1) (by rw [mk.2.2, q4]) e5'
    rw [ec] at this
    exact this
  have kbad : ∀ c τ, ¬ (tlS T n n a0 0 0).1 = 0 → (tlS T n n a0 0 0).1 ≤ 3 + 8 * n → MF (tlS T n n a0 0 0).1 σ6 τ → wp_X6_tell_94 Q c τ := by
    intro c τ g gb mf
    obtain ⟨m5, mk⟩ := mf
    refine ⟨fun z => absurd (m5.symm.trans z) (nI_ne0 (by omega) (by omega)), fun _ => s_comesBack (fun υ kυ sυ => ?_)⟩
    refine hb g υ (RM_eq hM hO.1 hO.2.1 hO.2.2.1 (fun j hj => by rw [sυ j hj, mk.2.1, s32 j hj])) ((f6.tr mk.1).tr (fun k hk => kυ k (by omega))) (by rw [kυ 30 (by decide), mk.2.2, q4]) (by rw [kυ 30 (by decide)]; exact m5)
  have key : ∀ k a b c τ, n ≤ b + k → b ≤ n → OKT a → tlS T n n a0 0 0 = tlS T n k a b c → MT T n a b σ6 τ → wp_X6_tell_34 Q (k + 2) (nI c) τ := by
    intro k
    induction k with
    | zero =>
      intro a b c τ hk hbn oa eq mt
      rw [wp_X6_tell_34]
      refine ⟨fun _ => s_here mt.1 (fun υ ku cu e5' e8' => ?_), fun z => absurd mt.2.2.1 z⟩
      have hbi := tI_p T n b
      rw [if_neg (by omega)]
      exact ⟨fun _ => k94 c υ (by rw [eq]; rfl) (by rw [eq]; rfl) (by rw [eq]; exact mt.2.1.k ku) (by rw [e5']; exact mt.2.2.1) (mt.2.2.2.k ku), fun z => absurd rfl z⟩
    | succ k ih =>
      intro a b c τ hk hbn oa eq mt
      rw [wp_X6_tell_34]
      have hbi := tI_p T n b
      have hi := hbi.2 hbn
      refine ⟨fun _ => s_here mt.1 (fun υ ku cu e5' e8' => ?_), fun z => absurd mt.2.2.1 z⟩
      rw [mt.2.2.1] at e5'
      have mu : MT T n a (tI T n b) σ6 υ := ⟨cu, mt.2.1.k ku, e5', mt.2.2.2.k ku⟩
      by_cases hin : n ≤ tI T n b
      · rw [if_neg (by omega)]
        have e2' : tlS T n (k + 1) a b c = (0, a, c) := by rw [tlS, if_pos hin]
        rw [e2'] at eq
        exact ⟨fun _ => k94 c υ (by rw [eq]) (by rw [eq]) (by rw [eq]; exact mu.2.1) e5' mu.2.2.2, fun z => absurd rfl z⟩
      · rw [if_pos (by omega)]
        have hb1 := (byt_and (hTb (tI T n b) (by omega)) (c := 59) (by decide)).2
        refine ⟨fun z => absurd z hb1, fun _ => ?_⟩
        have e2' : tlS T n (k + 1) a b c = if (smS T n a (tI T n b)).1 = 0 then tlS T n k (smS T n a (tI T n b)).2.1 (smS T n a (tI T n b)).2.2 (c + 1) else ((smS T n a (tI T n b)).1, a, c) := by rw [tlS, if_neg hin]
        have fsm := F_sm (T := T) oa hi
        have gsm := G_sm (T := T) oa hi
        -- a fault: the loop ends at its next head
        have bad : ¬ (smS T n a (tI T n b)).1 = 0 → ∀ ω, MF (smS T n a (tI T n b)).1 σ6 ω → wp_X6_tell_78 Q (fun z1 σ => wp_X6_tell_34 Q (k + 2) z1 σ) (nI c) ω := by
          intro z ω mf σ18 e18 x1 ex1
          rw [if_neg z] at e2'
          rw [e2'] at eq
          have e3' : (tlS T n n a0 0 0).1 = (smS T n a (tI T n b)).1 := by rw [eq]
          have k18 : K30 ω σ18 := by rw [e18]; exact K30_p _ _ (by decide)
          have r5 : σ18 30 5 = nI (smS T n a (tI T n b)).1 := by rw [e18, put_n (by decide)]; exact mf.1
          rw [wp_X6_tell_34]
          refine ⟨fun y => absurd (r5.symm.trans y) (nI_ne0 (by omega) (by omega)), fun _ => kbad x1 σ18 (by rw [e3']; exact z) (by rw [e3']; exact fsm) ?_⟩
          rw [e3']
          exact ⟨r5, mf.2.k k18⟩
        have hst := G_st (T := T) oa hi
        refine J_st hTb oa (tI_tI T n b) mu ⟨fun z ω mf => ?_, fun z ω mw => ?_⟩
        · have es : (smS T n a (tI T n b)).1 = (stS T n a (tI T n b)).1 := by unfold smS; rw [if_neg z]
          rw [es] at bad
          have n5 : ¬ ω 30 5 = 0 := by
            rw [mf.1]; exact nI_ne0 (by omega) (by have := F_st (T := T) (a := a) hi; omega)
          exact ⟨fun y => absurd y n5, fun _ => bad z ω mf⟩
        · refine ⟨fun _ => s_here mw.1 (fun ψ kψ cψ f5 f8 => ?_), fun y => absurd mw.2.2.1 y⟩
          have sm : smS T n a (tI T n b) = (if tI T n (stS T n a (tI T n b)).2.2 < n ∧ T (tI T n (stS T n a (tI T n b)).2.2) = 59 then (0, (stS T n a (tI T n b)).2.1, tI T n (stS T n a (tI T n b)).2.2 + 1) else (1 + 8 * tI T n (stS T n a (tI T n b)).2.2, a, 0)) := by unfold smS; rw [if_pos z]
          rw [mw.2.2.1] at f5
          generalize smS T n a (tI T n b) = r at *
          generalize stS T n a (tI T n b) = q at *
          have hj := cψ.2.2.2.2
          generalize tI T n q.2.2 = j at *
          have no : ¬ (j < n ∧ T j = 59) → wp_X6_fails ψ 1 (ψ 30 7) (fun σ23 => wp_X6_tell_78 Q (fun z1 σ => wp_X6_tell_34 Q (k + 2) z1 σ) (nI c) σ23) := by
            intro y
            rw [if_neg y] at sm
            refine s_fails0 f5 (fun χ eχ => ?_)
            have kχ : K30 ψ χ := by rw [eχ]; exact K30_p _ _ (by decide)
            have r5 : χ 30 5 = nI (1 + 8 * j) := by rw [eχ, put_s, cψ.2.2.2.1]; exact e_8 1 _
            rw [sm] at bad
            exact bad (by show ¬ 1 + 8 * j = 0; omega) χ ⟨r5, (mw.2.2.2.k kψ).k kχ⟩
          have yes : (j < n ∧ T j = 59) → wp_X6_tell_78 Q (fun z1 σ => wp_X6_tell_34 Q (k + 2) z1 σ) (nI c) ψ := by
            intro y σ18 e18 x1 ex1
            rw [if_pos y] at sm
            rw [nI_1] at ex1
            subst ex1
            rw [cψ.2.2.2.1, nI_1] at e18
            have k18 : K30 ψ σ18 := by rw [e18]; exact K30_p _ _ (by decide)
            have r0 : r.1 = 0 := by rw [sm]
            rw [if_pos r0] at e2'
            obtain ⟨y1, y2, y3, y4⟩ := gsm r0
            have r2 : r.2.2 = j + 1 := by rw [sm]
            have r1 : r.2.1 = q.2.1 := by rw [sm]
            refine ih r.2.1 r.2.2 (c + 1) σ18 (by omega) y2 y3 (eq.trans e2') ?_
            rw [r2, r1]
            exact ⟨cψ.keep k18 (by rw [e18, put_s]) (by omega), (mw.2.1.k kψ).k k18, by rw [e18, put_n (by decide)]; exact f5, (mw.2.2.2.k kψ).k k18⟩
          by_cases hjn : j < n
          · rw [if_pos hjn]
            have hb59 := (byt_and (hTb j hjn) (c := 59) (by decide)).1
            exact ⟨fun y => yes ⟨hjn, hb59.mp y⟩, fun y => no (fun w => y (hb59.mpr w.2))⟩
          · rw [if_neg hjn]
            exact ⟨fun y => absurd y (by decide), fun _ => no (fun w => hjn w.1)⟩
  exact ⟨n + 2, key n a0 0 0 σ6 (by omega) (Nat.zero_le _) hO rfl mt0⟩
theorem L_tell {σ : Sg} (hI : INV σ) {K : Sg → Prop} (hK : ∀ τ, INV τ → K τ) {C : Int32 → Sg → Prop} (hw : ∀ r1 σ1, wp_X6_tell σ1 (fun r2 σ2 => (r1 = r2 → K σ2) ∧ (¬ (r1 = r2) → False)) → C r1 σ1) : wp_X5_tell σ C := by
  obtain ⟨a, nt, tp, ft, h0, h1, h2, h3⟩ := hI
  obtain ⟨t1, t2, t3, t4, t5, t6⟩ := h3
  have oR : (tlS tp nt nt a 0 0).1 = 0 → OKT (tlS tp nt nt a 0 0).2.1 := by
    have : ∀ k a b c, b ≤ nt → OKT a → OKT (tlS tp nt k a b c).2.1 := by
      intro k
      induction k with
      | zero => intro a b c _ oa; exact oa
      | succ k ih =>
        intro a b c hb oa
        rw [tlS]
        split
        · exact oa
        · split
          · rename_i z
            obtain ⟨g1, g2, g3, g4⟩ := G_sm (T := tp) oa ((tI_p tp nt b).2 hb) z
            exact ih _ _ _ g2 g3
          · exact oa
    exact fun _ => this nt a 0 0 (Nat.zero_le _) h0
  have fin : ∀ (r : Int32) (a' : AT) (f : Int32) (τ υ : Sg), OKT a' → RC τ a' → FC σ τ → τ 3 0 = 0 → τ 3 1 = f → RM υ a' → FM τ υ → υ 30 4 = 0 → υ 30 5 = f → (r = r → K υ) ∧ (¬ (r = r) → False) := by
    intro r a' f τ υ oa rc fc e0 e1 rm fm e4 e5
    refine ⟨fun _ => hK υ ⟨a', 0, tp, f, oa, rc.fm fm, rm, by omega, ?_, e4, fun j hj => by omega, ?_, e5⟩, fun z => z rfl⟩
    · rw [fm 3 (by decide)]; exact e0
    · rw [fm 3 (by decide)]; exact e1
  have hm : ∀ τ, FC σ τ → RM τ a ∧ (∀ j, j < nt → τ 33 j = tp j) ∧ τ 30 4 = nI nt := fun τ fc => ⟨h2.fc fc, fun j hj => by rw [fc 33 (by decide)]; exact (t4 j hj).2.1, by rw [fc 30 (by decide)]; exact t3⟩
  have hTb : ∀ j, j < nt → (tp j).toInt8.toInt32 = tp j := fun j hj => (t4 j hj).2.2
  refine C_tell (T := tp) h0 h1 t1 (fun j hj => (t4 j hj).1) t2 (fun g τ rc fc e0 e1 => hw _ _ ?_) (fun g τ rc fc e0 e1 => hw _ _ ?_)
  · obtain ⟨m1, m2, m3⟩ := hm τ fc
    exact M_tell hTb h0 m1 t1 m2 m3 (fun _ υ rm fm e4 e5 => fin _ _ 0 τ υ (oR g) rc fc e0 e1 rm fm e4 e5) (fun z => absurd g z)
  · obtain ⟨m1, m2, m3⟩ := hm τ fc
    exact M_tell hTb h0 m1 t1 m2 m3 (fun z => absurd z g) (fun _ υ rm fm e4 e5 => fin _ _ _ τ υ h0 rc fc e0 e1 rm fm e4 e5)
