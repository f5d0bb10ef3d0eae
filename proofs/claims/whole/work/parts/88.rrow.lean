/-! the reference's rows of turns; turns -/
theorem tD_set (b : AT) (r d : Nat) (hd : d ≠ 0) : setR (setR b r 3 (if d = 1 then aR b r 3 + aR b r 4 else 0)) r 4 (if d = 1 then 0 else aR b r 3 + aR b r 4) = tD b r d := by
  unfold tD
  rw [if_neg hd]
  have e3 : (if d = 1 then aR b r 3 + aR b r 4 else 0) = ((aR b r 3 : Int) + tk b r d).toNat := by
    unfold tk
    rw [if_neg hd]
    split <;> omega
  have e4 : (if d = 1 then 0 else aR b r 3 + aR b r 4) = ((aR b r 4 : Int) - tk b r d).toNat := by
    unfold tk
    rw [if_neg hd]
    split <;> omega
  rw [e3, e4]
  rfl
theorem s_lanes {b : AT} {σ : Sg} {r x y : Nat} {Q : Sg → Prop} (h8 : aNP b ≤ 8) (h12 : aNR b ≤ 12) (hM : RM σ b) (hr : r < aNR b) (h : ∀ τ, (∀ k, k ≠ 31 → τ k = σ k) → RM τ (setR (setR b r 3 x) r 4 y) → Q τ) : wp_X6_lanes σ (nI r) (nI x) (nI y) Q := by
  unfold wp_X6_lanes
  rw [show (3 : Int32) = nI 3 from rfl, show (4 : Int32) = nI 4 from rfl, e_r, e_r, nI_clamp (n := 35 + 5 * r + 3) (by omega), nI_clamp (n := 35 + 5 * r + 4) (by omega)]
  refine ⟨vp_in_nI (by omega) (by decide), fun σ6 e6 => ⟨vp_in_nI (by omega) (by decide), fun σ7 e7 => ?_⟩⟩
  have m6 : RM σ6 (setR b r 3 x) := hM.setR h8 h12 hr (by decide) (fun j => by rw [e6, put_at]; simp)
  have m7 : RM σ7 (setR (setR b r 3 x) r 4 y) := m6.setR h8 h12 hr (by decide) (fun j => by rw [e7, put_at]; simp)
  exact h σ7 (fun k hk => by rw [e7, put_o hk, e6, put_o hk]) m7
theorem s_laysRow {a : AT} {σ : Sg} {s row does : Nat} {Q : Int32 → Sg → Prop} (hO : OKT a) (hM : RM σ a) (hs : s < 2 ^ aNR a) (hrow : row < 100) (hd2 : does < 2)
    (h : ∀ τ, (∀ k, k ≠ 31 → τ k = σ k) → RM τ (if does = 0 then a else lr s 12 row a) → Q (nI (nz row (cb s 12))) τ) : wp_X6_laysRow σ (nI s) (nI row) (nI does) Q := by
  have h8 := hO.1
  have h12 := hO.2.1
  have hs4 : s < 4096 := Nat.lt_of_lt_of_le hs (Nat.pow_le_pow_right (n := 2) (by decide) h12)
  have key : ∀ n, n ≤ 12 → ∀ (rest m : Nat) (b : AT) (τ : Sg), rest < 100 → m ≤ 12 → m + nz rest (cb s n) = nz row (cb s 12) → (∀ k, k ≠ 31 → τ k = σ k) → RM τ b → OKT b → LQ a b → (if does = 0 then b = a else lr s n rest b = lr s 12 row a) → wp_X6_laysRow_10 Q (n + 1) (nI s) (nI does) (nI rest) (nI m) (nI n + (-1)) τ := by
    intro n
    induction n with
    | zero =>
      intro _ rest m b τ hr hm hnz f rm ok lq hlr
      rw [wp_X6_laysRow_10]
      refine ⟨fun _ => ?_, fun z => absurd (by decide) z⟩
      have e : m = nz row (cb s 12) := by rw [← hnz]; simp [cb, nz]
      rw [e]
      refine h τ f ?_
      by_cases z : does = 0
      · rw [if_pos z] at hlr ⊢
        rw [← hlr]; exact rm
      · rw [if_neg z] at hlr ⊢
        rw [lr] at hlr
        rw [← hlr]; exact rm
    | succ n ih =>
      intro hn rest m b τ hr hm hnz f rm ok lq hlr
      have hb := bt_lt s n
      have n12 := nz_le (cb s 12) row
      have c12 := cb_le s 12
      rw [pk_m1, wp_X6_laysRow_10, bit_ok hs4 (by omega)]
      refine ⟨fun z => absurd z (nI_pos (by omega)), fun _ => ?_⟩
      have skip : ∀ (rest' m' : Nat) (b' : AT) (υ : Sg), rest' < 100 → m' ≤ 12 → m' + nz rest' (cb s n) = nz row (cb s 12) → (∀ k, k ≠ 31 → υ k = σ k) → RM υ b' → OKT b' → LQ a b' → (if does = 0 then b' = a else lr s n rest' b' = lr s 12 row a) → wp_X6_laysRow_110 Q (fun z1 z3 z4 z5 z6 σ => wp_X6_laysRow_10 Q (n + 1) z1 z3 z4 z5 z6 σ) (nI s) (nI does) (nI rest') (nI m') (nI n) υ := by
        intro rest' m' b' υ g1 g2 g3 g4 g5 g6 g7 g8 x6 e6
        subst e6
        exact ih (by omega) rest' m' b' υ g1 g2 g3 g4 g5 g6 g7 g8
      refine pk_eq (bt s n) 0 (fun hz => ?_) (fun hz => ?_) rfl rfl (by omega) (by omega)
      · refine skip rest m b τ hr hm ?_ f rm ok lq ?_
        · rw [cb, hz, Nat.add_zero] at hnz; exact hnz
        · by_cases z : does = 0
          · rw [if_pos z] at hlr ⊢; exact hlr
          · rw [if_neg z] at hlr ⊢
            rw [lr, if_neg (by omega)] at hlr
            exact hlr
      · have h1 : bt s n = 1 := by omega
        have hrn : n < aNR a := by
          rcases Nat.lt_or_ge n (aNR a) with z | z
          · exact z
          · rw [bt_hi hs z] at h1; cases h1
        have hrb : n < aNR b := by rw [lq.nr]; exact hrn
        have l3 := ok.lane hrb (c := 0) (by decide)
        have l4 := ok.lane hrb (c := 1) (by decide)
        rw [show (3 + 0 : Nat) = 3 from rfl] at l3
        rw [show (3 + 1 : Nat) = 4 from rfl] at l4
        rw [cb, h1, nz] at hnz
        intro x7 e7 x4 e4
        rw [show (3 : Int32) = nI 3 from rfl, pk_rem (by omega) (by decide) (by decide)] at e7
        rw [show (3 : Int32) = nI 3 from rfl, pk_div (by omega) (by decide) (by decide)] at e4
        subst e7
        subst e4
        have hdig : rest % 3 < 3 := Nat.mod_lt _ (by decide)
        have go : ∀ y1 : Nat, y1 = (if rest % 3 = 0 then 0 else 1) → wp_X6_laysRow_51 Q (fun z1 z3 z4 z5 z6 σ => wp_X6_laysRow_10 Q (n + 1) z1 z3 z4 z5 z6 σ) (nI s) (nI does) (nI (rest / 3)) (nI n) (nI (rest % 3)) (nI m) (nI y1) τ := by
          intro y1 hy1
          have hm' : m + y1 + nz (rest / 3) (cb s n) = nz row (cb s 12) := by rw [hy1]; omega
          unfold wp_X6_laysRow_51
          intro x5 e5
          rw [nI_add] at e5
          subst e5
          refine s_X6_ofRoad (w := 3) (by omega) (by decide) (s_X6_ofRoad (w := 4) (by omega) (by decide) ?_)
          rw [rm.2.2.2.2.1 n hrb 3 (by decide), rm.2.2.2.2.1 n hrb 4 (by decide), nI_add]
          intro x8 e8
          subst e8
          refine pk_eq does 0 (fun z => ?_) (fun z => ?_) rfl rfl (by omega) (by omega)
          · refine skip (rest / 3) (m + y1) b τ (by omega) (by omega) hm' f rm ok lq ?_
            rw [if_pos z] at hlr ⊢; exact hlr
          · rw [if_neg z, lr, if_pos h1] at hlr
            refine pk_le (rest % 3) 0 (fun z0 => ?_) (fun z0 => ?_) rfl rfl (by omega) (by omega)
            · refine skip (rest / 3) (m + y1) b τ (by omega) (by omega) hm' f rm ok lq ?_
              rw [if_neg z]
              have : tD b n (rest % 3) = b := by unfold tD; rw [if_pos (by omega)]
              rwa [this] at hlr
            · have td := tD_set b n (rest % 3) (by omega)
              refine pk_eq (rest % 3) 1 (fun z1 => ?_) (fun z1 => ?_) rfl rfl (by omega) (by omega)
              · refine ⟨fun _ => ?_, fun w => absurd (by rw [z1]; rfl) w⟩
                rw [if_pos z1, if_pos z1] at td
                unfold wp_X6_laysRow_107
                refine s_lanes (y := 0) (by rw [lq.np]; exact h8) (by rw [lq.nr]; exact h12) rm hrb (fun υ fυ rυ => ?_)
                rw [td] at rυ
                refine skip (rest / 3) (m + y1) _ υ (by omega) (by omega) hm' (fun k hk => by rw [fυ k hk, f k hk]) rυ (tD_ok ok _ _) (lq.td _ _) ?_
                rw [if_neg z]; exact hlr
              · refine ⟨fun w => absurd ((nI_eq (a := rest % 3) (b := 1) (by omega) (by omega)).mp w) z1, fun _ => ?_⟩
                rw [if_neg z1, if_neg z1] at td
                unfold wp_X6_laysRow_107
                refine s_lanes (x := 0) (by rw [lq.np]; exact h8) (by rw [lq.nr]; exact h12) rm hrb (fun υ fυ rυ => ?_)
                rw [td] at rυ
                refine skip (rest / 3) (m + y1) _ υ (by omega) (by omega) hm' (fun k hk => by rw [fυ k hk, f k hk]) rυ (tD_ok ok _ _) (lq.td _ _) ?_
                rw [if_neg z]; exact hlr
        refine pk_le (rest % 3) 0 (fun z0 => ?_) (fun z0 => ?_) rfl rfl (by omega) (by omega)
        · exact go 0 (by rw [if_pos (by omega)])
        · exact go 1 (by rw [if_neg (by omega)])
  unfold wp_X6_laysRow
  refine ⟨13, key 12 (Nat.le_refl _) row 0 a σ hrow (by omega) (by omega) (fun _ _ => rfl) hM hO (LQ.rf a) ?_⟩
  split <;> rfl
theorem s_turns_92 {a : AT} {σ : Sg} {s many : Nat} {x2 : Int32} {u0 : Nat × Nat} {Q : Int32 → Sg → Prop} {K : Int32 → Int32 → Int32 → Int32 → Int32 → Int32 → Sg → Prop} (hO : OKT a) (hM : RM σ a) (hs : s < 2 ^ aNR a) (hc : cb s 12 ≤ 4) (hm : many ≤ 4) (hu0 : u0.1 ≤ 41)
    (hK : ∀ τ, KP σ τ → RM τ a → K (nI s) x2 (tq (rin a s many u0 (3 ^ cb s 12 - 1)).1 41) (nI (rin a s many u0 (3 ^ cb s 12 - 1)).2) (nI (3 ^ cb s 12)) (nI (many + 1)) τ) : ∀ d t, t + 1 + d = 3 ^ cb s 12 → ∀ τ, KP σ τ → RM τ a → wp_X6_turns_92 Q K (d + 1) (nI s) x2 (tq (rin a s many u0 t).1 41) (nI (rin a s many u0 t).2) (nI (3 ^ cb s 12)) (nI many) (nI (t + 1)) τ := by
  have h81 : 3 ^ cb s 12 ≤ 81 := Nat.pow_le_pow_right (n := 3) (by decide) hc
  intro d
  induction d with
  | zero =>
    intro t ht τ kp rm
    rw [wp_X6_turns_92]
    refine ⟨fun _ x6 e6 => ?_, fun z => absurd (nI_le (by omega) (by omega)) z⟩
    rw [nI_1] at e6
    subst e6
    have := hK τ kp rm
    rw [show 3 ^ cb s 12 - 1 = t by omega] at this
    exact this
  | succ d ih =>
    intro t ht τ kp rm
    have nx := ih (t + 1) (by omega)
    rw [rin] at nx
    have hle := rin_le (a := a) (s := s) (many := many) (u := u0) t
    have hnz : nz (t + 1) 4 = nz (t + 1) (cb s 12) := by
      have := nz_hi (cb s 12) (4 - cb s 12) (t + 1) (by omega)
      rwa [show cb s 12 + (4 - cb s 12) = 4 by omega] at this
    have n4 := nz_le (cb s 12) (t + 1)
    rw [wp_X6_turns_92]
    refine ⟨fun z => absurd z (nI_ge (by omega) (by omega)), fun _ => ?_⟩
    have skip : ∀ υ, stR a s many (t + 1) (rin a s many u0 t) = rin a s many u0 t → KP σ υ → RM υ a → wp_X6_turns_162 Q K (fun z1 z2 z3 z4 z5 z6 z7 σ => wp_X6_turns_92 Q K (d + 1) z1 z2 z3 z4 z5 z6 z7 σ) (nI s) x2 (tq (rin a s many u0 t).1 41) (nI (rin a s many u0 t).2) (nI (3 ^ cb s 12)) (nI many) (nI (t + 1)) υ := by
      intro υ e kp rm x7 e7
      rw [nI_1] at e7
      subst e7
      rw [e] at nx
      exact nx υ kp rm
    refine s_laysRow (does := 0) hO rm hs (by omega) (by omega) (fun υ fυ rυ => ?_)
    rw [if_pos rfl] at rυ
    have kυ := kp.p31 fυ
    refine pk_eq (nz (t + 1) (cb s 12)) many (fun e => ?_) (fun e => skip υ ?_ kυ rυ) rfl rfl (by omega) (by omega)
    · refine s_laysRow (does := 1) hO rυ hs (by omega) (by omega) (fun ω fω rω => ?_)
      rw [if_neg (by decide)] at rω
      have kω := kυ.p31 fω
      have ok := lr_ok s 12 (t + 1) a hO
      have go : wp_X6_turns_137 Q K (fun z1 z2 z3 z4 z5 z6 z7 σ => wp_X6_turns_92 Q K (d + 1) z1 z2 z3 z4 z5 z6 z7 σ) (nI s) x2 (tq (rin a s many u0 t).1 41) (nI (rin a s many u0 t).2) (nI (3 ^ cb s 12)) (nI (nz (t + 1) (cb s 12))) (nI (t + 1)) (nI (rin a s many u0 t).1) ω := by
        rw [e]
        unfold wp_X6_turns_137
        refine s_quickestBelow ok.n (by omega) rω (qk_is _) (fun ξ lf => s_cb2 hO.n hM (kω.lf lf) (fun ζ kζ rζ => ?_))
        have hT := qk_le (lr s 12 (t + 1) a)
        by_cases w : qk (lr s 12 (t + 1) a) < (rin a s many u0 t).1
        · have e1 : tq (qk (lr s 12 (t + 1) a)) (rin a s many u0 t).1 = tq (qk (lr s 12 (t + 1) a)) 41 := by
            unfold tq; rw [if_pos w, if_pos (by omega)]
          have ne : ¬ tq (qk (lr s 12 (t + 1) a)) 41 = -1 := by
            unfold tq; rw [if_pos (by omega)]; exact nI_nm1 (by omega)
          rw [e1]
          refine ⟨fun z => absurd z ne, fun _ => ?_⟩
          intro x7 e7
          rw [nI_1] at e7
          subst e7
          have es : stR a s many (t + 1) (rin a s many u0 t) = (qk (lr s 12 (t + 1) a), t + 1) := by unfold stR; rw [if_pos ⟨by rw [hnz]; exact e, w⟩]
          rw [es] at nx
          exact nx ζ kζ rζ
        · have e1 : tq (qk (lr s 12 (t + 1) a)) (rin a s many u0 t).1 = -1 := by unfold tq; rw [if_neg w]
          rw [e1]
          refine ⟨fun _ => skip ζ ?_ kζ rζ, fun z => absurd rfl z⟩
          unfold stR
          rw [if_neg (fun z => w z.2)]
      by_cases w : (rin a s many u0 t).1 < 41
      · have e1 : tq (rin a s many u0 t).1 41 = nI (rin a s many u0 t).1 := by unfold tq; rw [if_pos w]
        refine ⟨fun z => ?_, fun _ => ?_⟩
        · rw [e1] at z; exact absurd z (nI_nm1 (by omega))
        · have g := go
          rw [e1] at g ⊢
          exact g
      · have e1 : tq (rin a s many u0 t).1 41 = -1 := by unfold tq; rw [if_neg w]
        have e41 : (rin a s many u0 t).1 = 41 := by omega
        refine ⟨fun _ => ?_, fun z => absurd e1 z⟩
        have g := go
        have e2 : nI (rin a s many u0 t).1 = (41 : Int32) := by rw [e41]; rfl
        rw [e2] at g
        exact g
    · unfold stR
      rw [if_neg (fun z => e (by rw [← hnz]; exact z.1))]
noncomputable def trA (x w : Int32) (a : AT) : Int32 := if inr 0 1 w = 0 ∨ ¬ x.toBitVec.toNat < 2 ^ aNR a ∨ 4 < cb x.toBitVec.toNat 12 then -2 else
  if w = 0 then tq (rou a x.toBitVec.toNat (3 ^ cb x.toBitVec.toNat 12) (cb x.toBitVec.toNat 12)).1 41 else nI (rou a x.toBitVec.toNat (3 ^ cb x.toBitVec.toNat 12) (cb x.toBitVec.toNat 12)).2
theorem L_turns {σ : Sg} (hI : INV σ) (p1 p2 : Int32) {K : Sg → Prop} (hK : ∀ τ, INV τ → K τ) {C : Int32 → Sg → Prop} (hw : ∀ r1 σ1, wp_X6_turns σ1 p1 p2 (fun r2 σ2 => (r1 = r2 → K σ2) ∧ (¬ (r1 = r2) → False)) → C r1 σ1) : wp_X5_turns σ p1 p2 C := by
  refine L_ask hI (wpC := fun σ C => wp_X5_turns σ p1 p2 C) (wpM := fun σ C => wp_X6_turns σ p1 p2 C) (trA p1 p2) (fun a hO τ hC Q h => ?_) (fun a hO τ hM Q h => ?_) hK hw
  · show wp_X5_turns τ p1 p2 Q
    unfold wp_X5_turns
    have h12 := hO.2.1
    have no : (inr 0 1 p2 = 0 ∨ ¬ p1.toBitVec.toNat < 2 ^ aNR a ∨ 4 < cb p1.toBitVec.toNat 12) → Q (-2) τ := fun w => by
      have := h τ (FC.rf τ) (TC.rf τ) hC
      unfold trA at this
      rwa [if_pos w] at this
    refine ⟨fun z => no (Or.inl (by unfold inr; rw [if_pos z])), fun z => ⟨fun z1 => no (Or.inl (by unfold inr; rw [if_neg z, if_pos z1])), fun z1 => ?_⟩⟩
    have zi : ¬ inr 0 1 p2 = 0 := by unfold inr; rw [if_neg z, if_neg z1]; decide
    rw [hC.2.1]
    refine ⟨fun z2 => ?_, fun z2 => no (Or.inr (Or.inl (fun w => z2 ((ush_0 h12).mpr w))))⟩
    have hs := (ush_0 h12).mp z2
    have hs4 : p1.toBitVec.toNat < 4096 := Nat.lt_of_lt_of_le hs (Nat.pow_le_pow_right (n := 2) (by decide) h12)
    obtain ⟨s, es⟩ : ∃ s, s = p1.toBitVec.toNat := ⟨_, rfl⟩
    have ep : p1 = nI s := bv_nI es.symm (by omega)
    have c12 := cb_le s 12
    rw [← es] at hs hs4
    rw [ep]
    refine s_bitCount hs4 ?_
    refine pk_le (cb s 12) 4 (fun hc => ?_) (fun hc => no (Or.inr (Or.inr (by rw [← es]; exact hc)))) rfl rfl (by omega) (by omega)
    refine s_findRow hO hC hs hc (fun υ f1 t1 rυ a1 a2 => ?_)
    have := h υ f1 t1 rυ
    unfold trA at this
    rw [if_neg (by rintro (w | w | w); exact zi w; exact w (by rw [← es]; exact hs); rw [← es] at w; omega), ← es] at this
    have r41 : (rou a s (3 ^ cb s 12) (cb s 12)).1 ≤ 41 := Nat.le_trans (rou_le _) (qk_le a)
    refine ⟨fun w => ?_, fun w => ?_⟩
    · rw [if_pos w] at this
      rw [a1]
      exact s_told r41 this
    · rw [if_neg w] at this
      rw [a2]
      exact this
  · show wp_X6_turns τ p1 p2 Q
    unfold wp_X6_turns
    have h12 := hO.2.1
    intro σ1 e1
    have k1 : KF τ σ1 := KF.t0 e1
    have hM1 : RM σ1 a := k1.rm hO.n hM
    have no : (inr 0 1 p2 = 0 ∨ ¬ p1.toBitVec.toNat < 2 ^ aNR a ∨ 4 < cb p1.toBitVec.toNat 12) → Q (-2) σ1 := fun w => by
      have := h σ1 k1.1 k1.2.1 hM1
      unfold trA at this
      rwa [if_pos w] at this
    refine s_X6_roads ?_
    rw [hM1.2.1]
    refine s_X6_isIn ⟨fun z => no (Or.inr (Or.inl ((in_set h12).mp z))), fun z => ?_⟩
    have hs : p1.toBitVec.toNat < 2 ^ aNR a := by
      rcases Nat.lt_or_ge p1.toBitVec.toNat (2 ^ aNR a) with w | w
      · exact w
      · exact absurd ((in_set h12).mpr (by omega)) z
    have hs4 : p1.toBitVec.toNat < 4096 := Nat.lt_of_lt_of_le hs (Nat.pow_le_pow_right (n := 2) (by decide) h12)
    obtain ⟨s, es⟩ : ∃ s, s = p1.toBitVec.toNat := ⟨_, rfl⟩
    have ep : p1 = nI s := bv_nI es.symm (by omega)
    have c12 := cb_le s 12
    rw [← es] at hs hs4
    rw [ep]
    refine s_bits hs4 ?_
    refine pk_lt 4 (cb s 12) (fun hc => no (Or.inr (Or.inr (by rw [← es]; exact hc)))) (fun hc => ?_) rfl rfl (by omega) (by omega)
    refine s_X6_isIn ⟨fun z1 => no (Or.inl z1), fun zi => s_quickestNow hO.n hM1 (qk_is a) (fun σ13 lf => ?_)⟩
    have k13 := k1.tr lf.kf
    have m13 := k13.rm hO.n hM
    have h81 : 3 ^ cb s 12 ≤ 81 := Nat.pow_le_pow_right (n := 3) (by decide) hc
    have hp : 0 < 3 ^ cb s 12 := Nat.pow_pos (by decide)
    -- the rows, when all is kept
    have main : wp_X6_keeps σ13 (fun σ18 => ∃ n0, wp_X6_turns_83 Q n0 (nI s) p2 (tq (qk a) 41) 0 (nI (3 ^ cb s 12)) 1 σ18) := by
      refine s_keep hO.n m13 (fun σ18 kp18 m18 => ⟨5, ?_⟩)
      have key : ∀ d n, n + d = 4 → ∀ υ, KP σ13 υ → RM υ a → wp_X6_turns_83 Q (d + 1) (nI s) p2 (tq (rou a s (3 ^ cb s 12) n).1 41) (nI (rou a s (3 ^ cb s 12) n).2) (nI (3 ^ cb s 12)) (nI (n + 1)) υ := by
        intro d
        induction d with
        | zero =>
          intro n hn υ kp rm
          have : n = 4 := by omega
          subst this
          rw [wp_X6_turns_83]
          have hb := rou_big (a := a) (s := s) hc (4 - cb s 12)
          rw [show cb s 12 + (4 - cb s 12) = 4 by omega] at hb
          have := h υ (k13.1.tr kp.fm) (k13.2.1.tr kp.tm) rm
          unfold trA at this
          rw [if_neg (by rintro (w | w | w); exact zi w; exact w (by rw [← es]; exact hs); rw [← es] at w; omega), ← es] at this
          rw [hb]
          refine ⟨fun _ => ⟨fun w => ?_, fun w => ?_⟩, fun q => absurd (nI_lt (a := 4) (by omega) (by omega)) q⟩
          · rwa [if_pos w] at this
          · rwa [if_neg w] at this
        | succ d ih =>
          intro n hn υ kp rm
          rw [wp_X6_turns_83]
          refine ⟨fun q => absurd q (nI_nlt (a := 4) (by omega) (by omega)), fun _ => ⟨3 ^ cb s 12 - 1 + 1, ?_⟩⟩
          exact s_turns_92 (u0 := rou a s (3 ^ cb s 12) n) hO m13 hs hc (by omega) (Nat.le_trans (rou_le _) (qk_le a)) (fun ω kω rω => ih (n + 1) (by omega) ω kω rω) (3 ^ cb s 12 - 1) 0 (by omega) υ kp rm
      exact key 4 0 (by omega) σ18 kp18 m18
    have k55 : ∀ d k, k + d = cb s 12 → wp_X6_turns_55 Q (d + 1) (nI s) p2 (tq (qk a) 41) 0 (nI (3 ^ k)) (nI k) σ13 := by
      intro d
      induction d with
      | zero =>
        intro k hk
        have : k = cb s 12 := by omega
        subst this
        rw [wp_X6_turns_55]
        refine s_bits hs4 ⟨fun _ => main, fun q => absurd (nI_le (Nat.le_refl _) (by omega)) q⟩
      | succ d ih =>
        intro k hk
        rw [wp_X6_turns_55]
        refine s_bits hs4 ⟨fun q => absurd q (nI_ge (by omega) (by omega)), fun _ x5 e5 x6 e6 => ?_⟩
        rw [show (3 : Int32) = nI 3 from rfl, pk_mul, ← Nat.pow_succ] at e5
        rw [nI_1] at e6
        subst e5
        subst e6
        exact ih (k + 1) (by omega)
    exact ⟨_, k55 (cb s 12) 0 (by omega)⟩
