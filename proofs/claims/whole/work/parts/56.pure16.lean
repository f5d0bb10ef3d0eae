theorem MR_tr {a : AT} {E : Nat → Int32 → Prop} {σ00 σ0 σ s : Sg} (h : MR a E σ0 σ s) (fm : FM σ00 σ0) (tm : TM σ00 σ0) : MR a E σ00 σ s := ⟨h.1, fm.tr h.2.1, tm.tr h.2.2.1, h.2.2.2⟩
theorem s_X6_plans {σ : Sg} {a : AT} {Q : Int32 → Sg → Prop} (hO : OKT a) (hM : RM σ a) (h : ∀ τ, MR a (AE a (pT a)) σ τ (pRn a (pT a)) → Q (pV a) τ) : wp_X6_plans σ Q := by
  have h8 := hO.1
  have hcw := (pRn_ok a h8 51 (Nat.le_refl _)).1
  unfold wp_X6_plans
  refine s_X6_goes (L := 50) hO hM (Nat.le_refl _) ?_
  intro σ1 R1
  unfold pT pV at h
  have e23 : σ1 30 23 = pRn a 51 5 1 := R1.2.2.2.2.1
  have e24 : σ1 30 24 = wpv (pRn a 51) := R1.2.2.2.2.2.2.2.1
  have hz := wpv_0 hcw
  refine ⟨fun g1 => ⟨fun g2 => ?_, fun g2 => ?_⟩, fun g1 => ?_⟩
  · rw [e24, hz] at g2
    rw [if_neg (fun z => z.2 g2), if_neg (fun z => z.2 g2)] at h
    unfold wp_X6_plans_20
    rw [e23]
    exact h σ1 R1
  · rw [e24, hz] at g2
    rw [e23] at g1
    rw [if_pos ⟨g1, g2⟩, if_pos ⟨g1, g2⟩] at h
    rcases hcw with hc | ⟨p, m, hp, hm, h1, h2⟩
    · exact absurd hc.1 g2
    · rw [h2, nI_clamp (by omega), h1] at h
      have ew : σ1 30 24 = nI (3 + 8 * p + 1000 * m) := by
        rw [e24]; unfold wpv; rw [if_neg g2, h1, h2, show (3 : Int32) = nI 3 from rfl, show (8 : Int32) = nI 8 from rfl, show (1000 : Int32) = nI 1000 from rfl, pk_mul, pk_mul, nI_add, nI_add]
      rw [ew]
      intro x ex
      have ex : x = 3 + 8 * nI p := by
        rw [ex, show (1000 : Int32) = nI 1000 from rfl, pk_rem (by omega) (by decide) (by decide), show (3 : Int32) = nI 3 from rfl, show (8 : Int32) = nI 8 from rfl, pk_mul, nI_add, show (3 + 8 * p + 1000 * m) % 1000 = 3 + 8 * p by omega]
      subst ex
      rw [show nI (3 + 8 * p + 1000 * m) / 1000 = nI m by rw [show (1000 : Int32) = nI 1000 from rfl, pk_div (by omega) (by decide) (by decide), show (3 + 8 * p + 1000 * m) / 1000 = m by omega]]
      refine s_X6_goes (L := m) hO R1.1 hm ?_
      intro σ6 R6
      exact h σ6 (MR_tr R6 R1.2.1 R1.2.2.1)
  · rw [e23] at g1
    rw [if_neg (fun z => g1 z.1), if_neg (fun z => g1 z.1)] at h
    unfold wp_X6_plans_20
    rw [e23]
    exact h σ1 R1
theorem L_wrong {σ : Sg} (hI : INV σ) {K : Sg → Prop} (hK : ∀ τ, INV τ → K τ) {C : Int32 → Sg → Prop} (hw : ∀ r1 σ1, wp_X6_wrong σ1 (fun r2 σ2 => (r1 = r2 → K σ2) ∧ (¬ (r1 = r2) → False)) → C r1 σ1) : wp_X5_wrong σ C := by
  refine L_ask hI (wpC := fun τ Q => wp_X5_wrong τ Q) (wpM := fun τ Q => wp_X6_wrong τ Q) pV ?_ ?_ hK hw
  · intro a hO τ hC Q h
    refine s_X1_judge hO hC (fun υ R => ?_)
    rw [R.f (by decide), put_s]
    exact h υ R.2.1 R.2.2.1 R.1
  · intro a hO τ0 hM Q h τ e0
    have f0 : FM τ0 τ := by rw [e0]; exact FM_p τ0 (by decide)
    have t0 : TM τ0 τ := by rw [e0]; exact TM_t τ0 _
    refine s_X6_plans hO (hM.keep (by rw [e0]; exact put_o (by decide))) (fun υ R => ?_)
    exact h υ (f0.tr R.2.1) (t0.tr R.2.2.1) R.1
/-- sums of ints -/
def is : Nat → (Nat → Int32) → Int32
  | 0, _ => 0
  | n + 1, f => is n f + f n
theorem is_congr {n : Nat} {f g : Nat → Int32} (h : ∀ i, i < n → f i = g i) : is n f = is n g := by
  induction n with
  | zero => rfl
  | succ n ih => rw [is, is, ih (fun i hi => h i (by omega)), h n (by omega)]
theorem is_zero (n : Nat) : is n (fun _ => 0) = 0 := by
  induction n with
  | zero => rfl
  | succ n ih => rw [is, ih]; rfl
theorem is_upd {n j : Nat} (f : Nat → Int32) (v : Int32) (h : j < n) : is n (upd f j v) = is n f + (v - f j) := by
  induction n with
  | zero => omega
  | succ n ih =>
    rw [is, is]
    by_cases hj : j = n
    · subst hj
      rw [pk_us, is_congr (g := f) (fun i hi => pk_un (by omega))]
      grind
    · rw [ih (by omega), pk_un (by omega)]
      grind
/-- all that are on the roads -/
def OnOK (s : Sg) : Prop := s 5 4 = is 480 (s 3)
theorem on_arr {s : Sg} {t p : Nat} (h : OnOK s) (hj : 8 * t + p < 480) : OnOK (pArr s t p) := by
  unfold OnOK at h ⊢
  unfold pArr
  rw [put_o (by decide), put_s, put_k, put_o (k := 5) (by decide), put_o (k := 0) (by decide), put_o (by decide), is_upd _ _ hj, h]
  grind
theorem on_she {a : AT} {s : Sg} {t p : Nat} (h : OnOK s) : OnOK (pShe a s t p) := by
  unfold OnOK at h ⊢
  unfold pShe pS4
  split
  · unfold pS3 pS2 pS1
    rw [put_o (by decide), put_o (by decide), put_o (by decide), put_o (by decide), put_o (by decide), put_o (by decide)]
    exact h
  · rw [put_n (by decide), put_o (b := 3) (by decide)]
    unfold pS3 pS2 pS1
    rw [put_o (by decide), put_o (by decide), put_o (by decide), put_o (by decide), put_o (by decide), put_o (by decide)]
    exact h
theorem on_mv {a : AT} {s : Sg} {t k : Nat} (h : OnOK s) (hj : mvJ a t k < 480) : OnOK (pMv a s t k) := by
  unfold OnOK at h ⊢
  unfold pMv
  split
  · split
    · rw [put_n (by decide), put_o (b := 3) (by decide)]
      unfold pM5
      rw [put_o (by decide), put_k, is_upd _ _ hj]
      have e3 : ∀ (f w : Nat) (m x : Int32), pM4 s f w m x 3 = s 3 := fun f w m x => by
        unfold pM4 pM3 pM2 pM1
        rw [put_o (by decide), put_o (by decide), put_o (by decide), put_o (by decide)]
      have e5 : ∀ (f w : Nat) (m x : Int32), pM4 s f w m x 5 4 = s 5 4 + m := fun f w m x => by
        unfold pM4
        rw [put_s]
        unfold pM3 pM2 pM1
        rw [put_o (by decide), put_o (by decide), put_o (by decide)]
      rw [e3, e5, h]
      grind
    · rw [put_n (by decide), put_o (b := 3) (by decide)]; exact h
  · rw [put_n (by decide), put_o (b := 3) (by decide)]; exact h
theorem on_Rn (a : AT) (hO : OKT a) : ∀ t, t ≤ 51 → OnOK (pRn a t) := by
  have h8 := hO.1
  intro t
  induction t with
  | zero =>
    intro _
    show (0 : Int32) = is 480 (fun i => p0 a 3 i)
    have : (fun i => p0 a 3 i) = fun _ => 0 := by funext i; rfl
    rw [this, is_zero]
  | succ t ih =>
    intro ht
    have ih := ih (by omega)
    rw [pRn]
    split
    · have hP : ∀ p, p ≤ aNP a → OnOK (pPl a (pRn a t) t p) := by
        intro p
        induction p with
        | zero => intro _; exact ih
        | succ p ihp => intro hp; rw [pPl]; exact on_she (on_arr (ihp (by omega)) (by omega))
      have hP := hP (aNP a) (Nat.le_refl _)
      unfold pMi
      generalize pPl a (pRn a t) t (aNP a) = sP at hP ⊢
      have hMs : ∀ k, k ≤ aNM a → OnOK (pMs a sP t k) := by
        intro k
        induction k with
        | zero =>
          intro _
          show setA sP 4 _ 5 4 = is 480 (setA sP 4 _ 3)
          rw [setA_o (by decide), setA_o (by decide)]
          exact hP
        | succ k ihk =>
          intro hk
          rw [pMs]
          split
          · rename_i g
            refine on_mv (ihk (by omega)) ?_
            obtain ⟨m0, m1, m2, m3, m4⟩ := hO.2.2.2.2.2 k (by omega)
            obtain ⟨r0, r1, r2, r3, r4, r5, r6⟩ := hO.2.2.2.2.1 _ m1
            unfold mvJ
            rcases (show aM a k 2 = 0 ∨ aM a k 2 = 1 by omega) with e | e <;> rw [e]
            · show 8 * (t + aR a (aM a k 1) 2) + aR a (aM a k 1) 1 < 480
              omega
            · show 8 * (t + aR a (aM a k 1) 2) + aR a (aM a k 1) 0 < 480
              omega
          · exact ihk (by omega)
      have hMs := hMs (aNM a) (Nat.le_refl _)
      generalize pMs a sP t (aNM a) = sM at hMs ⊢
      show OnOK (if sM 5 1 = 0 then pNc a (put sM 5 2 (nI t)) t (aNP a) else sM)
      split
      · have : ∀ (s : Sg) p, OnOK s → OnOK (pNc a s t p) := by
          intro s p hs
          induction p with
          | zero => exact hs
          | succ p ihp =>
            rw [pNc]
            split
            · unfold OnOK at ihp ⊢
              rw [put_n (by decide), put_n (by decide), put_o (b := 3) (by decide), put_o (b := 3) (by decide)]
              exact ihp
            · exact ihp
        refine this _ _ ?_
        unfold OnOK at hMs ⊢
        rw [put_n (by decide), put_o (b := 3) (by decide)]
        exact hMs
      · exact hMs
    · exact ih
def plA (w : Int32) (a : AT) : Int32 := if w = 0 then is (aNP a) (pRn a (pT a) 2) else if w = 1 then pRn a (pT a) 5 3 else if w = 2 then pRn a (pT a) 5 4 else if w = 3 then is (aNP a) (pRn a (pT a) 1) else if w = 4 then is (aNP a) (pRn a (pT a) 0) else -1
theorem s_sum12 {σ : Sg} {n : Nat} {Q : Int32 → Sg → Prop} (h8 : n ≤ 8) (h0 : σ 1 0 = nI n) (h : Q (is n (σ 12)) σ) : wp_X1_sum_k12 σ Q := by
  have key : ∀ d i, i + d = n → wp_X1_sumk12_4 Q (d + 1) (is i (σ 12)) (nI i) σ := by
    intro d
    induction d with
    | zero => intro i hi; rw [wp_X1_sumk12_4, h0]; have : i = n := by omega
              subst this
              exact ⟨fun _ => h, fun z => absurd (nI_le (Nat.le_refl _) (by omega)) z⟩
    | succ d ih =>
      intro i hi
      rw [wp_X1_sumk12_4, h0, nI_clamp (n := i) (by omega)]
      refine ⟨fun z => absurd z (nI_ge (by omega) (by omega)), fun _ => ⟨vp_in_nI (by omega) (by decide), fun x2 e2 x3 e3 => ?_⟩⟩
      rw [nI_1] at e3
      subst e2 e3
      exact ih (i + 1) (by omega)
  exact ⟨n + 1, key n 0 (by omega)⟩
theorem s_sum11 {σ : Sg} {n : Nat} {Q : Int32 → Sg → Prop} (h8 : n ≤ 8) (h0 : σ 1 0 = nI n) (h : Q (is n (σ 11)) σ) : wp_X1_sum_k11 σ Q := by
  have key : ∀ d i, i + d = n → wp_X1_sumk11_4 Q (d + 1) (is i (σ 11)) (nI i) σ := by
    intro d
    induction d with
    | zero => intro i hi; rw [wp_X1_sumk11_4, h0]; have : i = n := by omega
              subst this
              exact ⟨fun _ => h, fun z => absurd (nI_le (Nat.le_refl _) (by omega)) z⟩
    | succ d ih =>
      intro i hi
      rw [wp_X1_sumk11_4, h0, nI_clamp (n := i) (by omega)]
      refine ⟨fun z => absurd z (nI_ge (by omega) (by omega)), fun _ => ⟨vp_in_nI (by omega) (by decide), fun x2 e2 x3 e3 => ?_⟩⟩
      rw [nI_1] at e3
      subst e2 e3
      exact ih (i + 1) (by omega)
  exact ⟨n + 1, key n 0 (by omega)⟩
theorem s_sum10 {σ : Sg} {n : Nat} {Q : Int32 → Sg → Prop} (h8 : n ≤ 8) (h0 : σ 1 0 = nI n) (h : Q (is n (σ 10)) σ) : wp_X1_sum_k10 σ Q := by
  have key : ∀ d i, i + d = n → wp_X1_sumk10_4 Q (d + 1) (is i (σ 10)) (nI i) σ := by
    intro d
    induction d with
    | zero => intro i hi; rw [wp_X1_sumk10_4, h0]; have : i = n := by omega
              subst this
              exact ⟨fun _ => h, fun z => absurd (nI_le (Nat.le_refl _) (by omega)) z⟩
    | succ d ih =>
      intro i hi
      rw [wp_X1_sumk10_4, h0, nI_clamp (n := i) (by omega)]
      refine ⟨fun z => absurd z (nI_ge (by omega) (by omega)), fun _ => ⟨vp_in_nI (by omega) (by decide), fun x2 e2 x3 e3 => ?_⟩⟩
      rw [nI_1] at e3
      subst e2 e3
      exact ih (i + 1) (by omega)
  exact ⟨n + 1, key n 0 (by omega)⟩
theorem s_planned41 {σ : Sg} {Q : Int32 → Sg → Prop} (h : Q (is 480 (σ 41)) σ) : wp_X6_planned σ Q := by
  have key : ∀ d i, i + d = 480 → wp_X6_planned_4 Q (d + 1) (is i (σ 41)) (nI i) σ := by
    intro d
    induction d with
    | zero => intro i hi; rw [wp_X6_planned_4]; have : i = 480 := by omega
              subst this
              exact ⟨fun _ => h, fun z => absurd (nI_le (a := 480) (b := 480) (Nat.le_refl _) (by omega)) z⟩
    | succ d ih =>
      intro i hi
      rw [wp_X6_planned_4, nI_clamp (n := i) (by omega)]
      refine ⟨fun z => absurd z (nI_ge (b := 480) (by omega) (by omega)), fun _ => ⟨vp_in_nI (by omega) (by decide), fun x2 e2 x3 e3 => ?_⟩⟩
      rw [nI_1] at e3
      subst e2 e3
      exact ih (i + 1) (by omega)
  exact ⟨481, key 480 0 (by omega)⟩
theorem L_planned {σ : Sg} (hI : INV σ) (w : Int32) {K : Sg → Prop} (hK : ∀ τ, INV τ → K τ) {C : Int32 → Sg → Prop} (hw : ∀ r1 σ1, wp_X6_planned_ σ1 w (fun r2 σ2 => (r1 = r2 → K σ2) ∧ (¬ (r1 = r2) → False)) → C r1 σ1) : wp_X5_planned σ w C := by
  refine L_ask hI (wpC := fun τ Q => wp_X5_planned τ w Q) (wpM := fun τ Q => wp_X6_planned_ τ w Q) (plA w) ?_ ?_ hK hw
  · intro a hO τ hC Q h
    have h8 := hO.1
    refine s_X1_judge hO hC (fun υ R => ?_)
    have hq := h υ R.2.1 R.2.2.1 R.1
    unfold plA at hq
    generalize pRn a (pT a) = s at R hq
    generalize pV a = v at R
    have s12 : is (aNP a) (υ 12) = is (aNP a) (s 2) := is_congr (fun i hi => by rw [show υ 12 i = _ from R.p (b := 2) (by decide) hi, put_o (by decide)])
    have s11 : is (aNP a) (υ 11) = is (aNP a) (s 1) := is_congr (fun i hi => by rw [show υ 11 i = _ from R.p (b := 1) (by decide) hi, put_o (by decide)])
    have s10 : is (aNP a) (υ 10) = is (aNP a) (s 0) := is_congr (fun i hi => by rw [show υ 10 i = _ from R.p (b := 0) (by decide) hi, put_o (by decide)])
    refine ⟨fun e => s_sum12 h8 R.1.1 ?_, fun e => ?_, fun e => ?_, fun e => s_sum11 h8 R.1.1 ?_, fun e => s_sum10 h8 R.1.1 ?_, fun e0 e1 e2 e3 e4 => ?_⟩
    · rw [s12]; subst e; exact hq
    · rw [R.f (by decide), put_n (by decide)]; subst e; exact hq
    · rw [R.f (by decide), put_n (by decide)]; subst e; exact hq
    · rw [s11]; subst e; exact hq
    · rw [s10]; subst e; exact hq
    · rw [if_neg e0, if_neg e1, if_neg e2, if_neg e3, if_neg e4] at hq; exact hq
  · intro a hO τ0 hM Q h τ e0
    have h8 := hO.1
    have f0 : FM τ0 τ := by rw [e0]; exact FM_p τ0 (by decide)
    have t0 : TM τ0 τ := by rw [e0]; exact TM_t τ0 _
    refine s_X6_plans hO (hM.keep (by rw [e0]; exact put_o (by decide))) (fun υ R => ?_)
    have hq := h υ (f0.tr R.2.1) (t0.tr R.2.2.1) R.1
    unfold plA at hq
    have hon := on_Rn a hO (pT a) (pT_le a h8).2
    have s41 : is 480 (υ 41) = pRn a (pT a) 5 4 := by rw [hon]; exact is_congr (fun i hi => R.c hi)
    generalize pRn a (pT a) = s at R hq hon s41
    let f : Nat → Int32 := if w = 0 then s 2 else if w = 3 then s 1 else s 0
    have key : ∀ d i, i + d = aNP a → wp_X6_planned__15 Q (d + 1) w (is i f) (nI i) υ := by
      intro d
      induction d with
      | zero =>
        intro i hi
        have : i = aNP a := by omega
        subst this
        rw [wp_X6_planned__15]
        refine s_X6_places ?_
        rw [R.1.1]
        refine ⟨fun _ => ⟨fun e => ?_, fun e => ?_, fun e => s_planned41 ?_, fun e => ?_, fun e => ?_, fun n0 n1 n2 n3 n4 => ?_⟩, fun z => absurd (nI_le (Nat.le_refl _) (by omega)) z⟩
        · subst e; exact hq
        · rw [R.2.2.2.2.2.1]; subst e; exact hq
        · rw [s41]; subst e; exact hq
        · subst e; exact hq
        · subst e; exact hq
        · rw [if_neg n0, if_neg n1, if_neg n2, if_neg n3, if_neg n4] at hq; exact hq
      | succ d ih =>
        intro i hi
        rw [wp_X6_planned__15]
        refine s_X6_places ?_
        rw [R.1.1, nI_clamp (n := i) (by omega)]
        have v8 : vp_in (nI i) 8 := vp_in_nI (by omega) (by decide)
        have nx : ∀ y, y = f i → wp_X6_planned__61 Q (fun z1 z3 z4 σ => wp_X6_planned__15 Q (d + 1) z1 z3 z4 σ) w (nI i) (is i f) y υ := by
          intro y ey x3 e3 x4 e4
          rw [nI_1] at e4
          subst e3 e4 ey
          exact ih (i + 1) (by omega)
        refine ⟨fun z => absurd z (nI_ge (by omega) (by omega)), fun _ => ⟨fun e => ⟨v8, nx _ ?_⟩, fun e => ⟨fun e2 => ⟨v8, nx _ ?_⟩, fun e2 => ⟨v8, nx _ ?_⟩⟩⟩⟩
        · show υ 44 i = (if w = 0 then s 2 else if w = 3 then s 1 else s 0) i
          rw [if_pos e]; exact R.p (b := 2) (by decide) (by omega)
        · show υ 42 i = (if w = 0 then s 2 else if w = 3 then s 1 else s 0) i
          rw [if_neg e, if_pos e2]; exact R.p (b := 1) (by decide) (by omega)
        · show υ 43 i = (if w = 0 then s 2 else if w = 3 then s 1 else s 0) i
          rw [if_neg e, if_neg e2]; exact R.p (b := 0) (by decide) (by omega)
    exact ⟨aNP a + 1, key (aNP a) 0 (by omega)⟩
/-! there -/
def thA (p1 p2 p3 : Int32) (a : AT) : Int32 := if ¬ inp (nI (aNP a)) p1 = 0 ∧ ¬ inr 0 50 p2 = 0 ∧ ¬ inr 0 2 p3 = 0 ∧ p2 ≤ pRn a (pT a) 5 2 then pRn a (p2.toNatClampNeg + 1) p3.toNatClampNeg p1.toNatClampNeg else -1
theorem nI_m1 {m e : Nat} (hm : m < 1000) (he : e < 1000) : nI m ≤ nI e - 1 ↔ m < e := by
  rw [Int32.le_iff_toInt_le, nI_toInt (by omega)]
  have : (nI e - 1).toInt = (e : Int) - 1 := pk_sub_toInt (a := e) (b := 1) (by omega) (by omega)
  rw [this]
  omega
theorem L_there {σ : Sg} (hI : INV σ) (p1 p2 p3 : Int32) {K : Sg → Prop} (hK : ∀ τ, INV τ → K τ) {C : Int32 → Sg → Prop} (hw : ∀ r1 σ1, wp_X6_there σ1 p1 p2 p3 (fun r2 σ2 => (r1 = r2 → K σ2) ∧ (¬ (r1 = r2) → False)) → C r1 σ1) : wp_X5_there σ p1 p2 p3 C := by
  refine L_ask hI (wpC := fun τ Q => wp_X5_there τ p1 p2 p3 Q) (wpM := fun τ Q => wp_X6_there τ p1 p2 p3 Q) (thA p1 p2 p3) ?_ ?_ hK hw
  · intro a hO τ hC Q h
    have h8 := hO.1
    unfold thA at h
    have neg : ∀ υ, FC τ υ → TC τ υ → RC υ a → ¬ (¬ inp (nI (aNP a)) p1 = 0 ∧ ¬ inr 0 50 p2 = 0 ∧ ¬ inr 0 2 p3 = 0 ∧ p2 ≤ pRn a (pT a) 5 2) → Q (-1) υ := fun υ q1 q2 q3 z => by rw [if_neg z] at h; exact h υ q1 q2 q3
    have neg0 := neg τ (FC.rf τ) (TC.rf τ) hC
    unfold wp_X5_there
    refine s_X3_hasPlace ?_
    rw [hC.1]
    refine ⟨fun z => neg0 (fun y => y.1 z), fun g1 => ⟨fun z => neg0 (fun y => y.2.1 (by unfold inr; rw [if_pos z])), fun g2 => ⟨fun z => neg0 (fun y => y.2.1 (by unfold inr; rw [if_neg g2, if_pos z])), fun g3 => ⟨fun z => neg0 (fun y => y.2.2.1 (by unfold inr; rw [if_pos z])), fun g4 => ⟨fun g5 => ?_, fun z => neg0 (fun y => y.2.2.1 (by unfold inr; rw [if_neg g4, if_pos (by rw [Int32.lt_iff_toInt_lt]; rw [Int32.le_iff_toInt_le] at z; omega)]))⟩⟩⟩⟩⟩
    refine s_X1_judge hO hC (fun υ R => ?_)
    have i2 : ¬ inr 0 50 p2 = 0 := by unfold inr; rw [if_neg g2, if_neg g3]; decide
    have i3 : ¬ inr 0 2 p3 = 0 := by unfold inr; rw [if_neg g4, if_neg (by rw [Int32.lt_iff_toInt_lt]; rw [Int32.le_iff_toInt_le] at g5; omega)]; decide
    rw [R.f (by decide), put_n (by decide)]
    refine ⟨fun g6 => ?_, fun z => neg υ R.2.1 R.2.2.1 R.1 (fun y => z y.2.2.2)⟩
    rw [if_pos ⟨g1, i2, i3, g6⟩] at h
    obtain ⟨p, hp, rfl⟩ := inp_yes (by omega) g1
    obtain ⟨m, -, hm, rfl⟩ := inr_yes (a := 0) (b := 50) (by decide) (by decide) i2
    obtain ⟨w, -, hw, rfl⟩ := inr_yes (a := 0) (b := 2) (by decide) (by decide) i3
    rw [nI_clamp (n := p) (by omega), nI_clamp (n := m) (by omega), nI_clamp (n := w) (by omega)] at h
    refine s_X1_play hO R.1 hm (fun υ2 R2 => ?_)
    have hq := h υ2 (R.2.1.tr R2.2.1) (R.2.2.1.tr R2.2.2.1) R2.1
    have v8 : vp_in (nI p) 8 := vp_in_nI (by omega) (by decide)
    rw [nI_clamp (n := p) (by omega)]
    refine ⟨fun e => ⟨v8, ?_⟩, fun e => ⟨fun e2 => ⟨v8, ?_⟩, fun e2 => ⟨v8, ?_⟩⟩⟩
    · have : w = 0 := (nI_eq (b := 0) (by omega) (by omega)).mp e
      subst this
      rw [show υ2 10 p = _ from R2.p (b := 0) (by decide) hp]; exact hq
    · have : w = 1 := (nI_eq (b := 1) (by omega) (by omega)).mp e2
      subst this
      rw [show υ2 11 p = _ from R2.p (b := 1) (by decide) hp]; exact hq
    · have : w = 2 := by
        have n0 : w ≠ 0 := fun z => e (by rw [z]; rfl)
        have n1 : w ≠ 1 := fun z => e2 (by rw [z]; rfl)
        omega
      subst this
      rw [show υ2 12 p = _ from R2.p (b := 2) (by decide) hp]; exact hq
  · intro a hO τ0 hM0 Q h τ e0
    have h8 := hO.1
    have f0 : FM τ0 τ := by rw [e0]; exact FM_p τ0 (by decide)
    have t0 : TM τ0 τ := by rw [e0]; exact TM_t τ0 _
    have hM : RM τ a := hM0.keep (by rw [e0]; exact put_o (by decide))
    unfold thA at h
    have neg : ∀ υ, FM τ0 υ → TM τ0 υ → RM υ a → ¬ (¬ inp (nI (aNP a)) p1 = 0 ∧ ¬ inr 0 50 p2 = 0 ∧ ¬ inr 0 2 p3 = 0 ∧ p2 ≤ pRn a (pT a) 5 2) → Q (-1) υ := fun υ q1 q2 q3 z => by rw [if_neg z] at h; exact h υ q1 q2 q3
    have neg0 := neg τ f0 t0 hM
    refine s_X6_isPlace hM.1 (by omega) ⟨fun z => neg0 (fun y => y.1 z), fun g1 => s_X6_isIn ⟨fun z => neg0 (fun y => y.2.1 z), fun i2 => s_X6_isIn ⟨fun z => neg0 (fun y => y.2.2.1 z), fun i3 => ?_⟩⟩⟩
    refine s_X6_plans hO hM (fun υ R => ?_)
    obtain ⟨p, hp, rfl⟩ := inp_yes (by omega) g1
    obtain ⟨m, -, hm, rfl⟩ := inr_yes (a := 0) (b := 50) (by decide) (by decide) i2
    obtain ⟨w, -, hw, rfl⟩ := inr_yes (a := 0) (b := 2) (by decide) (by decide) i3
    obtain ⟨t1, t2⟩ := pT_le a h8
    obtain ⟨-, e, h1, h2, h3, -⟩ := pRn_ok a h8 (pT a) t2
    have e25 : υ 30 25 = nI e := by
      rw [R.2.2.2.2.2.2.1, h2]; grind
    rw [e25]
    have hm1 : nI m ≤ pRn a (pT a) 5 2 ↔ m < e := by rw [h2]; exact nI_m1 (by omega) (by omega)
    rw [nI_clamp (n := p) (by omega), nI_clamp (n := m) (by omega), nI_clamp (n := w) (by omega)] at h
    refine pk_le e m (fun g => ?_) (fun g => ?_) rfl rfl (by omega) (by omega)
    · rw [if_neg (fun z => by have := hm1.mp z.2.2.2; omega)] at h
      exact h υ (f0.tr R.2.1) (t0.tr R.2.2.1) R.1
    · rw [if_pos ⟨g1, i2, i3, hm1.mpr g⟩] at h
      have eI : 24 * nI m + 3 * nI p + nI w = nI (24 * m + 3 * p + w) := by rw [show (24 : Int32) = nI 24 from rfl, show (3 : Int32) = nI 3 from rfl, pk_mul, pk_mul, nI_add, nI_add]
      rw [eI, nI_clamp (n := 24 * m + 3 * p + w) (by omega)]
      refine ⟨vp_in_nI (by omega) (by decide), ?_⟩
      rw [R.2.2.2.2.2.2.2.2 (24 * m + 3 * p + w) m p w (by omega) hp (by omega) (h3 m g) rfl]
      exact h υ (f0.tr R.2.1) (t0.tr R.2.2.1) R.1
