/-! the reference: flows, where it is open, QUICKEST -/
def nv (u : Nat) : Nat := if u < 328 then u + 18 else if u < 344 then u - 326 else if u = 344 then 0 else 1
theorem nv_nu {k : Nat} (h : k < 346) : nv (nu k) = k := by
  unfold nu
  split
  · unfold nv; rw [if_neg (by omega), if_neg (by omega), if_pos rfl]; omega
  · split
    · unfold nv; rw [if_neg (by omega), if_neg (by omega), if_neg (by omega)]; omega
    · split
      · unfold nv; rw [if_neg (by omega), if_pos (by omega)]; omega
      · unfold nv; rw [if_pos (by omega)]; omega
theorem nu_nv {u : Nat} (h : u < 346) : nu (nv u) = u := by
  unfold nv
  split
  · unfold nu; rw [if_neg (by omega), if_neg (by omega), if_neg (by omega)]; omega
  · split
    · unfold nu; rw [if_neg (by omega), if_neg (by omega), if_pos (by omega)]; omega
    · split
      · unfold nu; rw [if_pos rfl]; omega
      · unfold nu; rw [if_neg (by omega), if_pos rfl]; omega
theorem nu_0 : nu 0 = 344 := by unfold nu; rw [if_pos rfl]
theorem nu_1 : nu 1 = 345 := by unfold nu; rw [if_neg (by omega), if_pos rfl]
theorem nv_s : nv 344 = 0 := by unfold nv; rw [if_neg (by omega), if_neg (by omega), if_pos rfl]
theorem nv_t : nv 345 = 1 := by unfold nv; rw [if_neg (by omega), if_neg (by omega), if_neg (by omega)]
def rl (τ : Sg) (b : Nat) : Nat := nu (ltf (τ 36) b)
def RSt (a : AT) (t : Nat) (τ : Sg) (E V : Nat) : Prop := RN a τ E (NR a t) (fun χ => (V : Int) * (χ 0 - χ 1))
theorem RSt.fl {a : AT} {t : Nat} {τ : Sg} {E V : Nat} (h : RSt a t τ E V) (χ : Nat → Int) : Fl E (rl τ) (spf (τ 37)) χ = (V : Int) * (χ 344 - χ 345) := by
  have := h.2.2.2 (fun k => χ (nu k))
  dsimp only at this
  rw [nu_0, nu_1] at this
  exact this
theorem RSt.net {a : AT} {t : Nat} {τ : Sg} {E V : Nat} (hO : OKN a) (h : RSt a t τ E V) (g : Nat → Nat → Int) : Cp E (rl τ) (spf (τ 37)) g = NET (fun _ => 1000000) (fun _ => 1000000) a t g := by
  have := h.2.2.1 (fun u w => g (nu u) (nu w))
  rw [NR_NET hO] at this
  exact this
theorem OKN.c0 {a : AT} (hO : OKN a) : ∀ p, p < aNP a → (aP a p 0 : Int) ≤ 1000000 := fun p hp => by have := (hO.2.2.2.1 p hp).1; omega
theorem OKN.c1 {a : AT} (hO : OKN a) : ∀ p, p < aNP a → (aP a p 1 : Int) ≤ 1000000 := fun p hp => by have := (hO.2.2.2.1 p hp).2.1; omega
theorem RSt.mf {a : AT} {t : Nat} {τ : Sg} {E V : Nat} (hO : OKN a) (ht : t ≤ 40) (h : RSt a t τ E V) : (∀ X, (V : Int) ≤ CAP a t X) ∧ (∀ S : Nat → Bool, S 344 = true → S 345 = false → (∀ b, b < 2 * E → S (rl τ (pr b)) = true → 0 < spf (τ 37) b → S (rl τ b) = true) → MFV a t V ∧ CAP a t (XS S) = V) :=
  mf_of hO ht (fun b hb => (h.1.1.2.1 b hb).2.2.2) h.fl (h.net hO) hO.c0 hO.c1
theorem RSt.le {a : AT} {t : Nat} {τ : Sg} {E V : Nat} (hO : OKN a) (ht : t ≤ 40) (h : RSt a t τ E V) : V ≤ TOTn a := by
  have h1 := (h.mf hO ht).1 (fun _ _ => false)
  have h2 := CAP_none a t
  rw [TOT_n] at h2
  omega
theorem s_flows {a : AT} {σ : Sg} {t : Nat} {Q : Int32 → Sg → Prop} (hO : OKN a) (ht : t ≤ 40) (hM : RM σ a) (h : ∀ (τ : Sg) (E V : Nat), LF σ τ → RSt a t τ E V → MFV a t V → Q (nI V) τ) : wp_X6_flows σ (nI t) Q := by
  have h480 := TOTn_le hO
  have key : ∀ f V (τ : Sg) E, TOTn a - V < f → LF σ τ → RSt a t τ E V → wp_X6_flows_7 Q f (nI V) τ := by
    intro f
    induction f with
    | zero => intro V τ E hf; omega
    | succ f ih =>
      intro V τ E hf lf hS
      have hle := hS.le hO ht
      have hG := hS.1.1
      rw [wp_X6_flows_7]
      refine s_finds hG (fun r υ f1 s0 hr => ⟨fun h0 => ?_, fun h0 => ?_⟩)
      · have lf' : LF σ υ := lf.tr ⟨fun k a b => f1 k (by omega) (by omega) (by omega), fun j hj => by rw [f1 30 (by decide) (by decide) (by decide)]⟩
        have hS' : RSt a t υ E V := by
          obtain ⟨⟨g1, g2⟩, g3, g4, g5⟩ := hS
          refine ⟨⟨?_, ?_⟩, lf'.rm hM, ?_, ?_⟩
          · rw [f1 34 (by decide) (by decide) (by decide), f1 35 (by decide) (by decide) (by decide), f1 36 (by decide) (by decide) (by decide), f1 37 (by decide) (by decide) (by decide)]; exact g1
          · rw [f1 30 (by decide) (by decide) (by decide)]; exact g2
          · rw [f1 36 (by decide) (by decide) (by decide), f1 37 (by decide) (by decide) (by decide)]; exact g4
          · rw [f1 36 (by decide) (by decide) (by decide), f1 37 (by decide) (by decide) (by decide)]; exact g5
        rcases hr with ⟨-, q2, q3⟩ | ⟨q1, -⟩
        · refine h υ E V lf' hS' ((hS'.mf hO ht).2 (fun u => Sn υ (nv u)) (by rw [nv_s]; exact s0) (by rw [nv_t]; exact q2) (fun b hb h1 h2 => ?_)).1
          have e36 : υ 36 = τ 36 := f1 36 (by decide) (by decide) (by decide)
          have e37 : υ 37 = τ 37 := f1 37 (by decide) (by decide) (by decide)
          unfold rl at h1 ⊢
          rw [e36, nv_nu (hG.2.1 _ (pr_lt hb)).2.2.1] at h1
          rw [e37] at h2
          rw [e36, nv_nu (hG.2.1 _ hb).2.2.1]
          exact q3 b hb h1 h2
        · exact absurd h0 q1
      · rcases hr with ⟨q1, -⟩ | ⟨-, q2, rk, q3⟩
        · exact absurd q1 h0
        · have e36 : υ 36 = τ 36 := f1 36 (by decide) (by decide) (by decide)
          have e37 : υ 37 = τ 37 := f1 37 (by decide) (by decide) (by decide)
          have hG' : GG (υ 34) (υ 35) (υ 36) (υ 37) E := by rw [f1 34 (by decide) (by decide) (by decide), f1 35 (by decide) (by decide) (by decide), e36, e37]; exact hG
          refine s_pushes (rk := rk) hG' (by rw [e36, e37]; exact q3) q2 (fun m ω hm1 hm2 w1 w2 w3 w4 => ?_)
          intro x2 e2
          rw [nI_add] at e2
          subst e2
          have lf' : LF σ ω := lf.tr ⟨fun k a b => by rw [w1 k (by omega), f1 k (by omega) (by omega) (by omega)], fun j hj => by rw [w1 30 (by decide), f1 30 (by decide) (by decide) (by decide)]⟩
          have hSω : RSt a t ω E (V + m) := by
            refine ⟨⟨w2, by rw [w1 30 (by decide), f1 30 (by decide) (by decide) (by decide)]; exact hS.1.2⟩, lf'.rm hM, fun g => by rw [w3, e36, e37]; exact hS.2.2.1 g, fun χ => ?_⟩
            rw [w4, e36, e37, hS.2.2.2]
            dsimp only
            rw [Int.natCast_add, Int.add_mul]
          have := hSω.le hO ht
          exact ih (V + m) ω E (by omega) lf' hSω
  unfold wp_X6_flows
  refine s_lays hO ht hM (fun τ E lf hN => ⟨TOTn a + 1, key (TOTn a + 1) 0 τ E (by omega) lf ⟨hN.1, hN.2.1, hN.2.2.1, fun χ => by rw [hN.2.2.2]; simp⟩⟩)
theorem s_isMinute {σ : Sg} {x : Int32} {Q : Int32 → Sg → Prop} (h0 : inr 0 40 x = 0 → Q 0 σ) (h1 : ∀ t, t ≤ 40 → x = nI t → Q 1 σ) : wp_X6_isMinute σ x Q := by
  unfold wp_X6_isMinute
  refine s_X6_isIn ⟨inr_bz _ _ _, ?_⟩
  rcases inr_bz 0 40 x with e | e
  · rw [e]; exact h0 e
  · rw [e]
    obtain ⟨v, -, v2, v3⟩ := inr_yes (a := 0) (b := 40) (x := x) (by decide) (by decide) (by rw [show nI 0 = (0 : Int32) from rfl, show nI 40 = (40 : Int32) from rfl, e]; decide)
    exact h1 v v2 v3
theorem s_can {a : AT} {σ : Sg} {t q : Nat} {Q : Int32 → Sg → Prop} (hO : OKN a) (ht : t ≤ 40) (hM : RM σ a) (hq : isQ a q) (h : ∀ τ, LF σ τ → Q (if q ≤ t then 1 else 0) τ) : wp_X6_can σ (nI t) Q := by
  unfold wp_X6_can
  have b0 := TOTn_le hO
  refine s_isMinute (fun e => ?_) (fun _ _ _ => ⟨fun z => absurd z (by decide), fun _ => ?_⟩)
  · have := inr_nI (a := 0) (b := 40) (v := t) (by decide) (by decide) (by omega)
    rw [show nI 0 = (0 : Int32) from rfl, show nI 40 = (40 : Int32) from rfl, e, if_pos ⟨by omega, ht⟩] at this
    exact absurd this (by decide)
  · refine s_flows hO ht hM (fun τ E V lf hS hV => s_X6_sum (w := 0) hO.1 (lf.rm hM) (by decide) ?_)
    have hle := hS.le hO ht
    have c := CS.canI hV
    rw [hq.can ht] at c
    refine pk_eq V (TOTn a) (fun e => ⟨Or.inr rfl, ?_⟩) (fun e => ⟨Or.inl rfl, ?_⟩) rfl rfl (by omega) (by omega)
    · have := h τ lf
      rwa [if_pos (c.mpr e)] at this
    · have := h τ lf
      rwa [if_neg (fun z => e (c.mp z))] at this
/-- NONE for 41 -/
def tq (q bd : Nat) : Int32 := if q < bd then nI q else -1
theorem s_quickestBelow {a : AT} {σ : Sg} {bd q : Nat} {Q : Int32 → Sg → Prop} (hO : OKN a) (hbd : bd ≤ 41) (hM : RM σ a) (hq : isQ a q) (h : ∀ τ, LF σ τ → Q (tq q bd) τ) : wp_X6_quickestBelow σ (nI bd) Q := by
  unfold wp_X6_quickestBelow
  have h8 := hO.1
  have b0 := TOTn_le hO
  have b1 := ns_le (n := aNP a) (f := fun p => aP a p 1) (b := 300) (fun i hi => (hO.2.2.2.1 i hi).2.1)
  refine s_X6_sum (w := 0) h8 hM (by decide) (s_X6_sum (w := 1) h8 hM (by decide) ?_)
  refine pk_lt (ns (aNP a) (fun p => aP a p 1)) (TOTn a) (fun hlt => ?_) (fun hge => ?_) rfl rfl (by omega) (by omega)
  · have hn : ∀ t, ¬ CAN a t := fun t => no_room (by rw [TOT_n, ← ns_sm]; omega)
    have : ¬ q < bd := fun z => hn q (hq.2.2 (by omega))
    have r := h σ (LF.rf σ)
    unfold tq at r
    rwa [if_neg this] at r
  · rcases Nat.eq_zero_or_pos bd with z | z
    · subst z
      unfold wp_X6_can
      refine s_isMinute (fun e => ⟨fun _ => ⟨Or.inl rfl, fun _ => ?_, fun z => absurd rfl z⟩, fun z => absurd rfl z⟩) (fun t ht e => ?_)
      · have r := h σ (LF.rf σ)
        unfold tq at r
        rwa [if_neg (by omega)] at r
      · exfalso
        have e2 := congrArg Int32.toInt e
        rw [nI_toInt (by omega)] at e2
        have : (nI 0 - 1 : Int32).toInt = -1 := by decide
        omega
    · obtain ⟨b, rfl⟩ : ∃ b, bd = b + 1 := ⟨bd - 1, by omega⟩
      rw [nI_pred]
      refine s_can hO (by omega) hM hq (fun τ lf => ?_)
      by_cases hqb : q ≤ b
      · rw [if_pos hqb]
        refine ⟨fun z => absurd z (by decide), fun _ x3 e3 => ?_⟩
        subst e3
        have key : ∀ f lo hi, hi - lo < f → lo ≤ q → q ≤ hi → hi ≤ b → ∀ υ, LF σ υ → wp_X6_quickestBelow_31 Q f (nI lo) (nI hi) υ := by
          intro f
          induction f with
          | zero => intro lo hi hf; omega
          | succ f ih =>
            intro lo hi hf h1 h2 h3 υ lf
            rw [wp_X6_quickestBelow_31]
            refine pk_le hi lo (fun hle => ?_) (fun hgt => ?_) rfl rfl (by omega) (by omega)
            · have r := h υ lf
              unfold tq at r
              rw [if_pos (by omega)] at r
              rwa [show lo = q by omega]
            · intro x4 e4
              rw [nI_add, show (2 : Int32) = nI 2 from rfl, pk_div (by omega) (by decide) (by decide)] at e4
              subst e4
              refine s_can hO (by omega) (lf.rm hM) hq (fun ω lf2 => ?_)
              by_cases z : q ≤ (lo + hi) / 2
              · rw [if_pos z]
                refine ⟨fun z => absurd z (by decide), fun _ => ?_⟩
                exact ih lo ((lo + hi) / 2) (by omega) h1 z (by omega) ω (lf.tr lf2)
              · rw [if_neg z]
                refine ⟨fun _ x2 e2 => ?_, fun z => absurd rfl z⟩
                rw [nI_1] at e2
                subst e2
                exact ih ((lo + hi) / 2 + 1) hi (by omega) (by omega) h2 h3 ω (lf.tr lf2)
        exact ⟨_, key (b + 1) 0 b (by omega) (by omega) hqb (Nat.le_refl _) τ lf⟩
      · rw [if_neg hqb]
        refine ⟨fun _ => ?_, fun z => absurd rfl z⟩
        have r := h τ lf
        unfold tq at r
        rwa [if_neg (by omega)] at r
theorem s_quickestNow {a : AT} {σ : Sg} {q : Nat} {Q : Int32 → Sg → Prop} (hO : OKN a) (hM : RM σ a) (hq : isQ a q) (h : ∀ τ, LF σ τ → Q (tq q 41) τ) : wp_X6_quickestNow σ Q := by
  unfold wp_X6_quickestNow
  exact s_quickestBelow (bd := 41) hO (Nat.le_refl _) hM hq h
