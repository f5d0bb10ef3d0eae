/-! the reference looks back; safe, quickest, open, openings -/
def LCL (σ τ : Sg) (E : Nat) : Prop := ∀ S : Nat → Bool, S 1 = false → (∀ b, b < 2 * E → S (ltf (σ 36) (pr b)) = true → 0 < spf (σ 37) b → S (ltf (σ 36) b) = true) → ∀ u, u < 346 → Sn τ u = true → S u = false
def LKI (σ τ : Sg) (E n i : Nat) : Prop := (∀ k, k ≠ 39 → k ≠ 40 → τ k = σ k) ∧ BF (σ 36) E (fun e => 0 < spf (σ 37) (pr e)) (Sn τ) (τ 39) n i ∧ LCL σ τ E ∧ τ 40 1 = 1 ∧ (∀ u, u < 346 → bz (τ 40 u)) ∧ i ≤ n
theorem LKI.mark {σ τ υ : Sg} {E n i e : Nat} (hG : GG (σ 34) (σ 35) (σ 36) (σ 37) E) (h : LKI σ τ E n i) (hi : i < n) (he : e < 2 * E) (hx : ltf (σ 36) (pr e) = ltf (τ 39) i) (hs : 0 < spf (σ 37) (pr e)) (hy : τ 40 (ltf (σ 36) e) = 0)
    (hυ : ∀ b j, υ b j = if b = 39 ∧ j = n then nI (ltf (σ 36) e) else if b = 40 ∧ j = ltf (σ 36) e then 1 else τ b j) : LKI σ υ E (n + 1) i ∧ Sn υ (ltf (σ 36) e) = true := by
  obtain ⟨h1, h2, h3, h4, h5, h6⟩ := h
  have h19 := hG.2.2.2
  have hy3 := (hG.2.1 e he).2.2.1
  have e40 : ∀ j, υ 40 j = if j = ltf (σ 36) e then 1 else τ 40 j := by intro j; rw [hυ]; simp
  have e39 : ∀ j, υ 39 j = if j = n then nI (ltf (σ 36) e) else τ 39 j := by intro j; rw [hυ]; simp
  have nM : Sn τ (ltf (σ 36) e) = false := by unfold Sn; rw [hy]; rfl
  have hn2 := h2.room hy3 nM
  have eM : ∀ u, Sn υ u = if u = ltf (σ 36) e then true else Sn τ u := by
    intro u
    unfold Sn
    rw [e40]
    by_cases z : u = ltf (σ 36) e
    · rw [if_pos z, if_pos z]; rfl
    · rw [if_neg z, if_neg z]
  refine ⟨⟨fun k k2 k3 => ?_, h2.mark (y := ltf (σ 36) e) hy3 nM hi eM e39, ?_, ?_, fun u hu => ?_, by omega⟩, by rw [eM, if_pos rfl]⟩
  · funext j; rw [hυ]; simp [k2, k3]; rw [h1 k k2 k3]
  · intro S s1 s2 u hu hm
    by_cases z : u = ltf (σ 36) e
    · subst z
      cases hh : S (ltf (σ 36) e)
      · rfl
      · have c1 := s2 (pr e) (pr_lt he) (by rw [pr_pr]; exact hh) hs
        obtain ⟨-, q2, q3⟩ := h2.2.1 i hi
        have := h3 S s1 s2 _ q2 q3
        rw [← hx, c1] at this; cases this
    · rw [eM, if_neg z] at hm
      exact h3 S s1 s2 u hu hm
  · rw [e40]
    split
    · rfl
    · exact h4
  · rw [e40]
    split
    · exact Or.inr rfl
    · exact h5 u hu
theorem s_looks_57 {σ : Sg} {E i : Nat} {Q : Sg → Prop} {K : Int32 → Int32 → Sg → Prop} (hG : GG (σ 34) (σ 35) (σ 36) (σ 37) E) {x : Nat}
    (hK : ∀ τ n, LKI σ τ E n (i + 1) → K (nI n) (nI (i + 1)) τ) : ∀ f k, k < f → k ≤ 2 * E → ∀ τ n, LKI σ τ E n i → i < n → ltf (τ 39) i = x →
      (∀ e, k ≤ e → e < 2 * E → ltf (σ 36) (pr e) = x → 0 < spf (σ 37) (pr e) → Sn τ (ltf (σ 36) e) = true) → wp_X6_looksBack_57 Q K f (nI n) (nI i) (la (σ 36) x k) τ := by
  intro f
  induction f with
  | zero => intro k hk; omega
  | succ f ih =>
    intro k hk hkE τ n hI hin hx hd
    have h19 := hG.2.2.2
    rw [wp_X6_looksBack_57]
    refine ⟨fun hz => ?_, fun z2 => ?_⟩
    · intro x2 e2
      rw [nI_1] at e2
      subst e2
      refine hK τ n ⟨hI.1, hI.2.1.done (fun e he h1 h2 => ?_), hI.2.2.1, hI.2.2.2.1, hI.2.2.2.2.1, by omega⟩
      rw [hx] at h1
      by_cases hke : k ≤ e
      · exact hd e hke he h1 h2
      · rcases la_cases (σ 36) x k with ⟨l1, l2⟩ | ⟨a, l1, l2, l3, l4⟩
        · exact absurd h1 (l2 e (by omega))
        · rw [l2] at hz
          exact absurd hz (nI_nm1 (by omega))
    · rcases la_cases (σ 36) x k with ⟨l1, l2⟩ | ⟨e, l1, l2, l3, l4⟩
      · exact absurd l1 z2
      · have he : e < 2 * E := by omega
        have hp := pr_lt he
        obtain ⟨t1, t2, t3, t4⟩ := hG.2.1 e he
        obtain ⟨u1, u2, u3⟩ := hG.up hp
        have f36 : τ 36 = σ 36 := hI.1 36 (by decide) (by decide)
        have f37 : τ 37 = σ 37 := hI.1 37 (by decide) (by decide)
        have ve : vp_in (nI e) 4000 := vp_in_nI (by omega) (by decide)
        have vp : vp_in (nI (pr e)) 4000 := vp_in_nI (by omega) (by decide)
        have ce : (nI e).toNatClampNeg = e := nI_clamp (by omega)
        have vy : vp_in (nI (ltf (σ 36) e)) 346 := vp_in_nI t3 (by decide)
        have cy : (nI (ltf (σ 36) e)).toNatClampNeg = ltf (σ 36) e := nI_clamp (by omega)
        rw [l2, ce, e_xor (by omega), nI_clamp (n := pr e) (by omega), f36, f37, u3, t2, cy]
        have next : ∀ (υ : Sg) (n' : Nat), LKI σ υ E n' i → i < n' → ltf (υ 39) i = x → (0 < spf (σ 37) (pr e) → Sn υ (ltf (σ 36) e) = true) → (∀ u, Sn τ u = true → Sn υ u = true) → wp_X6_looksBack_117 Q K (fun z1 z2 z3 σ => wp_X6_looksBack_57 Q K f z1 z2 z3 σ) (nI n') (nI i) (nI e) υ := by
          intro υ n' hI' hin' hx' hm hmm
          refine ⟨ve, fun x3 e3 => ?_⟩
          rw [ce, hI'.1 35 (by decide) (by decide), t1, l3] at e3
          subst e3
          refine ih e (by omega) (by omega) υ n' hI' hin' hx' (fun e' h1 h2 h3 h4 => ?_)
          by_cases z : e' = e
          · subst z; exact hm h4
          · by_cases z2 : e' < k
            · exact absurd h3 (l4 e' (by omega) z2)
            · exact hmm _ (hd e' (by omega) h2 h3 h4)
        refine ⟨vp, ?_⟩
        refine pk_eq (spf (σ 37) (pr e)).toNat 0 (fun hz => next τ n hI hin hx (fun z => by omega) (fun _ h => h)) (fun hz => ⟨ve, vy, fun hm => ?_, fun hm => next τ n hI hin hx (fun _ => Sn_t.mpr hm) (fun _ h => h)⟩) rfl rfl (by omega) (by omega)
        have hn2 := hI.2.1.room t3 (by unfold Sn; rw [hm]; rfl)
        refine ⟨ve, vy, fun σ12 e12 => ?_⟩
        have g36 : σ12 36 = σ 36 := by rw [e12, put_o (by decide), f36]
        rw [g36, t2, nI_clamp (n := n) (by omega)]
        refine ⟨ve, vp_in_nI (by omega) (by decide), fun σ14 e14 x1 ex => ?_⟩
        rw [nI_1] at ex
        subst ex
        obtain ⟨m1, m2⟩ := LKI.mark (υ := σ14) (e := e) hG hI hin he (by rw [hx]; exact l3) (by omega) hm (fun b j => by rw [e14, put_at, e12, put_at, nar1])
        refine next σ14 (n + 1) m1 (by omega) ?_ (fun _ => m2) (fun u hu => ?_)
        · unfold ltf
          rw [e14, put_n (by omega), e12, put_o (by decide)]
          exact hx
        · rw [Sn_t] at hu ⊢
          rw [e14, put_o (by decide), e12, put_at]
          split
          · rw [nar1]; decide
          · exact hu
theorem s_looks {σ : Sg} {E : Nat} {Q : Sg → Prop} (hG : GG (σ 34) (σ 35) (σ 36) (σ 37) E)
    (h : ∀ (τ : Sg), (∀ k, k ≠ 39 → k ≠ 40 → τ k = σ k) → Sn τ 1 = true → LCL σ τ E → (∀ u, u < 346 → bz (τ 40 u)) → (∀ b, b < 2 * E → Sn τ (ltf (σ 36) b) = true → 0 < spf (σ 37) b → Sn τ (ltf (σ 36) (pr b)) = true) → Q τ) : wp_X6_looksBack σ Q := by
  have key : ∀ f i, 346 - i < f → ∀ τ n, LKI σ τ E n i → wp_X6_looksBack_40 Q f (nI n) (nI i) τ := by
    intro f
    induction f with
    | zero => intro i hi; omega
    | succ f ih =>
      intro i hi τ n hI
      have hn := hI.2.1.1
      have hin := hI.2.2.2.2.2
      rw [wp_X6_looksBack_40]
      refine pk_le n i (fun hle => ?_) (fun hgt => ?_) rfl rfl (by omega) (by omega)
      · have : i = n := by omega
        subst this
        refine h τ hI.1 (by rw [Sn_t, hI.2.2.2.1]; decide) hI.2.2.1 hI.2.2.2.2.1 (fun b hb h1 h2 => ?_)
        exact hI.2.1.all (e := pr b) (pr_lt hb) (by rw [pr_pr]; exact (hG.2.1 b hb).2.2.1) (by rw [pr_pr]; exact h1) (by show 0 < spf (σ 37) (pr (pr b)); rw [pr_pr]; exact h2)
      · obtain ⟨q1, q2, q3⟩ := hI.2.1.2.1 i hgt
        rw [nI_clamp (n := i) (by omega), q1]
        refine ⟨vp_in_nI (by omega) (by decide), vp_in_nI q2 (by decide), fun x3 e3 => ?_⟩
        rw [nI_clamp (n := ltf (τ 39) i) (by omega), hI.1 34 (by decide) (by decide), hG.1 _ q2] at e3
        subst e3
        exact ⟨2 * E + 1, s_looks_57 (x := ltf (τ 39) i) hG (fun υ n' hI' => ih (i + 1) (by omega) υ n' hI') (2 * E + 1) (2 * E) (by omega) (by omega) τ n hI hgt rfl (fun e h1 h2 => by omega)⟩
  have k2 : ∀ d i, i + d = 346 → ∀ (τ : Sg), (∀ k, k ≠ 39 → k ≠ 40 → τ k = σ k) → (∀ u, u < i → τ 40 u = 0) → wp_X6_looksBack_2 Q (d + 1) (nI i) τ := by
    intro d
    induction d with
    | zero =>
      intro i hi τ f hu
      have : i = 346 := by omega
      subst this
      rw [wp_X6_looksBack_2]
      refine ⟨fun _ => ⟨vp_in_nI (n := 1) (by decide) (by decide), fun σ2 e2 => ⟨vp_in_nI (n := 0) (by decide) (by decide), fun σ3 e3 => ⟨347, ?_⟩⟩⟩, fun z => absurd (nI_le (a := 346) (by omega) (by omega)) z⟩
      have a40 : ∀ u, u < 346 → σ3 40 u = if u = 1 then 1 else 0 := by
        intro u hu2
        rw [e3, put_o (by decide), e2, put_at, nar1]
        by_cases z : u = 1
        · subst z; rfl
        · rw [if_neg z, if_neg (fun w => z w.2)]; exact hu u hu2
      have aS : ∀ u, u < 346 → Sn σ3 u = decide (u = 1) := by
        intro u hu2
        unfold Sn
        rw [a40 u hu2]
        by_cases z : u = 1
        · rw [if_pos z]; simp [z]
        · rw [if_neg z]; simp [z]
      refine key 347 0 (by omega) σ3 1 ⟨fun k k2 k3 => by rw [e3, put_o k2, e2, put_o k3, f k k2 k3], BF.one (y := 1) (by decide) aS (by rw [e3]; exact put_s), fun S s1 s2 u hu2 hm => ?_, by rw [a40 1 (by decide), if_pos rfl], fun u hu2 => ?_, by omega⟩
      · rw [aS u hu2] at hm
        rw [of_decide_eq_true hm]; exact s1
      · rw [a40 u hu2]
        split
        · exact Or.inr rfl
        · exact Or.inl rfl
    | succ d ih =>
      intro i hi τ f hu
      rw [wp_X6_looksBack_2, nI_clamp (n := i) (by omega)]
      refine ⟨fun z => absurd z (nI_ge (b := 346) (by omega) (by omega)), fun _ => ⟨vp_in_nI (by omega) (by decide), fun σ1 e1 x2 e2 => ?_⟩⟩
      rw [nI_1] at e2
      subst e2
      refine ih (i + 1) (by omega) σ1 (fun k k2 k3 => by rw [e1, put_o k3]; exact f k k2 k3) (fun u hu2 => ?_)
      rw [e1, put_at, nar0]
      by_cases z : u = i
      · subst z; rw [if_pos ⟨rfl, rfl⟩]
      · rw [if_neg (fun w => z w.2)]; exact hu u (by omega)
  exact ⟨347, k2 346 0 (by omega) σ (fun _ _ _ => rfl) (fun u hu => by omega)⟩
theorem s_looksBack {a : AT} {σ : Sg} {t E V : Nat} {Q : Sg → Prop} (hO : OKN a) (ht : t ≤ 40) (hS : RSt a t σ E V) (hM : MFV a t V)
    (h : ∀ (τ : Sg), LF σ τ → (∀ u, u < 346 → bz (τ 40 u)) → (∀ p m, p < 8 → m ≤ t → (τ 40 (18 + 8 * m + p) = 0 ↔ NOP a t p m)) → Q τ) : wp_X6_looksBack σ Q := by
  have hG := hS.1.1
  refine s_looks hG (fun τ f s1 hL hb hc => ?_)
  have hs : ∀ b, b < 2 * E → 0 ≤ spf (σ 37) b := fun b hb => (hG.2.1 b hb).2.2.2
  have hF := hS.fl
  have hN := hS.net hO
  have l0 : Sn τ 0 = false := by
    cases z : Sn τ 0
    · rfl
    · obtain ⟨-, X, hX⟩ := hM
      have c := closed hs hF (SX a t X) SX_s SX_t (by rw [hN, NET_SX hO ht, hX]; exact Int.le_refl _)
      have := hL (fun k => SX a t X (nu k)) (by rw [nu_1]; exact SX_t) (fun b hb h1 h2 => c b hb h1 h2) 0 (by decide) z
      rw [nu_0, SX_s] at this
      cases this
  refine h τ ⟨fun k a b => f k (by omega) (by omega), fun j hj => by rw [f 30 (by decide) (by decide)]⟩ hb (fun p m hp hm => ?_)
  have o := op_of hO ht hs hF hN hO.c0 hO.c1 (S := fun u => !Sn τ (nv u)) (by rw [nv_s, l0]; rfl) (by rw [nv_t, s1]; rfl)
    (fun b hb h1 h2 => by
      unfold rl at h1 ⊢
      rw [nv_nu (hG.2.1 _ (pr_lt hb)).2.2.1] at h1
      rw [nv_nu (hG.2.1 _ hb).2.2.1]
      cases z : Sn τ (ltf (σ 36) b)
      · rfl
      · rw [hc b hb z h2] at h1
        cases h1)
    (fun S' z1 z2 u hu h1 => by
      have h1' : Sn τ (nv u) = true := by simpa using h1
      have hv : nv u < 346 := by unfold nv; split <;> (try split) <;> (try split) <;> omega
      have := hL (fun k => S' (nu k)) (by rw [nu_1]; exact z1) (fun b hb h1 h2 => z2 b hb h1 h2) (nv u) hv h1'
      rwa [nu_nv hu] at this) hp hm
  rw [← o]
  have e : nv (8 * m + p) = 18 + 8 * m + p := by unfold nv; rw [if_pos (by omega)]; omega
  rw [e]
  unfold Sn
  simp
/-! values -/
noncomputable def qk (a : AT) : Nat := Classical.choose (isQ_ex a)
theorem qk_is (a : AT) : isQ a (qk a) := Classical.choose_spec (isQ_ex a)
theorem qk_le (a : AT) : qk a ≤ 41 := (qk_is a).1
noncomputable def mv (a : AT) (t : Nat) : Nat := Classical.epsilon (fun V : Nat => MFV a t (V : Int))
theorem mv_eq {a : AT} {t V : Nat} (h : MFV a t (V : Int)) : mv a t = V := by
  have h2 : MFV a t ((mv a t : Nat) : Int) := Classical.epsilon_spec (p := fun V : Nat => MFV a t (V : Int)) ⟨V, h⟩
  have := h2.uniq h
  omega
noncomputable def opn (a : AT) (t p m : Nat) : Int32 := @ite _ (NOP a t p m) (Classical.propDecidable _) 0 1
theorem opn_0 {a : AT} {t p m : Nat} (h : NOP a t p m) : opn a t p m = 0 := if_pos h
theorem opn_1 {a : AT} {t p m : Nat} (h : ¬ NOP a t p m) : opn a t p m = 1 := if_neg h
theorem s_X5_isT {σ : Sg} {x : Int32} {Q : Int32 → Sg → Prop} (h0 : inr 0 40 x = 0 → Q 0 σ) (h1 : ∀ t, t ≤ 40 → x = nI t → Q 1 σ) : wp_X5_isT σ x Q := by
  unfold wp_X5_isT
  have k0 : inr 0 40 x = 0 → Q 0 σ := h0
  have k1 : inr 0 40 x = 1 → Q 1 σ := fun e => by
    obtain ⟨v, -, v2, v3⟩ := inr_yes (a := 0) (b := 40) (x := x) (by decide) (by decide) (by rw [show nI 0 = (0 : Int32) from rfl, show nI 40 = (40 : Int32) from rfl, e]; decide)
    exact h1 v v2 v3
  refine ⟨fun z => ⟨Or.inl rfl, k0 (by unfold inr; rw [if_pos z])⟩, fun z => ⟨fun z2 => ⟨Or.inl rfl, k0 (by unfold inr; rw [if_neg z, if_pos z2])⟩, fun z2 => ⟨Or.inr rfl, k1 (by unfold inr; rw [if_neg z, if_neg z2])⟩⟩⟩
theorem inr40 {t : Nat} (h : t ≤ 40) : ¬ inr 0 40 (nI t) = 0 := by
  have := inr_nI (a := 0) (b := 40) (v := t) (by decide) (by decide) (by omega)
  rw [show nI 0 = (0 : Int32) from rfl, show nI 40 = (40 : Int32) from rfl, if_pos ⟨by omega, h⟩] at this
  rw [this]; decide
theorem FMt (σ : Sg) (v : Int32) : FM σ (put σ 30 0 v) := FM_p σ (by decide)
noncomputable def safeA (x : Int32) (a : AT) : Int32 := if inr 0 40 x = 0 then -1 else nI (mv a x.toNatClampNeg)
theorem L_safe {σ : Sg} (hI : INV σ) (p1 : Int32) {K : Sg → Prop} (hK : ∀ τ, INV τ → K τ) {C : Int32 → Sg → Prop} (hw : ∀ r1 σ1, wp_X6_safe σ1 p1 (fun r2 σ2 => (r1 = r2 → K σ2) ∧ (¬ (r1 = r2) → False)) → C r1 σ1) : wp_X5_safe σ p1 C := by
  refine L_ask hI (wpC := fun σ C => wp_X5_safe σ p1 C) (wpM := fun σ C => wp_X6_safe σ p1 C) (safeA p1) (fun a hO τ hC Q h => ?_) (fun a hO τ hM Q h => ?_) hK hw
  · show wp_X5_safe τ p1 Q
    unfold wp_X5_safe
    refine s_X5_isT (fun e => ⟨fun _ => ?_, fun z => absurd rfl z⟩) (fun t ht e => ⟨fun z => absurd z (by decide), fun _ => ?_⟩)
    · have := h τ (FC.rf τ) (TC.rf τ) hC
      unfold safeA at this
      rwa [if_pos e] at this
    · subst e
      refine s_mostSafeBy hO.n ht hC (fun υ V f hV => ?_)
      have := h υ f.fc f.tc (f.rc hC)
      unfold safeA at this
      rwa [if_neg (inr40 ht), nI_clamp (by omega), mv_eq hV] at this
  · show wp_X6_safe τ p1 Q
    unfold wp_X6_safe
    intro σ1 e1
    have hM1 : RM σ1 a := hM.keep (by rw [e1, put_o (by decide)])
    have f1 : FM τ σ1 := by rw [e1]; exact FMt τ 0
    have t1 : TM τ σ1 := by rw [e1]; exact TM_t τ 0
    refine s_isMinute (fun e => ⟨fun _ => ?_, fun z => absurd rfl z⟩) (fun t ht e => ⟨fun z => absurd z (by decide), fun _ => ?_⟩)
    · have := h σ1 f1 t1 hM1
      unfold safeA at this
      rwa [if_pos e] at this
    · subst e
      refine s_flows hO.n ht hM1 (fun υ E V lf hS hV => ?_)
      have := h υ (f1.tr lf.fm) (t1.tr lf.tm) (lf.rm hM1)
      unfold safeA at this
      rwa [if_neg (inr40 ht), nI_clamp (by omega), mv_eq hV] at this
noncomputable def quA (a : AT) : Int32 := tq (qk a) 41
theorem s_told {σ : Sg} {q : Nat} {Q : Int32 → Sg → Prop} (hq : q ≤ 41) (h : Q (tq q 41) σ) : wp_X5_told σ (nI q) Q := by
  unfold wp_X5_told
  unfold tq at h
  refine pk_eq q 41 (fun e => ?_) (fun e => ?_) rfl rfl (by omega) (by omega)
  · rwa [if_neg (by omega)] at h
  · rwa [if_pos (by omega)] at h
theorem L_quickest {σ : Sg} (hI : INV σ) {K : Sg → Prop} (hK : ∀ τ, INV τ → K τ) {C : Int32 → Sg → Prop} (hw : ∀ r1 σ1, wp_X6_quickest σ1 (fun r2 σ2 => (r1 = r2 → K σ2) ∧ (¬ (r1 = r2) → False)) → C r1 σ1) : wp_X5_quickest σ C := by
  refine L_ask hI (wpC := fun σ C => wp_X5_quickest σ C) (wpM := fun σ C => wp_X6_quickest σ C) quA (fun a hO τ hC Q h => ?_) (fun a hO τ hM Q h => ?_) hK hw
  · show wp_X5_quickest τ Q
    unfold wp_X5_quickest
    exact s_soonest hO.n hC (qk_is a) (fun υ f => s_told (qk_le a) (h υ f.fc f.tc (f.rc hC)))
  · show wp_X6_quickest τ Q
    unfold wp_X6_quickest
    intro σ1 e1
    have hM1 : RM σ1 a := hM.keep (by rw [e1, put_o (by decide)])
    have f1 : FM τ σ1 := by rw [e1]; exact FMt τ 0
    have t1 : TM τ σ1 := by rw [e1]; exact TM_t τ 0
    exact s_quickestNow hO.n hM1 (qk_is a) (fun υ lf => h υ (f1.tr lf.fm) (t1.tr lf.tm) (lf.rm hM1))
theorem s_isOpen {a : AT} {σ : Sg} {t p m : Nat} {Q : Int32 → Sg → Prop} (hp : p < 8) (hm : m ≤ t) (ht : t ≤ 40) (hx : ∀ p m, p < 8 → m ≤ t → (σ 23 (8 * m + p) = -1 ↔ NOP a t p m)) (h : Q (opn a t p m) σ) : wp_X0_isOpen σ (nI p) (nI m) Q := by
  unfold wp_X0_isOpen
  rw [show nI m * (8 : Int32) = nI (m * 8) from pk_mul m 8, nI_add, Nat.mul_comm m 8, nI_clamp (n := 8 * m + p) (by omega)]
  refine ⟨vp_in_nI (by omega) (by decide), fun z => ⟨Or.inl rfl, ?_⟩, fun z => ⟨Or.inr rfl, ?_⟩⟩
  · rwa [opn_0 ((hx p m hp hm).mp z)] at h
  · rwa [opn_1 (fun w => z ((hx p m hp hm).mpr w))] at h
theorem opn_bz (a : AT) (t p m : Nat) : bz (opn a t p m) := by
  by_cases h : NOP a t p m
  · rw [opn_0 h]; exact Or.inl rfl
  · rw [opn_1 h]; exact Or.inr rfl
theorem s_seen {a : AT} {τ : Sg} {t p m : Nat} (hp : p < 8) (hm : m ≤ t) (ht : t ≤ 40) (hb : ∀ u, u < 346 → bz (τ 40 u)) (hx : ∀ p m, p < 8 → m ≤ t → (τ 40 (18 + 8 * m + p) = 0 ↔ NOP a t p m)) : τ 40 (18 + 8 * m + p) = opn a t p m := by
  have h1 := hx p m hp hm
  rcases hb (18 + 8 * m + p) (by omega) with e | e
  · rw [e, opn_0 (h1.mp e)]
  · rw [e, opn_1 (fun w => by rw [h1.mpr w] at e; exact absurd e (by decide))]
noncomputable def openA (x y z : Int32) (a : AT) : Int32 := if inr 0 40 x = 0 ∨ inp (nI (aNP a)) y = 0 ∨ inr 0 x z = 0 then 0 else opn a x.toNatClampNeg y.toNatClampNeg z.toNatClampNeg
theorem inr0x {t : Nat} {z : Int32} (ht : t ≤ 40) : (inr 0 (nI t) z = 0 ∧ ∀ m, m ≤ t → z ≠ nI m) ∨ ∃ m, m ≤ t ∧ z = nI m ∧ ¬ inr 0 (nI t) z = 0 := by
  by_cases h : inr 0 (nI t) z = 0
  · refine Or.inl ⟨h, fun m hm e => ?_⟩
    subst e
    have := inr_nI (a := 0) (b := t) (v := m) (by decide) (by omega) (by omega)
    rw [show nI 0 = (0 : Int32) from rfl, h, if_pos ⟨by omega, hm⟩] at this
    exact absurd this (by decide)
  · obtain ⟨v, -, v2, v3⟩ := inr_yes (a := 0) (b := t) (by decide) (by omega) h
    exact Or.inr ⟨v, v2, v3, h⟩
theorem L_open {σ : Sg} (hI : INV σ) (p1 p2 p3 : Int32) {K : Sg → Prop} (hK : ∀ τ, INV τ → K τ) {C : Int32 → Sg → Prop} (hw : ∀ r1 σ1, wp_X6_open σ1 p1 p2 p3 (fun r2 σ2 => (r1 = r2 → K σ2) ∧ (¬ (r1 = r2) → False)) → C r1 σ1) : wp_X5_open σ p1 p2 p3 C := by
  refine L_ask hI (wpC := fun σ C => wp_X5_open σ p1 p2 p3 C) (wpM := fun σ C => wp_X6_open σ p1 p2 p3 C) (openA p1 p2 p3) (fun a hO τ hC Q h => ?_) (fun a hO τ hM Q h => ?_) hK hw
  · show wp_X5_open τ p1 p2 p3 Q
    unfold wp_X5_open
    have h8 := hO.1
    have no : (inr 0 40 p1 = 0 ∨ inp (nI (aNP a)) p2 = 0 ∨ inr 0 p1 p3 = 0) → Q 0 τ := fun w => by
      have := h τ (FC.rf τ) (TC.rf τ) hC
      unfold openA at this
      rwa [if_pos w] at this
    refine s_X5_isT (fun e => ⟨fun _ => ⟨Or.inl rfl, no (Or.inl e)⟩, fun z => absurd rfl z⟩) (fun t ht e => ⟨fun z => absurd z (by decide), fun _ => s_X3_hasPlace ?_⟩)
    rw [hC.1]
    refine ⟨fun z => ⟨Or.inl rfl, no (Or.inr (Or.inl z))⟩, fun z => ?_⟩
    obtain ⟨p, hp, rfl⟩ := inp_yes (by omega) z
    subst e
    refine ⟨fun z1 => ⟨Or.inl rfl, no (Or.inr (Or.inr (by unfold inr; rw [if_pos z1])))⟩, fun z1 => ⟨fun z2 => ?_, fun z2 => ⟨Or.inl rfl, no (Or.inr (Or.inr ?_))⟩⟩⟩
    · rcases inr0x (z := p3) ht with ⟨q1, -⟩ | ⟨m, m1, m2, m3⟩
      · exfalso
        unfold inr at q1
        rw [if_neg z1, if_neg (by rw [Int32.lt_iff_toInt_lt]; rw [Int32.le_iff_toInt_le] at z2; omega)] at q1
        exact absurd q1 (by decide)
      · subst m2
        refine s_findOpen hO.n ht hC (fun υ f hx => s_isOpen (a := a) (t := t) (by omega) m1 ht hx ⟨opn_bz _ _ _ _, ?_⟩)
        have := h υ f.sf.fc f.sf.tc (f.rc hC)
        unfold openA at this
        rw [if_neg (by rintro (w | w | w); exact inr40 ht w; exact z w; exact m3 w), nI_clamp (by omega), nI_clamp (by omega), nI_clamp (by omega)] at this
        exact this
    · unfold inr
      rw [if_neg z1, if_pos (by rw [Int32.lt_iff_toInt_lt]; rw [Int32.le_iff_toInt_le] at z2; omega)]
  · show wp_X6_open τ p1 p2 p3 Q
    unfold wp_X6_open
    have h8 := hO.1
    intro σ1 e1
    have hM1 : RM σ1 a := hM.keep (by rw [e1, put_o (by decide)])
    have f1 : FM τ σ1 := by rw [e1]; exact FMt τ 0
    have t1 : TM τ σ1 := by rw [e1]; exact TM_t τ 0
    have no : (inr 0 40 p1 = 0 ∨ inp (nI (aNP a)) p2 = 0 ∨ inr 0 p1 p3 = 0) → Q 0 σ1 := fun w => by
      have := h σ1 f1 t1 hM1
      unfold openA at this
      rwa [if_pos w] at this
    refine s_isMinute (fun e => ⟨fun _ => ⟨Or.inl rfl, no (Or.inl e)⟩, fun z => absurd rfl z⟩) (fun t ht e => ⟨fun z => absurd z (by decide), fun _ => s_X6_isPlace hM1.1 (by omega) ?_⟩)
    refine ⟨fun z => ⟨Or.inl rfl, no (Or.inr (Or.inl z))⟩, fun z => s_X6_isIn ⟨fun z1 => ⟨Or.inl rfl, no (Or.inr (Or.inr z1))⟩, fun z1 => ?_⟩⟩
    obtain ⟨p, hp, rfl⟩ := inp_yes (by omega) z
    subst e
    rcases inr0x (z := p3) ht with ⟨q1, -⟩ | ⟨m, m1, m2, m3⟩
    · exact absurd q1 z1
    · subst m2
      refine s_flows hO.n ht hM1 (fun υ E V lf hS hV => s_looksBack hO.n ht hS hV (fun ω lf2 hb hx => s_X6_node ?_))
      rw [nI_clamp (n := 18 + 8 * m + p) (by omega), s_seen (a := a) (t := t) (by omega) m1 ht hb hx]
      refine ⟨vp_in_nI (by omega) (by decide), opn_bz _ _ _ _, ?_⟩
      have := h ω (f1.tr (lf.tr lf2).fm) (t1.tr (lf.tr lf2).tm) ((lf.tr lf2).rm hM1)
      unfold openA at this
      rw [if_neg (by rintro (w | w | w); exact inr40 ht w; exact z w; exact m3 w), nI_clamp (by omega), nI_clamp (by omega), nI_clamp (by omega)] at this
      exact this
/-- how many of n minutes are 1 -/
def cn1 (f : Nat → Int32) : Nat → Nat
  | 0 => 0
  | n + 1 => cn1 f n + (if f n = 0 then 0 else 1)
theorem cn1_le (f : Nat → Int32) : ∀ n, cn1 f n ≤ n := by
  intro n
  induction n with
  | zero => exact Nat.le_refl _
  | succ n ih => rw [cn1]; split <;> omega
noncomputable def opsA (x y : Int32) (a : AT) : Int32 := if inr 0 40 x = 0 ∨ inp (nI (aNP a)) y = 0 then -1 else nI (cn1 (fun m => opn a x.toNatClampNeg y.toNatClampNeg m) (x.toNatClampNeg + 1))
theorem L_openings {σ : Sg} (hI : INV σ) (p1 p2 : Int32) {K : Sg → Prop} (hK : ∀ τ, INV τ → K τ) {C : Int32 → Sg → Prop} (hw : ∀ r1 σ1, wp_X6_openings σ1 p1 p2 (fun r2 σ2 => (r1 = r2 → K σ2) ∧ (¬ (r1 = r2) → False)) → C r1 σ1) : wp_X5_openings σ p1 p2 C := by
  refine L_ask hI (wpC := fun σ C => wp_X5_openings σ p1 p2 C) (wpM := fun σ C => wp_X6_openings σ p1 p2 C) (opsA p1 p2) (fun a hO τ hC Q h => ?_) (fun a hO τ hM Q h => ?_) hK hw
  · show wp_X5_openings τ p1 p2 Q
    unfold wp_X5_openings
    have h8 := hO.1
    have no : (inr 0 40 p1 = 0 ∨ inp (nI (aNP a)) p2 = 0) → Q (-1) τ := fun w => by
      have := h τ (FC.rf τ) (TC.rf τ) hC
      unfold opsA at this
      rwa [if_pos w] at this
    refine s_X5_isT (fun e => ⟨fun _ => no (Or.inl e), fun z => absurd rfl z⟩) (fun t ht e => ⟨fun z => absurd z (by decide), fun _ => s_X3_hasPlace ?_⟩)
    rw [hC.1]
    refine ⟨fun z => no (Or.inr z), fun z => ?_⟩
    obtain ⟨p, hp, rfl⟩ := inp_yes (by omega) z
    subst e
    refine s_findOpen hO.n ht hC (fun υ f hx => ?_)
    have key : ∀ d m, m + d = t + 1 → wp_X5_openings_33 Q (d + 1) (nI t) (nI p) (nI (cn1 (fun m => opn a t p m) m)) (nI m) υ := by
      intro d
      induction d with
      | zero =>
        intro m hm
        have : m = t + 1 := by omega
        subst this
        rw [wp_X5_openings_33]
        refine ⟨fun _ => ?_, fun z => absurd (nI_lt (by omega) (by omega)) z⟩
        have := h υ f.sf.fc f.sf.tc (f.rc hC)
        unfold opsA at this
        rw [if_neg (by rintro (w | w); exact inr40 ht w; exact z w), nI_clamp (by omega), nI_clamp (by omega)] at this
        exact this
      | succ d ih =>
        intro m hm
        rw [wp_X5_openings_33]
        refine ⟨fun z => absurd z (nI_nlt (by omega) (by omega)), fun _ => s_isOpen (a := a) (t := t) (by omega) (by omega) ht hx ?_⟩
        have := ih (m + 1) (by omega)
        rw [cn1] at this
        refine ⟨fun z => ?_, fun z => ?_⟩
        · rw [if_pos z] at this
          intro x4 e4
          rw [nI_1] at e4
          subst e4
          exact this
        · rw [if_neg z] at this
          intro x3 e3 x4 e4
          rw [nI_1] at e3 e4
          subst e3
          subst e4
          exact this
    exact ⟨_, key (t + 1) 0 (by omega)⟩
  · show wp_X6_openings τ p1 p2 Q
    unfold wp_X6_openings
    have h8 := hO.1
    intro σ1 e1
    have hM1 : RM σ1 a := hM.keep (by rw [e1, put_o (by decide)])
    have f1 : FM τ σ1 := by rw [e1]; exact FMt τ 0
    have t1 : TM τ σ1 := by rw [e1]; exact TM_t τ 0
    have no : (inr 0 40 p1 = 0 ∨ inp (nI (aNP a)) p2 = 0) → Q (-1) σ1 := fun w => by
      have := h σ1 f1 t1 hM1
      unfold opsA at this
      rwa [if_pos w] at this
    refine s_isMinute (fun e => ⟨fun _ => no (Or.inl e), fun z => absurd rfl z⟩) (fun t ht e => ⟨fun z => absurd z (by decide), fun _ => s_X6_isPlace hM1.1 (by omega) ?_⟩)
    refine ⟨fun z => no (Or.inr z), fun z => ?_⟩
    obtain ⟨p, hp, rfl⟩ := inp_yes (by omega) z
    subst e
    refine s_flows hO.n ht hM1 (fun υ E V lf hS hV => s_looksBack hO.n ht hS hV (fun ω lf2 hb hx => ?_))
    have key : ∀ d m, m + d = t + 1 → wp_X6_openings_38 Q (d + 1) (nI t) (nI p) (nI (cn1 (fun m => opn a t p m) m)) (nI m) ω := by
      intro d
      induction d with
      | zero =>
        intro m hm
        have : m = t + 1 := by omega
        subst this
        rw [wp_X6_openings_38]
        refine ⟨fun _ => ?_, fun z => absurd (nI_lt (by omega) (by omega)) z⟩
        have := h ω (f1.tr (lf.tr lf2).fm) (t1.tr (lf.tr lf2).tm) ((lf.tr lf2).rm hM1)
        unfold opsA at this
        rw [if_neg (by rintro (w | w); exact inr40 ht w; exact z w), nI_clamp (by omega), nI_clamp (by omega)] at this
        exact this
      | succ d ih =>
        intro m hm
        rw [wp_X6_openings_38]
        refine ⟨fun z => absurd z (nI_nlt (by omega) (by omega)), fun _ => s_X6_node ?_⟩
        rw [nI_clamp (n := 18 + 8 * m + p) (by omega), s_seen (a := a) (t := t) (by omega) (by omega) ht hb hx]
        refine ⟨vp_in_nI (by omega) (by decide), ?_⟩
        have := ih (m + 1) (by omega)
        rw [cn1] at this
        refine ⟨fun z => ?_, fun z => ?_⟩
        · rw [if_pos z] at this
          intro x4 e4 x5 e5
          rw [show (0 : Int32) = nI 0 from rfl, nI_add] at e4
          rw [nI_1] at e5
          subst e4
          subst e5
          exact this
        · rw [if_neg z] at this
          intro x4 e4 x5 e5
          rw [nI_1] at e4 e5
          subst e4
          subst e5
          exact this
    exact ⟨_, key (t + 1) 0 (by omega)⟩
