def AE (a : AT) (t : Nat) (j : Nat) (v : Int32) : Prop := ∀ m p w, m < t → p < aNP a → w < 3 → pRn a (m + 1) 5 1 = 0 → j = 24 * m + 3 * p + w → v = pRn a (m + 1) w p
def AEp (a : AT) (t n : Nat) (F : Sg) (j : Nat) (v : Int32) : Prop := AE a t j v ∧ ∀ p w, p < n → w < 3 → j = 24 * t + 3 * p + w → v = F w p
theorem MR_E {a : AT} {E E' : Nat → Int32 → Prop} {σ0 σ s : Sg} (h : MR a E σ0 σ s) (hE : ∀ j v, E j v → E' j v) : MR a E' σ0 σ s := ⟨h.1, h.2.1, h.2.2.1, h.2.2.2.1, h.2.2.2.2.1, h.2.2.2.2.2.1, h.2.2.2.2.2.2.1, h.2.2.2.2.2.2.2.1, fun j => hE j _ (h.2.2.2.2.2.2.2.2 j)⟩
theorem MR_45 {a : AT} {E E' : Nat → Int32 → Prop} {σ0 σ τ s : Sg} (h : MR a E σ0 σ s) (hk : ∀ b, b ≠ 45 → τ b = σ b) (hE : ∀ j, E' j (τ 45 j)) : MR a E' σ0 τ s := by
  obtain ⟨h1, h2, h3, h4, h5, h6, h7, h8, h9⟩ := h
  exact ⟨h1.keep (hk 31 (by decide)), h2.tr (fun b hb => hk b (by omega)), h3.tr ⟨by rw [hk 30 (by decide)], by rw [hk 30 (by decide)], hk 33 (by decide)⟩, fun b i hb hd => by rw [hk (mm b) (mm_ne).2.2.2.1]; exact h4 b i hb hd, by rw [hk 30 (by decide)]; exact h5, by rw [hk 30 (by decide)]; exact h6, by rw [hk 30 (by decide)]; exact h7, by rw [hk 30 (by decide)]; exact h8, hE⟩
theorem wpv_0 {s : Sg} (h : CWok s) : wpv s = 0 ↔ s 5 12 = -1 := by
  unfold wpv
  rcases h with h | ⟨p, m, hp, hm, h1, h2⟩
  · simp [h.1]
  · have n1 : ¬ nI p = -1 := fun z => by
      have := congrArg Int32.toInt z
      rw [nI_toInt (by omega)] at this
      have e : (-1 : Int32).toInt = -1 := by decide
      omega
    rw [h1, h2, if_neg n1, show (3 : Int32) = nI 3 from rfl, show (8 : Int32) = nI 8 from rfl, show (1000 : Int32) = nI 1000 from rfl, pk_mul, pk_mul, nI_add, nI_add]
    exact ⟨fun z => absurd z (nI_ne0 (by omega) (by omega)), fun z => absurd z n1⟩
theorem MR_cw {a : AT} {E : Nat → Int32 → Prop} {σ0 σ s : Sg} (h : MR a E σ0 σ s) {p t : Nat} (hp : p < 8) : MR a E σ0 (put σ 30 24 (3 + 8 * nI p + 1000 * nI t)) (put (put s 5 12 (nI p)) 5 13 (nI t)) := by
  obtain ⟨h1, h2, h3, h4, h5, h6, h7, h8, h9⟩ := h
  have n1 : ¬ nI p = -1 := fun z => by
    have := congrArg Int32.toInt z
    rw [nI_toInt (by omega)] at this
    have e : (-1 : Int32).toInt = -1 := by decide
    omega
  refine ⟨h1.keep (put_o (by decide)), h2.tr (FM_p σ (by decide)), h3.tr (TM_30 σ _ (by decide)), fun b i hb hd => ?_, by rw [put_n (by decide), put_n (by decide), put_n (by decide)]; exact h5, by rw [put_n (by decide), put_n (by decide), put_n (by decide)]; exact h6, by rw [put_n (by decide), put_n (by decide), put_n (by decide)]; exact h7, ?_, fun j => by rw [put_o (by decide)]; exact h9 j⟩
  · rw [put_o (b := b) (by omega), put_o (b := b) (by omega), put_o (mm_ne).1]; exact h4 b i hb hd
  · unfold wpv
    rw [put_s, put_s, put_n (by decide), put_s, if_neg n1]
theorem MR_en {a : AT} {E : Nat → Int32 → Prop} {σ0 σ s : Sg} (h : MR a E σ0 σ s) (v : Int32) : MR a E σ0 (put σ 30 25 (v + 1)) (put s 5 2 v) := by
  obtain ⟨h1, h2, h3, h4, h5, h6, h7, h8, h9⟩ := h
  refine ⟨h1.keep (put_o (by decide)), h2.tr (FM_p σ (by decide)), h3.tr (TM_30 σ _ (by decide)), fun b i hb hd => ?_, by rw [put_n (by decide), put_n (by decide)]; exact h5, by rw [put_n (by decide), put_n (by decide)]; exact h6, by rw [put_s, put_s], ?_, fun j => by rw [put_o (by decide)]; exact h9 j⟩
  · rw [put_o (b := b) (by omega), put_o (mm_ne).1]; exact h4 b i hb hd
  · rw [put_n (by decide), h8]; unfold wpv; rw [put_n (by decide), put_n (by decide)]
theorem s_X6_minuteEnds {σ : Sg} {a : AT} {σ0 s : Sg} {t : Nat} {Q : Sg → Prop} (h8 : aNP a ≤ 8) (hR : MR a (AE a t) σ0 σ s) (hcw : CWok s) (ht : t ≤ 50) (h : ∀ τ, MR a (AEp a t (aNP a) s) σ0 τ (pNc a (put s 5 2 (nI t)) t (aNP a)) → Q τ) : wp_X6_minuteEnds σ (nI t) Q := by
  have hcw2 : CWok (put s 5 2 (nI t)) := by
    unfold CWok
    rw [put_n (by decide), put_n (by decide)]
    exact hcw
  have key : ∀ d p, p + d = aNP a → ∀ τ, MR a (AEp a t p s) σ0 τ (pNc a (put s 5 2 (nI t)) t p) → wp_X6_minuteEnds_9 Q (d + 1) (nI t) (nI p) τ := by
    intro d
    induction d with
    | zero =>
      intro p hp τ R
      have : p = aNP a := by omega
      subst this
      rw [wp_X6_minuteEnds_9]
      refine s_X6_places ?_
      rw [R.1.1]
      exact ⟨fun _ => h τ R, fun z => absurd (nI_le (Nat.le_refl _) (by omega)) z⟩
    | succ d ih =>
      intro p hp τ R
      rw [wp_X6_minuteEnds_9]
      refine s_X6_places ?_
      rw [R.1.1]
      refine ⟨fun z => absurd z (nI_ge (by omega) (by omega)), fun _ => ?_⟩
      intro x3 e3
      have e3 : x3 = nI (24 * t + 3 * p) := by rw [e3, show (24 : Int32) = nI 24 from rfl, show (3 : Int32) = nI 3 from rfl, pk_mul, pk_mul, nI_add]
      subst e3
      have v8 : vp_in (nI p) 8 := vp_in_nI (by omega) (by decide)
      obtain ⟨n1, n2, n3, n4⟩ := pNc_ok a (put s 5 2 (nI t)) t h8 ht hcw2 p (by omega)
      have es : ∀ b, b ≤ 2 → pNc a (put s 5 2 (nI t)) t p b p = s b p := fun b hb => by rw [n4 b (by omega), put_o (by omega)]
      rw [nI_1, show nI (24 * t + 3 * p) + 2 = nI (24 * t + 3 * p + 2) from nI_add _ 2, nI_clamp (n := 24 * t + 3 * p) (by omega), nI_clamp (n := 24 * t + 3 * p + 1) (by omega), nI_clamp (n := 24 * t + 3 * p + 2) (by omega), nI_clamp (n := p) (by omega)]
      refine ⟨v8, vp_in_nI (by omega) (by decide), fun σ6 e6 => ⟨v8, vp_in_nI (by omega) (by decide), fun σ7 e7 => ⟨v8, vp_in_nI (by omega) (by decide), fun σ8 e8 => ⟨v8, ?_⟩⟩⟩⟩
      have k6 : ∀ b, b ≠ 45 → σ6 b = τ b := fun b hb => by rw [e6, put_o hb]
      have k7 : ∀ b, b ≠ 45 → σ7 b = τ b := fun b hb => by rw [e7, put_o hb, k6 b hb]
      have k8 : ∀ b, b ≠ 45 → σ8 b = τ b := fun b hb => by rw [e8, put_o hb, k7 b hb]
      rw [show τ 43 p = _ from R.p (b := 0) (by decide) (by omega), es 0 (by decide)] at e6
      rw [k6 42 (by decide), show τ 42 p = _ from R.p (b := 1) (by decide) (by omega), es 1 (by decide)] at e7
      rw [k7 44 (by decide), show τ 44 p = _ from R.p (b := 2) (by decide) (by omega), es 2 (by decide)] at e8
      have R8 : MR a (AEp a t (p + 1) s) σ0 σ8 (pNc a (put s 5 2 (nI t)) t p) := by
        refine MR_45 R k8 ?_
        intro j
        obtain ⟨a1, a2⟩ := R.2.2.2.2.2.2.2.2 j
        have ej : σ8 45 j = if j = 24 * t + 3 * p + 2 then s 2 p else if j = 24 * t + 3 * p + 1 then s 1 p else if j = 24 * t + 3 * p then s 0 p else τ 45 j := by
          rw [e8, e7, e6]
          simp only [put_at]
          simp
        rw [ej]
        refine ⟨fun m q w hm hq hw hv hj => ?_, fun q w hq hw hj => ?_⟩
        · rw [if_neg (by omega), if_neg (by omega), if_neg (by omega)]
          exact a1 m q w hm hq hw hv hj
        · by_cases hqp : q = p
          · subst hqp
            rcases (show w = 0 ∨ w = 1 ∨ w = 2 by omega) with rfl | rfl | rfl
            · rw [if_neg (by omega), if_neg (by omega), if_pos (by omega)]
            · rw [if_neg (by omega), if_pos (by omega)]
            · rw [if_pos (by omega)]
          · rw [if_neg (by omega), if_neg (by omega), if_neg (by omega)]
            exact a2 q w (by omega) hw hj
      refine s_ofPlace (w := 3) h8 R8.1 (by omega) (by decide) ?_
      rw [show σ8 43 p = _ from R8.p (b := 0) (by decide) (by omega)]
      have nx : ∀ υ, MR a (AEp a t (p + 1) s) σ0 υ (pNc a (put s 5 2 (nI t)) t (p + 1)) → wp_X6_minuteEnds_104 Q (fun z1 z2 σ => wp_X6_minuteEnds_9 Q (d + 1) z1 z2 σ) (nI t) (nI p) υ := by
        intro υ R9 x2 e2
        rw [nI_1] at e2
        subst e2
        exact ih (p + 1) (by omega) υ R9
      have e24 : σ8 30 24 = wpv (pNc a (put s 5 2 (nI t)) t p) := R8.2.2.2.2.2.2.2.1
      rw [e24, wpv_0 n1]
      refine ⟨fun g => nx σ8 ?_, fun g => ⟨fun g2 σ14 e14 => nx σ14 ?_, fun g2 => nx σ8 ?_⟩⟩
      · rw [pNc, if_neg (fun z => z.2 g)]; exact R8
      · rw [pNc, if_pos ⟨g2, g⟩, e14]
        exact MR_cw R8 (by omega)
      · rw [pNc, if_neg (fun z => g2 z.1)]; exact R8
  intro σ1 e1
  refine ⟨aNP a + 1, key (aNP a) 0 (by omega) σ1 ?_⟩
  rw [e1]
  exact MR_E (MR_en hR (nI t)) (fun j v hj => ⟨hj, fun q w hq => by omega⟩)
theorem s_X6_goes {σ : Sg} {a : AT} {L : Nat} {Q : Sg → Prop} (hO : OKT a) (hM : RM σ a) (hL : L ≤ 50) (h : ∀ τ, MR a (AE a (L + 1)) σ τ (pRn a (L + 1)) → Q τ) : wp_X6_goes σ (nI L) Q := by
  have h8 := hO.1
  have h40 := hO.2.2.1
  have fz : ∀ t j, ¬ pRn a t 5 1 = 0 → pRn a (t + j) = pRn a t := by
    intro t j g
    induction j with
    | zero => rfl
    | succ j ih => rw [← Nat.add_assoc, pRn, ih, if_neg g]
  have key : ∀ d t, t + d = L + 1 → ∀ τ, MR a (AE a t) σ τ (pRn a t) → wp_X6_goes_96 Q (d + 1) (nI L) (nI t) τ := by
    intro d
    induction d with
    | zero =>
      intro t ht τ R
      have : t = L + 1 := by omega
      subst this
      rw [wp_X6_goes_96]
      exact ⟨fun _ => h τ R, fun z => absurd (nI_lt (by omega) (by omega)) z⟩
    | succ d ih =>
      intro t ht τ R
      rw [wp_X6_goes_96]
      refine ⟨fun z => absurd z (nI_nlt (by omega) (by omega)), fun _ => ?_⟩
      rw [R.2.2.2.2.1]
      refine ⟨fun g => ?_, fun g => ?_⟩
      · have eqR : pRn a (t + 1) = pMi a (pRn a t) t := by rw [pRn, if_pos g]
        have hcw := (pRn_ok a h8 t (by omega)).1
        generalize hs : pPl a (pRn a t) t (aNP a) = sP at *
        have hP := pPl_at a (pRn a t) t (aNP a)
        rw [hs] at hP
        have fin : ∀ υ, MR a (AE a (t + 1)) σ υ (pRn a (t + 1)) → wp_X6_goes_255 Q (fun z1 z2 σ => wp_X6_goes_96 Q (d + 1) z1 z2 σ) (nI L) (nI t) υ := by
          intro υ R2 x2 e2
          rw [nI_1] at e2
          subst e2
          exact ih (t + 1) (by omega) υ R2
        have k243 : ∀ υ, MR a (AE a t) σ υ (pMs a sP t (aNM a)) → wp_X6_goes_243 Q (fun z1 z2 σ => wp_X6_goes_96 Q (d + 1) z1 z2 σ) (nI L) (nI t) υ := by
          intro υ R2
          obtain ⟨m1, m2, m3, m4⟩ := pMs_at a sP t (aNM a)
          unfold wp_X6_goes_243
          rw [R2.2.2.2.2.1]
          refine ⟨fun g2 => ?_, fun g2 => ?_⟩
          · have c0 : CWok (pMs a sP t (aNM a)) := by
              unfold CWok
              rw [m3, m4, hP.2.2.1, hP.2.2.2]
              exact hcw
            have eq2 : pRn a (t + 1) = pNc a (put (pMs a sP t (aNM a)) 5 2 (nI t)) t (aNP a) := by rw [eqR]; unfold pMi; rw [hs, if_pos g2]
            refine s_X6_minuteEnds h8 R2 c0 (by omega) ?_
            intro υ3 R3
            rw [← eq2] at R3
            refine fin υ3 (MR_E R3 ?_)
            intro j v ⟨a1, a2⟩ m p w hm hp hw hv hj
            by_cases hmt : m = t
            · subst hmt
              rw [a2 p w hp hw hj, eq2]
              have c1 : CWok (put (pMs a sP m (aNM a)) 5 2 (nI m)) := by
                unfold CWok
                rw [put_n (by decide), put_n (by decide)]
                exact c0
              rw [(pNc_ok a _ m h8 (by omega) c1 (aNP a) (Nat.le_refl _)).2.2.2 w (by omega), put_o (by omega)]
            · exact a1 m p w (by omega) hp hw hv hj
          · have eq2 : pRn a (t + 1) = pMs a sP t (aNM a) := by rw [eqR]; unfold pMi; rw [hs, if_neg g2]
            refine fin υ ?_
            rw [eq2]
            refine MR_E R2 ?_
            intro j v a1 m p w hm hp hw hv hj
            by_cases hmt : m = t
            · subst hmt; rw [eq2] at hv; exact absurd hv g2
            · exact a1 m p w (by omega) hp hw hv hj
        have k185 : ∀ c k, k + c = aNM a → ∀ υ, MR4 a (AE a t) σ υ (pMs a sP t k) → wp_X6_goes_185 Q (fun z1 z2 σ => wp_X6_goes_96 Q (d + 1) z1 z2 σ) (c + 1) (nI L) (nI t) (nI k) υ := by
          intro c
          induction c with
          | zero =>
            intro k hk υ R2
            have : k = aNM a := by omega
            subst this
            rw [wp_X6_goes_185]
            refine s_X6_moves ?_
            rw [R2.1.1.2.2.1]
            exact ⟨fun _ => k243 υ R2.1, fun z => absurd (nI_le (Nat.le_refl _) (by omega)) z⟩
          | succ c ihc =>
            intro k hk υ R2
            rw [wp_X6_goes_185]
            refine s_X6_moves ?_
            rw [R2.1.1.2.2.1]
            refine ⟨fun z => absurd z (nI_ge (by omega) (by omega)), fun _ => ?_⟩
            rw [R2.1.2.2.2.2.1]
            refine ⟨fun g2 => s_ofMove (w := 0) h40 R2.1.1 (by omega) (by decide) ?_, fun g2 => ?_⟩
            · have hm0 := (hO.2.2.2.2.2 k (by omega)).1
              refine pk_eq (aM a k 0) t (fun e => ?_) (fun e => ?_) rfl rfl (by omega) (by omega)
              · have eqk : pMs a sP t (k + 1) = pMv a (pMs a sP t k) t k := by rw [pMs, if_pos ⟨g2, e⟩]
                refine s_X6_moves' hO R2 g2 (by omega) (by omega) ?_ ?_
                · intro υ3 R3
                  refine ⟨fun _ => ?_, fun z => absurd rfl z⟩
                  intro x3 e3
                  rw [nI_1] at e3
                  subst e3
                  refine ihc (k + 1) (by omega) υ3 ?_
                  rw [eqk]; exact R3
                · intro r υ3 hr R3
                  refine ⟨fun z => absurd z hr, fun _ σ28 e28 => ?_⟩
                  intro x3 e3
                  rw [nI_1] at e3
                  subst e3
                  refine ihc (k + 1) (by omega) σ28 ?_
                  rw [eqk, e28]; exact R3
              · intro x3 e3
                rw [nI_1] at e3
                subst e3
                refine ihc (k + 1) (by omega) υ ?_
                rw [pMs, if_neg (fun z => e z.2)]
                exact R2
            · have : ∀ j, pMs a sP t (k + j) = pMs a sP t k := by
                intro j
                induction j with
                | zero => rfl
                | succ j ihj => rw [← Nat.add_assoc, pMs, ihj, if_neg (fun z => g2 z.1)]
              have e := this (c + 1)
              rw [hk] at e
              refine k243 υ ?_
              rw [e]
              exact R2.1
        have k164 : ∀ c i, i + c = 24 → ∀ υ, MR a (AE a t) σ υ sP → (∀ j, j < i → υ 46 j = 0) → wp_X6_goes_164 Q (fun z1 z2 σ => wp_X6_goes_96 Q (d + 1) z1 z2 σ) (c + 1) (nI L) (nI t) (nI i) υ := by
          intro c
          induction c with
          | zero =>
            intro i hi υ R2 f
            rw [wp_X6_goes_164]
            refine ⟨fun _ => ⟨aNM a + 1, k185 (aNM a) 0 (by omega) υ ⟨?_, fun j hj => ?_⟩⟩, fun z => absurd (nI_le (a := 24) (by omega) (by omega)) z⟩
            · obtain ⟨q1, q2, q3, q4, q5, q6, q7, q8, q9⟩ := R2
              exact ⟨q1, q2, q3, fun b i hb hd => by rw [pMs, setA_o (by omega)]; exact q4 b i hb hd, q5, q6, q7, q8, q9⟩
            · rw [f j (by omega), pMs, setA_k]
          | succ c ihc =>
            intro i hi υ R2 f
            rw [wp_X6_goes_164]
            refine ⟨fun z => absurd z (nI_ge (b := 24) (by omega) (by omega)), fun _ => ⟨vp_in_nI (by omega) (by decide), ?_⟩⟩
            intro σ29 e29 x3 e3
            rw [nI_1] at e3
            subst e3
            rw [nI_clamp (n := i) (by omega)] at e29
            refine ihc (i + 1) (by omega) σ29 ?_ ?_
            · have := MR_put R2 4 i 0 (by decide)
              obtain ⟨q1, q2, q3, q4, q5, q6, q7, q8, q9⟩ := this
              rw [e29]
              refine ⟨q1, q2, q3, fun b i hb hd => ?_, q5, q6, q7, q8, q9⟩
              have := q4 b i hb hd
              rw [put_o (k := 4) (by omega)] at this
              exact this
            · intro j hj
              rw [e29, put_at]
              by_cases hji : j = i
              · rw [if_pos ⟨rfl, hji⟩]
              · rw [if_neg (fun z => hji z.2)]; exact f j (by omega)
        have k110 : ∀ c p, p + c = aNP a → ∀ υ, MR a (AE a t) σ υ (pPl a (pRn a t) t p) → wp_X6_goes_110 Q (fun z1 z2 σ => wp_X6_goes_96 Q (d + 1) z1 z2 σ) (c + 1) (nI L) (nI t) (nI p) υ := by
          intro c
          induction c with
          | zero =>
            intro p hp υ R2
            have : p = aNP a := by omega
            subst this
            rw [hs] at R2
            rw [wp_X6_goes_110]
            refine s_X6_places ?_
            rw [R2.1.1]
            exact ⟨fun _ => ⟨25, k164 24 0 (by omega) υ R2 (fun j hj => by omega)⟩, fun z => absurd (nI_le (Nat.le_refl _) (by omega)) z⟩
          | succ c ihc =>
            intro p hp υ R2
            rw [wp_X6_goes_110]
            refine s_X6_places ?_
            rw [R2.1.1]
            have v8 : vp_in (nI p) 8 := vp_in_nI (by omega) (by decide)
            have e8 : 8 * nI t + nI p = nI (8 * t + p) := by rw [show (8 : Int32) = nI 8 from rfl, pk_mul, nI_add]
            rw [e8, nI_clamp (n := p) (by omega), nI_clamp (n := 8 * t + p) (by omega)]
            have v480 : vp_in (nI (8 * t + p)) 480 := vp_in_nI (by omega) (by decide)
            refine ⟨fun z => absurd z (nI_ge (by omega) (by omega)), fun _ => ⟨v8, v480, v8, fun σ31 e31 => ⟨v480, fun σ32 e32 => ?_⟩⟩⟩
            rw [show υ 43 p = _ from R2.p (b := 0) (by decide) (by omega), R2.c (by omega)] at e31
            have R31 := MR_put R2 0 p (pPl a (pRn a t) t p 0 p + pPl a (pRn a t) t p 3 (8 * t + p)) (by decide)
            have R32 := MR_put (MR_on R31 ((put (pPl a (pRn a t) t p) 0 p (pPl a (pRn a t) t p 0 p + pPl a (pRn a t) t p 3 (8 * t + p))) 5 4 - pPl a (pRn a t) t p 3 (8 * t + p))) 3 (8 * t + p) 0 (by decide)
            have e32' : σ32 = put (put υ (mm 0) p (pPl a (pRn a t) t p 0 p + pPl a (pRn a t) t p 3 (8 * t + p))) (mm 3) (8 * t + p) 0 := by rw [e32, e31]; rfl
            rw [← e32'] at R32
            refine s_X6_shelters h8 R32 (by omega) ?_
            intro υ3 R3 x3 e3
            rw [nI_1] at e3
            subst e3
            exact ihc (p + 1) (by omega) υ3 R3
        exact ⟨aNP a + 1, k110 (aNP a) 0 (by omega) τ R⟩
      · have e := fz t (d + 1) g
        rw [ht] at e
        refine h τ ?_
        rw [e]
        refine MR_E R ?_
        intro j v a1 m p w hm hp hw hv hj
        by_cases hmt : m < t
        · exact a1 m p w hmt hp hw hv hj
        · have e2 := fz t (m + 1 - t) g
          rw [show t + (m + 1 - t) = m + 1 by omega] at e2
          rw [e2] at hv
          exact absurd hv g
  have k24 : ∀ c p, p + c = 8 → ∀ υ : Sg, (∀ b, b ≠ 41 → b ≠ 42 → b ≠ 43 → b ≠ 44 → υ b = σ b) → (∀ i, i < 480 → υ 41 i = 0) → (∀ q, q < p → υ 43 q = 0 ∧ (q < aNP a → υ 42 q = nI (aP a q 0)) ∧ υ 44 q = 0) → wp_X6_goes_24 Q (c + 1) (nI L) (nI p) υ := by
    intro c
    induction c with
    | zero =>
      intro p hp υ f1 f2 f3
      rw [wp_X6_goes_24]
      refine ⟨fun _ => ?_, fun z => absurd (nI_le (a := 8) (by omega) (by omega)) z⟩
      intro σ3 e3 σ4 e4 σ5 e5 σ6 e6
      refine ⟨L + 2, key (L + 1) 0 (by omega) σ6 ?_⟩
      have g : ∀ b, b ≠ 30 → σ6 b = υ b := fun b hb => by rw [e6, put_o hb, e5, put_o hb, e4, put_o hb, e3, put_o hb]
      have gj : ∀ j, σ6 30 j = if j = 26 then -1 else if j = 25 then 0 else if j = 24 then 0 else if j = 23 then 0 else υ 30 j := fun j => by
        rw [e6, e5, e4, e3]
        simp only [put_at]
        simp
      refine ⟨hM.keep (by rw [g 31 (by decide), f1 31 (by decide) (by decide) (by decide) (by decide)]), fun b hb => by rw [g b (by omega), f1 b (by omega) (by omega) (by omega) (by omega)], ⟨?_, ?_, ?_⟩, ?_, ?_, ?_, ?_, ?_, ?_⟩
      · rw [gj]; simp; rw [f1 30 (by decide) (by decide) (by decide) (by decide)]
      · rw [gj]; simp; rw [f1 30 (by decide) (by decide) (by decide) (by decide)]
      · rw [g 33 (by decide), f1 33 (by decide) (by decide) (by decide) (by decide)]
      · intro b i hb hd
        rw [g _ (mm_ne).1]
        rcases (show b = 0 ∨ b = 1 ∨ b = 2 ∨ b = 3 by omega) with rfl | rfl | rfl | rfl
        · exact (f3 i (by have := hd.1 (by decide); omega)).1
        · exact (f3 i (by have := hd.1 (by decide); omega)).2.1 (hd.1 (by decide))
        · exact (f3 i (by have := hd.1 (by decide); omega)).2.2
        · exact f2 i (hd.2 rfl)
      · rw [gj]; rfl
      · rw [gj]; rfl
      · rw [gj]; show (0 : Int32) = (-1 : Int32) + 1; decide
      · rw [gj]; rfl
      · intro j m p w hm; omega
    | succ c ihc =>
      intro p hp υ f1 f2 f3
      have k53 : ∀ y : Int32, (p < aNP a → y = nI (aP a p 0)) → wp_X6_goes_53 Q (fun z1 z2 σ => wp_X6_goes_24 Q (c + 1) z1 z2 σ) (nI L) (nI p) (nI p) y υ := by
        intro y hy
        have v8 : vp_in (nI p) 8 := vp_in_nI (by omega) (by decide)
        unfold wp_X6_goes_53
        rw [nI_clamp (n := p) (by omega)]
        refine ⟨v8, fun σ39 e39 => ⟨v8, fun σ40 e40 => ⟨v8, fun σ41 e41 x2 e2 => ?_⟩⟩⟩
        rw [nI_1] at e2
        subst e2
        refine ihc (p + 1) (by omega) σ41 (fun b b1 b2 b3 b4 => by rw [e41, put_o b4, e40, put_o b3, e39, put_o b2, f1 b b1 b2 b3 b4]) (fun i hi => by rw [e41, put_o (by decide), e40, put_o (by decide), e39, put_o (by decide)]; exact f2 i hi) ?_
        intro q hq
        rw [e41, e40, e39]
        simp only [put_at]
        by_cases hqp : q = p
        · subst hqp; simp; exact hy
        · simp [hqp]; exact f3 q (by omega)
      rw [wp_X6_goes_24]
      refine ⟨fun z => absurd z (nI_ge (b := 8) (by omega) (by omega)), fun _ => s_X6_places ?_⟩
      have hM2 : RM υ a := hM.keep (f1 31 (by decide) (by decide) (by decide) (by decide))
      rw [hM2.1]
      refine pk_le (aNP a) p (fun g => k53 0 (fun z => by omega)) (fun g => s_ofPlace (w := 0) h8 hM2 g (by decide) (k53 _ (fun _ => rfl))) rfl rfl (by omega) (by omega)
  have k2 : ∀ c i, i + c = 480 → ∀ υ : Sg, (∀ b, b ≠ 41 → υ b = σ b) → (∀ j, j < i → υ 41 j = 0) → wp_X6_goes_2 Q (c + 1) (nI L) (nI i) υ := by
    intro c
    induction c with
    | zero =>
      intro i hi υ f1 f2
      rw [wp_X6_goes_2]
      exact ⟨fun _ => ⟨9, k24 8 0 (by omega) υ (fun b b1 _ _ _ => f1 b b1) (fun j hj => f2 j (by omega)) (fun q hq => by omega)⟩, fun z => absurd (nI_le (a := 480) (by omega) (by omega)) z⟩
    | succ c ihc =>
      intro i hi υ f1 f2
      rw [wp_X6_goes_2]
      refine ⟨fun z => absurd z (nI_ge (b := 480) (by omega) (by omega)), fun _ => ⟨vp_in_nI (by omega) (by decide), ?_⟩⟩
      intro σ45 e45 x2 e2
      rw [nI_1] at e2
      subst e2
      rw [nI_clamp (n := i) (by omega)] at e45
      refine ihc (i + 1) (by omega) σ45 (fun b hb => by rw [e45, put_o hb, f1 b hb]) ?_
      intro j hj
      rw [e45, put_at]
      by_cases hji : j = i
      · rw [if_pos ⟨rfl, hji⟩]
      · rw [if_neg (fun z => hji z.2)]; exact f2 j (by omega)
  exact ⟨481, k2 480 0 (by omega) σ (fun _ _ => rfl) (fun j hj => by omega)⟩
