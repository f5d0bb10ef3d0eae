/-! the class: all shortest ways filled; pushed till no more go through -/
/-- the filling, some way on: since β, what goes is V -/
def FP (β υ : Sg) (E L d V : Nat) : Prop := (∀ k, k ≠ 4 → k ≠ 22 → k ≠ 24 → k ≠ 25 → υ k = β k) ∧ (∀ j, j ≠ 4 → υ 4 j = β 4 j) ∧ GG (υ 19) (υ 20) (υ 21) (υ 22) E ∧ (∀ g, Cp E (ltf (υ 21)) (spf (υ 22)) g = Cp E (ltf (β 21)) (spf (β 22)) g) ∧
  (∀ χ, Fl E (ltf (υ 21)) (spf (υ 22)) χ = (V : Int) * (χ 344 - χ 345)) ∧ υ 4 4 = nI V ∧ PTH υ E L d ∧ (∀ u, u < 346 → ∃ k, k ≤ 2 * E ∧ υ 24 u = la (υ 21) u k)
theorem FP.p24 {β υ : Sg} {E L d V x : Nat} {r : Int32} (h : FP β υ E L d V) (hr : ∃ k, k ≤ 2 * E ∧ r = la (υ 21) x k) : FP β (put υ 24 x r) E L d V := by
  obtain ⟨h1, h2, h3, h4, h5, h6, h7, h8⟩ := h
  refine ⟨fun k a b c e => by rw [put_o c, h1 k a b c e], fun j hj => by rw [put_o (by decide), h2 j hj], ?_, ?_, ?_, ?_, ?_, fun u hu => ?_⟩
  · rw [put_o (by decide), put_o (by decide), put_o (by decide), put_o (by decide)]; exact h3
  · rw [put_o (by decide), put_o (by decide)]; exact h4
  · rw [put_o (by decide), put_o (by decide)]; exact h5
  · rw [put_o (by decide)]; exact h6
  · exact (h7.cg (put_o (by decide)) (put_o (by decide)) (fun j _ => by rw [put_o (by decide)])).1
  · rw [put_at, put_o (by decide)]
    by_cases z : u = x
    · subst z
      rw [if_pos ⟨rfl, rfl⟩]
      exact hr
    · rw [if_neg (fun w => z w.2)]
      exact h8 u hu
theorem FP.adv {β υ : Sg} {E L d V e : Nat} (h : FP β υ E L d V) (hd : d < L) (he : e < 2 * E) (hx : ltf (υ 21) (pr e) = nn υ d) (hl : υ 23 (ltf (υ 21) e) = nI (L - d - 1)) : FP β (put υ 25 d (nI e)) E L (d + 1) V ∧ nn (put υ 25 d (nI e)) (d + 1) = ltf (υ 21) e := by
  obtain ⟨h1, h2, h3, h4, h5, h6, h7, h8⟩ := h
  have h19 := h3.2.2.2
  have e1 : put υ 25 d (nI e) 21 = υ 21 := put_o (by decide)
  have e2 : put υ 25 d (nI e) 23 = υ 23 := put_o (by decide)
  obtain ⟨c1, c2⟩ := h7.cg (υ := put υ 25 d (nI e)) e1 e2 (fun j hj => put_n (by omega))
  have ld : ltf (put υ 25 d (nI e) 25) d = e := by unfold ltf; rw [put_s, nI_clamp (by omega)]
  have nd : nn (put υ 25 d (nI e)) (d + 1) = ltf (υ 21) e := by rw [nn_s, e1, ld]
  refine ⟨⟨fun k a b c q => by rw [put_o q, h1 k a b c q], fun j hj => by rw [put_o (by decide), h2 j hj], ?_, ?_, ?_, ?_, ⟨by omega, c1.2.1, fun j hj => ?_, fun j hj => ?_⟩, fun u hu => ?_⟩, nd⟩
  · rw [put_o (by decide), put_o (by decide), put_o (by decide), put_o (by decide)]; exact h3
  · rw [put_o (by decide), put_o (by decide)]; exact h4
  · rw [put_o (by decide), put_o (by decide)]; exact h5
  · rw [put_o (by decide)]; exact h6
  · by_cases z : j = d
    · subst z
      rw [ld, put_s, e1, c2 j (by omega)]
      exact ⟨rfl, he, hx⟩
    · exact c1.2.2.1 j (by omega)
  · by_cases z : j = d + 1
    · subst z
      rw [nd, e2, hl, Nat.sub_sub]
    · exact c1.2.2.2 j (by omega)
  · rw [put_o (by decide), put_o (by decide)]; exact h8 u hu
theorem FP.fill {β υ τ : Sg} {E L d V q m : Nat} (h : FP β υ E L d V) (hq : q ≤ d) (f1 : ∀ k, k ≠ 4 → k ≠ 22 → τ k = υ k) (f2 : ∀ j, j ≠ 4 → τ 4 j = υ 4 j) (f3 : τ 4 4 = υ 4 4 + nI m) (f4 : GG (τ 19) (τ 20) (τ 21) (τ 22) E)
    (f5 : ∀ g, Cp E (ltf (τ 21)) (spf (τ 22)) g = Cp E (ltf (υ 21)) (spf (υ 22)) g) (f6 : ∀ χ, Fl E (ltf (τ 21)) (spf (τ 22)) χ = Fl E (ltf (υ 21)) (spf (υ 22)) χ + (m : Int) * (χ 344 - χ 345)) : FP β τ E L q (V + m) ∧ ∀ j, j ≤ d → nn τ j = nn υ j := by
  obtain ⟨h1, h2, h3, h4, h5, h6, h7, h8⟩ := h
  obtain ⟨c1, c2⟩ := h7.cg (υ := τ) (f1 21 (by decide) (by decide)) (f1 23 (by decide) (by decide)) (fun j _ => by rw [f1 25 (by decide) (by decide)])
  refine ⟨⟨fun k a b c e => by rw [f1 k a b, h1 k a b c e], fun j hj => by rw [f2 j hj, h2 j hj], f4, fun g => by rw [f5, h4], fun χ => ?_, ?_, c1.pre hq, fun u hu => ?_⟩, c2⟩
  · rw [f6, h5, Int.natCast_add, Int.add_mul]
  · rw [f3, h6, nI_add]
  · rw [f1 24 (by decide) (by decide), f1 21 (by decide) (by decide)]; exact h8 u hu
/-- one step on from a place that is not the sink -/
theorem s_fill_57 {β υ : Sg} {E L d V : Nat} {x3 : Int32} {Q : Sg → Prop} {K : Int32 → Int32 → Int32 → Sg → Prop} (h : FP β υ E L d V) (hd : d < L)
    (hQ : ∀ υ', FP β υ' E L 0 V → Q υ') (hK : ∀ υ' d', FP β υ' E L d' V → K (nI (nn υ' d')) (nI d') (x3 + 1) υ') : wp_X0_fillPaths_57 Q K (nI (nn υ d)) (nI d) x3 υ := by
  have hx := h.2.2.2.2.2.2.1.lt h.2.2.1 (Nat.le_refl d)
  have h19 := h.2.2.1.2.2.2
  have hL := h.2.2.2.2.2.2.1.2.1
  obtain ⟨k, k1, k2⟩ := h.2.2.2.2.2.2.2 _ hx
  have lv := h.2.2.2.2.2.2.1.2.2.2 d (Nat.le_refl d)
  unfold wp_X0_fillPaths_57
  refine s_arcNearer (l := L - d - 1) h.2.2.1 hx k2 k1 (by rw [lv]; congr 1; omega) (fun _ => ⟨fun _ => ?_, fun z => absurd rfl z⟩) (fun e e1 e2 e3 e4 => ⟨fun z => absurd z (nI_nm1 (by omega)), fun _ => ?_⟩)
  · have h' : FP β (put υ 24 (nn υ d) (-1)) E L d V := h.p24 ⟨0, by omega, rfl⟩
    refine pk_eq d 0 (fun z => ?_) (fun z => ?_) rfl rfl (by omega) (by omega)
    · subst z; exact hQ _ h'
    · obtain ⟨d', rfl⟩ : ∃ d', d = d' + 1 := ⟨d - 1, by omega⟩
      intro x2 ex
      rw [pk_m1] at ex
      subst ex
      have p7 := h'.2.2.2.2.2.2.1
      have p3 := h'.2.2.1
      obtain ⟨r1, r2, r3⟩ := p7.2.2.1 d' (by omega)
      have hlt := pr_lt r2
      obtain ⟨t1, t2, t3, t4⟩ := p3.2.1 _ hlt
      have y1 := p7.lt p3 (j := d') (by omega)
      have t5 := (p3.2.1 _ r2).1
      rw [nI_clamp (n := d') (by omega), r1, e_xor (by omega), nI_clamp (n := pr (ltf (put υ 24 (nn υ (d' + 1)) (-1) 25) d')) (by omega), t2, r3, nI_clamp (n := ltf (put υ 24 (nn υ (d' + 1)) (-1) 25) d') (by omega), t5, r3]
      refine ⟨vp_in_nI (by omega) (by decide), vp_in_nI (by omega) (by decide), fun x1 e1 => ⟨vp_in_nI (by omega) (by decide), vp_in_nI (by omega) (by decide), ?_⟩⟩
      subst e1
      refine ⟨vp_in_nI y1 (by decide), fun σ10 e10 => ?_⟩
      rw [nI_clamp (n := nn _ d') (by omega)] at e10
      intro x3' e3
      subst e3
      have h'' : FP β (put υ 24 (nn υ (d' + 1)) (-1)) E L d' V := by
        obtain ⟨a1, a2, a3, a4, a5, a6, a7, a8⟩ := h'
        exact ⟨a1, a2, a3, a4, a5, a6, a7.pre (by omega), a8⟩
      have h3 := h''.p24 (x := nn (put υ 24 (nn υ (d' + 1)) (-1)) d') (r := la (put υ 24 (nn υ (d' + 1)) (-1) 21) (nn (put υ 24 (nn υ (d' + 1)) (-1)) d') (ltf (put υ 24 (nn υ (d' + 1)) (-1) 25) d')) ⟨_, by omega, rfl⟩
      have e4 := hK _ d' h3
      rw [e10]
      have e5 := (h''.2.2.2.2.2.2.1.cg (υ := put (put υ 24 (nn υ (d' + 1)) (-1)) 24 (nn (put υ 24 (nn υ (d' + 1)) (-1)) d') (la (put υ 24 (nn υ (d' + 1)) (-1) 21) (nn (put υ 24 (nn υ (d' + 1)) (-1)) d') (ltf (put υ 24 (nn υ (d' + 1)) (-1) 25) d'))) (put_o (by decide)) (put_o (by decide)) (fun j _ => by rw [put_o (by decide)])).2 d' (Nat.le_refl _)
      rw [e5] at e4
      exact e4
  · have h' : FP β (put υ 24 (nn υ d) (nI e)) E L d V := by
      refine h.p24 ⟨e + 1, by omega, ?_⟩
      rw [la, if_pos e2]
    have c2 := (h.2.2.2.2.2.2.1.cg (υ := put υ 24 (nn υ d) (nI e)) (put_o (by decide)) (put_o (by decide)) (fun j _ => by rw [put_o (by decide)])).2 d (Nat.le_refl _)
    have e21 : put υ 24 (nn υ d) (nI e) 21 = υ 21 := put_o (by decide)
    have e23 : put υ 24 (nn υ d) (nI e) 23 = υ 23 := put_o (by decide)
    obtain ⟨v1, v2⟩ := h'.adv hd (e := e) (by omega) (by rw [e21, c2]; exact e2) (by rw [e21, e23]; exact e4)
    refine ⟨vp_in_nI (by omega) (by decide), fun σ12 e12 x2 ex2 => ⟨vp_in_nI (by omega) (by decide), fun x1 ex1 => ?_⟩⟩
    rw [nI_clamp (n := d) (by omega)] at e12
    rw [nI_1] at ex2
    rw [nI_clamp (n := e) (by omega), e12, put_o (by decide), e21, (h.2.2.1.2.1 e (by omega)).2.1] at ex1
    subst ex2
    intro x3' e3
    subst e3
    rw [e12]
    have := hK _ (d + 1) v1
    rw [v2, e21] at this
    rw [ex1]
    exact this
theorem s_fill_24 {β : Sg} {E L V0 W : Nat} {Q : Sg → Prop} (hz : ∀ u, u < 346 → β 23 u = nI 0 → u = 345) (hs : β 23 345 = nI 0) (hW : β 4 3 = nI W) (hW2 : W ≤ 1000) (hQ : ∀ υ d V, FP β υ E L d V → V0 ≤ V → Q υ) :
    ∀ f c, 1000000 - c < f → c ≤ 1000000 → ∀ υ d V, FP β υ E L d V → V0 ≤ V → wp_X0_fillPaths_24 Q f (nI (nn υ d)) (nI d) (nI c) υ := by
  intro f
  induction f with
  | zero => intro c hc; omega
  | succ f ih =>
    intro c hf hc υ d V h hV
    have hL := h.2.2.2.2.2.2.1.2.1
    have hdL := h.2.2.2.2.2.2.1.1
    rw [wp_X0_fillPaths_24]
    refine pk_le 1000000 c (fun _ => hQ υ d V h hV) (fun hlt => ?_) rfl rfl (by omega) (by omega)
    have nx := h.2.2.2.2.2.2.1.lt h.2.2.1 (Nat.le_refl d)
    have b23 : υ 23 = β 23 := h.1 23 (by decide) (by decide) (by decide) (by decide)
    have cont : ∀ υ d V, FP β υ E L d V → V0 ≤ V → d < L → wp_X0_fillPaths_57 Q (fun z1 z2 z3 σ => wp_X0_fillPaths_24 Q f z1 z2 z3 σ) (nI (nn υ d)) (nI d) (nI c) υ := by
      intro υ d V h hV hd
      refine s_fill_57 h hd (fun υ' h' => hQ υ' 0 V h' hV) (fun υ' d' h' => ?_)
      rw [nI_1]
      exact ih (c + 1) (by omega) (by omega) υ' d' V h' hV
    refine pk_eq (nn υ d) 345 (fun z => ?_) (fun z => ?_) rfl rfl (by omega) (by omega)
    · have lv := h.2.2.2.2.2.2.1.2.2.2 d (Nat.le_refl d)
      rw [z, b23, hs, nI_eq (by omega) (by omega)] at lv
      have l0 := h.2.2.2.2.2.2.1.2.2.2 0 (by omega)
      have hd1 : 1 ≤ d := by
        rcases Nat.eq_zero_or_pos d with q | q
        · subst q
          unfold nn at z
          simp at z
        · exact q
      refine s_fillPath h.2.2.1 h.2.2.2.2.2.2.1 hd1 z (by rw [h.2.1 3 (by decide)]; exact hW) hW2 (fun q m τ hq hm _ f1 f2 f3 f4 f5 f6 => ?_)
      obtain ⟨g1, g2⟩ := h.fill (q := q) (by omega) f1 f2 f3 f4 f5 f6
      have p3 := f4
      obtain ⟨r1, r2, r3⟩ := h.2.2.2.2.2.2.1.2.2.1 q hq
      have hlt := pr_lt r2
      have h19 := f4.2.2.2
      obtain ⟨t1, t2, t3, t4⟩ := f4.2.1 _ hlt
      have e25 : τ 25 = υ 25 := f1 25 (by decide) (by decide)
      have e21 : τ 21 = υ 21 := f1 21 (by decide) (by decide)
      rw [nI_clamp (n := q) (by omega), e25, r1, e_xor (by omega), nI_clamp (n := pr (ltf (υ 25) q)) (by omega), t2, e21, r3, ← g2 q (by omega)]
      refine ⟨vp_in_nI (by omega) (by decide), vp_in_nI (by omega) (by decide), fun x1 e1 => ?_⟩
      subst e1
      exact cont τ q (V + m) g1 (by omega) (by omega)
    · have lv := h.2.2.2.2.2.2.1.2.2.2 d (Nat.le_refl d)
      refine cont υ d V h hV ?_
      rcases Nat.lt_or_ge d L with q | q
      · exact q
      · rw [show L - d = 0 by omega, b23] at lv
        exact absurd (hz _ nx lv) z
theorem s_fillPaths {σ β : Sg} {E V W : Nat} {Q : Sg → Prop} (hb : ∀ k, k ≠ 23 → k ≠ 25 → β k = σ k) (hG : GG (σ 19) (σ 20) (σ 21) (σ 22) E) (hF : ∀ χ, Fl E (ltf (σ 21)) (spf (σ 22)) χ = (V : Int) * (χ 344 - χ 345)) (hV : σ 4 4 = nI V) (hW : σ 4 3 = nI W) (hW1 : 1 ≤ W) (hW2 : W ≤ 1000)
    (hR : RLV σ β E 346) (hs : β 23 345 = 0) (h344 : β 23 344 ≠ -1)
    (hQ : ∀ (υ : Sg) (V' : Nat), (∀ k, k ≠ 4 → k ≠ 22 → k ≠ 24 → k ≠ 25 → υ k = β k) → (∀ j, j ≠ 4 → υ 4 j = β 4 j) → GG (υ 19) (υ 20) (υ 21) (υ 22) E → (∀ g, Cp E (ltf (υ 21)) (spf (υ 22)) g = Cp E (ltf (σ 21)) (spf (σ 22)) g) →
      (∀ χ, Fl E (ltf (υ 21)) (spf (υ 22)) χ = (V' : Int) * (χ 344 - χ 345)) → υ 4 4 = nI V' → V < V' → Q υ) : wp_X0_fillPaths β Q := by
  have hz : ∀ u, u < 346 → β 23 u = nI 0 → u = 345 := by
    intro u hu e
    obtain ⟨l, l1, l2, l3, -⟩ := hR u hu (by rw [e]; exact nI_nm1 (by omega))
    rw [e, nI_eq (by omega) (by omega)] at l1
    exact l3 l1.symm
  obtain ⟨L, L1, L2, L3, -⟩ := hR 344 (by decide) h344
  have g19 : β 19 = σ 19 := hb 19 (by decide) (by decide)
  have g20 : β 20 = σ 20 := hb 20 (by decide) (by decide)
  have g21 : β 21 = σ 21 := hb 21 (by decide) (by decide)
  have g22 : β 22 = σ 22 := hb 22 (by decide) (by decide)
  have g4 : β 4 = σ 4 := hb 4 (by decide) (by decide)
  have fin : ∀ υ d V', FP β υ E L d V' → V + 1 ≤ V' → Q υ := by
    intro υ d V' h hv
    exact hQ υ V' h.1 h.2.1 h.2.2.1 (fun g => by rw [h.2.2.2.1, g21, g22]) h.2.2.2.2.1 h.2.2.2.2.2.1 (by omega)
  -- the first way is found without turning back
  have one : ∀ r d, d + r = L → ∀ (υ : Sg), FP β υ E L d V → υ 22 = β 22 → (∀ j, j < d → 0 < spf (β 22) (ltf (υ 25) j)) → (∀ u l, u < 346 → β 23 u = nI l → l ≤ L - d → υ 24 u = la (υ 21) u (2 * E)) →
      wp_X0_fillPaths_24 Q (1000001 - d) (nI (nn υ d)) (nI d) (nI d) υ := by
    intro r
    induction r with
    | zero =>
      intro d hd υ h h22 hpos ht
      have : d = L := by omega
      subst this
      have nx := h.2.2.2.2.2.2.1.lt h.2.2.1 (Nat.le_refl d)
      have b23 : υ 23 = β 23 := h.1 23 (by decide) (by decide) (by decide) (by decide)
      have lv := h.2.2.2.2.2.2.1.2.2.2 d (Nat.le_refl d)
      rw [show d - d = 0 by omega, b23] at lv
      have z := hz _ nx lv
      have hd1 : 1 ≤ d := by
        rcases Nat.eq_zero_or_pos d with q | q
        · subst q
          unfold nn at z
          simp at z
        · exact q
      rw [show 1000001 - d = (1000000 - d) + 1 by omega, wp_X0_fillPaths_24]
      refine ⟨fun q => absurd q (nI_ge (b := 1000000) (by omega) (by omega)), fun _ => ⟨fun _ => ?_, fun q => absurd (by rw [z]; rfl) q⟩⟩
      refine s_fillPath h.2.2.1 h.2.2.2.2.2.2.1 hd1 z (by rw [h.2.1 3 (by decide), g4]; exact hW) hW2 (fun q m τ hq hm hm1 f1 f2 f3 f4 f5 f6 => ?_)
      have m1 : 1 ≤ m := hm1 hW1 (fun i hi => by rw [h22]; exact hpos i hi)
      obtain ⟨g1, g2⟩ := h.fill (q := q) (by omega) f1 f2 f3 f4 f5 f6
      obtain ⟨r1, r2, r3⟩ := h.2.2.2.2.2.2.1.2.2.1 q hq
      have hlt := pr_lt r2
      have h19 := f4.2.2.2
      obtain ⟨t1, t2, t3, t4⟩ := f4.2.1 _ hlt
      have e25 : τ 25 = υ 25 := f1 25 (by decide) (by decide)
      have e21 : τ 21 = υ 21 := f1 21 (by decide) (by decide)
      rw [nI_clamp (n := q) (by omega), e25, r1, e_xor (by omega), nI_clamp (n := pr (ltf (υ 25) q)) (by omega), t2, e21, r3, ← g2 q (by omega)]
      refine ⟨vp_in_nI (by omega) (by decide), vp_in_nI (by omega) (by decide), fun x1 e1 => ?_⟩
      subst e1
      refine s_fill_57 g1 hq (fun υ' h' => fin υ' 0 _ h' (by omega)) (fun υ' d' h' => ?_)
      rw [nI_1]
      exact s_fill_24 hz (by rw [hs]; rfl) (by rw [g4]; exact hW) hW2 (fun υ d V' h hv => fin υ d V' h hv) (1000000 - d) (d + 1) (by omega) (by omega) υ' d' _ h' (by omega)
    | succ r ih =>
      intro d hd υ h h22 hpos ht
      have nx := h.2.2.2.2.2.2.1.lt h.2.2.1 (Nat.le_refl d)
      have b23 : υ 23 = β 23 := h.1 23 (by decide) (by decide) (by decide) (by decide)
      have b21 : υ 21 = β 21 := h.1 21 (by decide) (by decide) (by decide) (by decide)
      have lv := h.2.2.2.2.2.2.1.2.2.2 d (Nat.le_refl d)
      have lv2 : β 23 (nn υ d) = nI (L - d) := by rw [← b23]; exact lv
      have h19 := h.2.2.1.2.2.2
      rw [show 1000001 - d = (1000000 - d) + 1 by omega, wp_X0_fillPaths_24]
      refine ⟨fun q => absurd q (nI_ge (b := 1000000) (by omega) (by omega)), fun _ => ⟨fun q => ?_, fun _ => ?_⟩⟩
      · have q : nn υ d = 345 := (nI_eq (by omega) (by omega)).mp q
        rw [q, hs, show (0 : Int32) = nI 0 from rfl, nI_eq (by omega) (by omega)] at lv2
        omega
      · unfold wp_X0_fillPaths_57
        refine s_arcNearer (l := L - d - 1) h.2.2.1 nx (ht _ _ nx lv2 (by omega)) (Nat.le_refl _) (by rw [lv]; congr 1; omega) (fun hno => ?_) (fun e e1 e2 e3 e4 => ⟨fun z => absurd z (nI_nm1 (by omega)), fun _ => ?_⟩)
        · obtain ⟨l, l1, l2, l3, l4⟩ := hR _ nx (by rw [lv2]; exact nI_nm1 (by omega))
          rw [lv2, nI_eq (by omega) (by omega)] at l1
          obtain ⟨e, a1, a2, a3, a4⟩ := l4 (by omega)
          refine absurd ?_ (hno e a1 (by rw [b21, g21]; exact a2) (by rw [h22, g22]; exact a3))
          rw [b23, b21, g21, a4, ← l1]
        · have h' : FP β (put υ 24 (nn υ d) (nI e)) E L d V := by
            refine h.p24 ⟨e + 1, by omega, ?_⟩
            rw [la, if_pos e2]
          have c2 := (h.2.2.2.2.2.2.1.cg (υ := put υ 24 (nn υ d) (nI e)) (put_o (by decide)) (put_o (by decide)) (fun j _ => by rw [put_o (by decide)])).2 d (Nat.le_refl _)
          have e21 : put υ 24 (nn υ d) (nI e) 21 = υ 21 := put_o (by decide)
          have e23 : put υ 24 (nn υ d) (nI e) 23 = υ 23 := put_o (by decide)
          obtain ⟨v1, v2⟩ := h'.adv (by omega) (e := e) (by omega) (by rw [e21, c2]; exact e2) (by rw [e21, e23]; exact e4)
          refine ⟨vp_in_nI (by omega) (by decide), fun σ12 e12 x2 ex2 => ⟨vp_in_nI (by omega) (by decide), fun x1 ex1 => ?_⟩⟩
          rw [nI_clamp (n := d) (by omega)] at e12
          rw [nI_1] at ex2
          rw [nI_clamp (n := e) (by omega), e12, put_o (by decide), e21, (h.2.2.1.2.1 e (by omega)).2.1] at ex1
          subst ex2
          intro x3' e3
          rw [nI_1] at e3
          subst e3
          have key := ih (d + 1) (by omega) σ12 (by rw [e12]; exact v1) (by rw [e12, put_o (by decide), put_o (by decide), h22]) (fun j hj => ?_) (fun u l hu hl1 hl2 => ?_)
          · rw [e12, v2, e21, ← e12] at key
            rw [ex1]
            rw [show 1000001 - (d + 1) = 1000000 - d by omega] at key
            exact key
          · rw [e12]
            by_cases z : j = d
            · subst z
              unfold ltf
              rw [put_s, nI_clamp (by omega), ← h22]
              exact e3
            · unfold ltf
              rw [put_n z, put_o (by decide)]
              exact hpos j (by omega)
          · have ne : u ≠ nn υ d := by
              intro z
              rw [z, lv2, nI_eq (by omega) (by omega)] at hl1
              omega
            have t1 : put (put υ 24 (nn υ d) (nI e)) 25 d (nI e) 24 u = υ 24 u := by rw [put_o (by decide), put_n ne]
            have t2 : put (put υ 24 (nn υ d) (nI e)) 25 d (nI e) 21 = υ 21 := by rw [put_o (by decide), e21]
            rw [e12, t1, t2]
            exact ht u l hu hl1 (by omega)
  unfold wp_X0_fillPaths
  refine ⟨by unfold k_cpyok; decide, fun σ1 e1 => ⟨1000001, ?_⟩⟩
  have o : ∀ k, k ≠ 24 → σ1 k = β k := fun k hk => by rw [e1, setA_o hk]
  have t24 : ∀ u, u < 346 → σ1 24 u = la (σ1 21) u (2 * E) := by
    intro u hu
    rw [e1, setA_k, setA_o (by decide), show ((0 : Int32)).toNatClampNeg = 0 from by decide, show ((346 : Int32)).toNatClampNeg = 346 from by decide, pk_cpy_in (sp := 0) (dp := 0) (n := 346) (by omega) (by show u < 0 + 346; omega), g19, g21]
    have := hG.1 u hu
    simpa using this
  have h0 : FP β σ1 E L 0 V := by
    refine ⟨fun k _ _ k24 _ => o k k24, fun j _ => by rw [o 4 (by decide)], ?_, ?_, ?_, ?_, ⟨by omega, L2, fun j hj => by omega, fun j hj => ?_⟩, fun u hu => ⟨2 * E, by omega, t24 u hu⟩⟩
    · rw [o 19 (by decide), o 20 (by decide), o 21 (by decide), o 22 (by decide), g19, g20, g21, g22]; exact hG
    · rw [o 21 (by decide), o 22 (by decide)]; exact fun g => rfl
    · rw [o 21 (by decide), o 22 (by decide), g21, g22]; exact hF
    · rw [o 4 (by decide), g4]; exact hV
    · have : j = 0 := by omega
      subst this
      unfold nn
      rw [if_pos rfl, o 23 (by decide)]
      exact L1
  exact one L 0 (by omega) σ1 h0 (o 22 (by decide)) (fun j hj => by omega) (fun u l hu _ _ => t24 u hu)
