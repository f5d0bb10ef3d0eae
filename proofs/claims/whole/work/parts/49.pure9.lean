/-! feed -/
def fbt (x s : Int32) : Int32 := vp_nar .byte ((x >>> (s &&& 31)).toInt8.toInt32)
theorem fbt_b (x s : Int32) : (fbt x s).toInt8.toInt32 = fbt x s := by
  unfold fbt
  rw [pk_vb]
  simp
def APP (f : Nat → Int32) (t : Nat) (x : Int32) : Nat → Int32 := upd (upd (upd (upd f t (fbt x 24)) (t + 1) (fbt x 16)) (t + 2) (fbt x 8)) (t + 3) (fbt x 0)
def TE (t : Nat) (f g : Nat → Int32) : Prop := ∀ j, j < t → f j = g j ∧ (f j).toInt8.toInt32 = f j
theorem TE.up {t : Nat} {f g : Nat → Int32} (h : TE t f g) (x s : Int32) : TE (t + 1) (upd f t (fbt x s)) (upd g t (fbt x s)) := by
  intro j hj
  unfold upd
  by_cases e : j = t
  · simp [e, fbt_b]
  · simp [e]
    exact h j (by omega)
theorem TE.app {t : Nat} {f g : Nat → Int32} (h : TE t f g) (x : Int32) : TE (t + 4) (APP f t x) (APP g t x) := (((h.up x 24).up x 16).up x 8).up x 0
theorem app_step {σ : Sg} {t n : Nat} {x s s' : Int32} {Q : Sg → Prop} (hs : ¬ s < 0) (hs' : s + (-8) = s') (ht : t < 400) (h0 : σ 3 0 = nI t) (h : wp_X2_append_3 Q n x s' (put (put σ 16 t (fbt x s)) 3 0 (nI (t + 1)))) : wp_X2_append_3 Q (n + 1) x s σ := by
  rw [wp_X2_append_3]
  refine ⟨fun z => absurd z hs, fun _ => ?_⟩
  rw [h0]
  refine ⟨vp_in_nI ht (by decide), fun σ1 e1 σ2 e2 x4 e4 => ?_⟩
  rw [nI_clamp (by omega)] at e1
  have r1 : σ1 3 0 = nI t := by rw [e1, put_o (by decide), h0]
  rw [r1, nI_1] at e2
  rw [e4, hs', e2, e1]
  exact h
theorem put_step {σ : Sg} {t n : Nat} {x s s' : Int32} {Q : Sg → Prop} (hs : ¬ s < 0) (hs' : s + (-8) = s') (ht : t < 400) (h0 : σ 30 4 = nI t) (h : wp_X6_put_3 Q n x s' (put (put σ 33 t (fbt x s)) 30 4 (nI (t + 1)))) : wp_X6_put_3 Q (n + 1) x s σ := by
  rw [wp_X6_put_3]
  refine ⟨fun z => absurd z hs, fun _ => ?_⟩
  rw [h0]
  refine ⟨vp_in_nI ht (by decide), fun σ1 e1 σ2 e2 x4 e4 => ?_⟩
  rw [nI_clamp (by omega)] at e1
  have r1 : σ1 30 4 = nI t := by rw [e1, put_o (by decide), h0]
  rw [r1, nI_1] at e2
  rw [e4, hs', e2, e1]
  exact h
/-- four bytes behind a tape held in row k, its length at place j of cell c -/
def tap (σ : Sg) (k c j t : Nat) (x : Int32) : Sg := put (setA σ k (APP (σ k) t x)) c j (nI (t + 4))
theorem tap_eq (σ : Sg) (k c j t : Nat) (x : Int32) (hk : k ≠ c) : put (put (put (put (put (put (put (put σ k t (fbt x 24)) c j (nI (t + 1))) k (t + 1) (fbt x 16)) c j (nI (t + 1 + 1))) k (t + 1 + 1) (fbt x 8)) c j (nI (t + 1 + 1 + 1))) k (t + 1 + 1 + 1) (fbt x 0)) c j (nI (t + 1 + 1 + 1 + 1)) = tap σ k c j t x := by
  funext b i
  unfold tap
  simp only [put_at]
  by_cases hb : b = k
  · subst hb
    have hc : ¬ b = c := hk
    simp only [hc, false_and, if_false, setA_k, APP, upd, true_and]
  · simp only [hb, false_and, if_false]
    by_cases hc : b = c ∧ i = j
    · simp [hc]
    · simp only [hc, if_false]
      rw [setA_o hb]
theorem s_X2_append {σ : Sg} {t : Nat} {x : Int32} {Q : Sg → Prop} (ht : t + 4 ≤ 400) (h0 : σ 3 0 = nI t) (h : Q (tap σ 16 3 0 t x)) : wp_X2_append σ x Q := by
  refine ⟨5, ?_⟩
  refine app_step (s' := 16) (by decide) (by decide) (by omega) h0 ?_
  refine app_step (t := t + 1) (s' := 8) (by decide) (by decide) (by omega) put_s ?_
  refine app_step (t := t + 1 + 1) (s' := 0) (by decide) (by decide) (by omega) put_s ?_
  refine app_step (t := t + 1 + 1 + 1) (s' := -8) (by decide) (by decide) (by omega) put_s ?_
  rw [wp_X2_append_3, tap_eq _ _ _ _ _ _ (by decide)]
  exact ⟨fun _ => h, fun z => absurd (by decide) z⟩
theorem s_X6_put {σ : Sg} {t : Nat} {x : Int32} {Q : Sg → Prop} (ht : t + 4 ≤ 400) (h0 : σ 30 4 = nI t) (h : Q (tap σ 33 30 4 t x)) : wp_X6_put σ x Q := by
  refine ⟨5, ?_⟩
  refine put_step (s' := 16) (by decide) (by decide) (by omega) h0 ?_
  refine put_step (t := t + 1) (s' := 8) (by decide) (by decide) (by omega) put_s ?_
  refine put_step (t := t + 1 + 1) (s' := 0) (by decide) (by decide) (by omega) put_s ?_
  refine put_step (t := t + 1 + 1 + 1) (s' := -8) (by decide) (by decide) (by omega) put_s ?_
  rw [wp_X6_put_3, tap_eq _ _ _ _ _ _ (by decide)]
  exact ⟨fun _ => h, fun z => absurd (by decide) z⟩
theorem tap_len (σ : Sg) (k c j t : Nat) (x : Int32) : tap σ k c j t x c j = nI (t + 4) := put_s
theorem tap_row {σ : Sg} {k c j t : Nat} {x : Int32} (hk : k ≠ c) : tap σ k c j t x k = APP (σ k) t x := by
  unfold tap
  rw [put_o hk, setA_k]
theorem tap_o {σ : Sg} {k c j t : Nat} {x : Int32} {b : Nat} (h1 : b ≠ k) (h2 : b ≠ c) : tap σ k c j t x b = σ b := by
  unfold tap
  rw [put_o h2, setA_o h1]
theorem tap_n {σ : Sg} {k c j t : Nat} {x : Int32} {i : Nat} (h1 : c ≠ k) (h2 : i ≠ j) : tap σ k c j t x c i = σ c i := by
  unfold tap
  rw [put_n h2, setA_o h1]
theorem L_feed {σ : Sg} (hI : INV σ) (p1 p2 p3 p4 p5 : Int32) {K : Sg → Prop} (hK : ∀ τ, INV τ → K τ) {C : Int32 → Sg → Prop} (hw : ∀ r1 σ1, wp_X6_feed σ1 p1 p2 p3 p4 p5 (fun r2 σ2 => (r1 = r2 → K σ2) ∧ (¬ (r1 = r2) → False)) → C r1 σ1) : wp_X5_feed σ p1 p2 p3 p4 p5 C := by
  have hI' := hI
  obtain ⟨a, nt, tp, ft, h0, h1, h2, h3⟩ := hI
  have h4 := h3.1
  have e20 : nI nt + 20 = nI (nt + 20) := nI_add nt 20
  have d1 : (400 : Int32) < nI (nt + 20) ↔ 400 < nt + 20 := nI_ltI (a := 400) (by decide) (by omega)
  have d2 : nI (nt + 20) ≤ (400 : Int32) ↔ nt + 20 ≤ 400 := nI_leI (b := 400) (by omega) (by decide)
  have te : TE nt (σ 16) (σ 33) := fun j hj => by
    obtain ⟨b1, b2, b3⟩ := h3.2.2.2.1 j hj
    rw [b1, b2]
    exact ⟨rfl, b3⟩
  unfold wp_X5_feed wp_X2_hasSpace
  rw [h3.2.1, e20, d1]
  refine ⟨fun g => ⟨Or.inl rfl, fun _ => hw _ _ ?_, fun z => absurd rfl z⟩, fun g => ⟨Or.inr rfl, fun z => absurd z (by decide), fun _ => ?_⟩⟩
  · intro τ e
    have r : τ 30 4 = nI nt := by rw [e, put_n (by decide)]; exact h3.2.2.1
    rw [r, e20, d2]
    exact ⟨fun z => absurd z (by omega), fun _ => ⟨fun _ => hK τ (by rw [e]; exact INV_thrown hI' _), fun z => z rfl⟩⟩
  · refine s_X2_append (t := nt) (by omega) h3.2.1 (s_X2_append (t := nt + 4) (by omega) (tap_len _ _ _ _ _ _) (s_X2_append (t := nt + 4 + 4) (by omega) (tap_len _ _ _ _ _ _) (s_X2_append (t := nt + 4 + 4 + 4) (by omega) (tap_len _ _ _ _ _ _) (s_X2_append (t := nt + 4 + 4 + 4 + 4) (by omega) (tap_len _ _ _ _ _ _) ?_))))
    generalize hA : tap (tap (tap (tap (tap σ 16 3 0 nt p1) 16 3 0 (nt + 4) p2) 16 3 0 (nt + 4 + 4) p3) 16 3 0 (nt + 4 + 4 + 4) p4) 16 3 0 (nt + 4 + 4 + 4 + 4) p5 = α
    have aL : α 3 0 = nI (nt + 20) := by rw [← hA]; exact tap_len _ _ _ _ _ _
    have aF : α 3 1 = σ 3 1 := by rw [← hA, tap_n (by decide) (by decide), tap_n (by decide) (by decide), tap_n (by decide) (by decide), tap_n (by decide) (by decide), tap_n (by decide) (by decide)]
    have aR : α 16 = APP (APP (APP (APP (APP (σ 16) nt p1) (nt + 4) p2) (nt + 4 + 4) p3) (nt + 4 + 4 + 4) p4) (nt + 4 + 4 + 4 + 4) p5 := by rw [← hA, tap_row (by decide), tap_row (by decide), tap_row (by decide), tap_row (by decide), tap_row (by decide)]
    have aO : ∀ b, b ≠ 16 → b ≠ 3 → α b = σ b := fun b b1 b2 => by rw [← hA, tap_o b1 b2, tap_o b1 b2, tap_o b1 b2, tap_o b1 b2, tap_o b1 b2]
    rw [aL]
    refine hw _ _ ?_
    intro τ e
    have tO : ∀ b, b ≠ 30 → τ b = α b := fun b hb => by rw [e, put_o hb]
    have r : τ 30 4 = nI nt := by rw [e, put_n (by decide), aO 30 (by decide) (by decide)]; exact h3.2.2.1
    rw [r, e20, d2]
    refine ⟨fun _ => ?_, fun z => absurd (by omega) z⟩
    refine s_X6_put (t := nt) (by omega) r (s_X6_put (t := nt + 4) (by omega) (tap_len _ _ _ _ _ _) (s_X6_put (t := nt + 4 + 4) (by omega) (tap_len _ _ _ _ _ _) (s_X6_put (t := nt + 4 + 4 + 4) (by omega) (tap_len _ _ _ _ _ _) (s_X6_put (t := nt + 4 + 4 + 4 + 4) (by omega) (tap_len _ _ _ _ _ _) ?_))))
    generalize hB : tap (tap (tap (tap (tap τ 33 30 4 nt p1) 33 30 4 (nt + 4) p2) 33 30 4 (nt + 4 + 4) p3) 33 30 4 (nt + 4 + 4 + 4) p4) 33 30 4 (nt + 4 + 4 + 4 + 4) p5 = β
    have bL : β 30 4 = nI (nt + 20) := by rw [← hB]; exact tap_len _ _ _ _ _ _
    have bF : β 30 5 = τ 30 5 := by rw [← hB, tap_n (by decide) (by decide), tap_n (by decide) (by decide), tap_n (by decide) (by decide), tap_n (by decide) (by decide), tap_n (by decide) (by decide)]
    have bR : β 33 = APP (APP (APP (APP (APP (τ 33) nt p1) (nt + 4) p2) (nt + 4 + 4) p3) (nt + 4 + 4 + 4) p4) (nt + 4 + 4 + 4 + 4) p5 := by rw [← hB, tap_row (by decide), tap_row (by decide), tap_row (by decide), tap_row (by decide), tap_row (by decide)]
    have bO : ∀ b, b ≠ 33 → b ≠ 30 → β b = τ b := fun b b1 b2 => by rw [← hB, tap_o b1 b2, tap_o b1 b2, tap_o b1 b2, tap_o b1 b2, tap_o b1 b2]
    rw [bL]
    refine ⟨fun _ => hK β ?_, fun z => z rfl⟩
    rw [tO 33 (by decide), aO 33 (by decide) (by decide)] at bR
    have te5 := ((((te.app p1).app p2).app p3).app p4).app p5
    refine INV_tape h0 h1 h2 (nt := nt) (tp := tp) (nt' := nt + 20) (tp' := α 16) (ft := ft) ⟨by omega, ?_, bL, ?_, ?_, ?_⟩ (fun k k3 k16 k30 k33 => by rw [bO k k33 k30, tO k k30, aO k k16 k3])
    · rw [bO 3 (by decide) (by decide), tO 3 (by decide)]; exact aL
    · intro j hj
      obtain ⟨c1, c2⟩ := te5 j hj
      rw [bO 16 (by decide) (by decide), tO 16 (by decide), bR, aR]
      exact ⟨rfl, c1.symm, c2⟩
    · rw [bO 3 (by decide) (by decide), tO 3 (by decide), aF]; exact h3.2.2.2.2.1
    · rw [bF, e, put_n (by decide), aO 30 (by decide) (by decide)]; exact h3.2.2.2.2.2
