theorem PR_tr {a : AT} {lo : Nat} {σ00 σ0 σ s : Sg} (h : PR a lo σ0 σ s) (fc : FC σ00 σ0) (tc : TC σ00 σ0) : PR a lo σ00 σ s := ⟨h.1, fc.tr h.2.1, tc.tr h.2.2.1, h.2.2.2⟩
theorem s_X1_play {σ : Sg} {a : AT} {L : Nat} {Q : Sg → Prop} (hO : OKT a) (hC : RC σ a) (hL : L ≤ 50) (h : ∀ τ, PR a 408 σ τ (pRn a (L + 1)) → Q τ) : wp_X1_play σ (nI L) Q := by
  have h8 := hO.1
  have fz : ∀ t j, ¬ pRn a t 5 1 = 0 → pRn a (t + j) = pRn a t := by
    intro t j g
    induction j with
    | zero => rfl
    | succ j ih => rw [← Nat.add_assoc, pRn, ih, if_neg g]
  have key : ∀ d t, t + d = L + 1 → ∀ τ, PR a (8 * t) σ τ (pRn a t) → wp_X1_play_6 Q (d + 1) (nI L) (nI t) τ := by
    intro d
    induction d with
    | zero =>
      intro t ht τ R
      have : t = L + 1 := by omega
      subst this
      rw [wp_X1_play_6]
      exact ⟨fun _ => h τ (PR_lo R (by omega)), fun z => absurd (nI_lt (by omega) (by omega)) z⟩
    | succ d ih =>
      intro t ht τ R
      rw [wp_X1_play_6]
      refine ⟨fun z => absurd z (nI_nlt (by omega) (by omega)), fun _ => ?_⟩
      rw [R.f (by decide)]
      refine ⟨fun g => ?_, fun g => ?_⟩
      · have fin : ∀ υ, PR a (8 * t + 8) σ υ (pMi a (pRn a t) t) → wp_X1_play_71 Q (fun z1 z2 σ => wp_X1_play_6 Q (d + 1) z1 z2 σ) (nI L) (nI t) υ := by
          intro υ R2 x2 e2
          rw [nI_1] at e2
          subst e2
          refine ih (t + 1) (by omega) υ ?_
          rw [pRn, if_pos g]
          exact R2
        have k20 : ∀ c p, p + c = aNP a → ∀ υ, PR a (8 * t + p) σ υ (pPl a (pRn a t) t p) → wp_X1_play_20 Q (fun z1 z2 σ => wp_X1_play_6 Q (d + 1) z1 z2 σ) (c + 1) (nI L) (nI t) (nI p) υ := by
          intro c
          induction c with
          | zero =>
            intro p hp υ R2
            have : p = aNP a := by omega
            subst this
            rw [wp_X1_play_20, R2.1.1]
            refine ⟨fun _ => s_X1_makeMoves hO (PR_lo R2 (show 8 * t + aNP a ≤ 8 * t + 8 by omega)) (by omega) (Nat.le_refl _) ?_, fun z => absurd (nI_le (Nat.le_refl _) (by omega)) z⟩
            intro σ6 R6
            rw [R6.f (by decide)]
            refine ⟨fun g2 σ10 e10 => ?_, fun g2 => ?_⟩
            · refine s_X1_noteCrowds h8 (s := put (pMs a (pPl a (pRn a t) t (aNP a)) t (aNM a)) 5 2 (nI t)) (lo := 8 * t + 8) (σ0 := σ) ?_ ?_
              · rw [e10]; exact PR_put R6 5 2 _ (by decide) (by decide)
              · intro σ11 R11
                refine fin σ11 ?_
                unfold pMi
                rw [if_pos g2]
                exact R11
            · refine fin σ6 ?_
              unfold pMi
              rw [if_neg g2]
              exact R6
          | succ c ihc =>
            intro p hp υ R2
            rw [wp_X1_play_20, R2.1.1]
            refine ⟨fun z => absurd z (nI_ge (by omega) (by omega)), fun _ => s_X1_arrive h8 R2 (by omega) (by omega) (Nat.le_refl _) ?_⟩
            intro υ3 R3
            refine s_X1_takeShelter h8 R3 (by omega) ?_
            intro υ4 R4 x3 e3
            rw [nI_1] at e3
            subst e3
            exact ihc (p + 1) (by omega) υ4 R4
        exact ⟨aNP a + 1, k20 (aNP a) 0 (by omega) τ R⟩
      · have e := fz t (d + 1) g
        rw [ht] at e
        refine h τ ?_
        rw [e]
        exact PR_lo R (by omega)
  refine s_X1_bringHome h8 hC (fun τ R => ⟨L + 2, key (L + 1) 0 (by omega) τ R⟩)
/-- who was first too crowded, where and when -/
def CWok (s : Sg) : Prop := (s 5 12 = -1 ∧ s 5 13 = -1) ∨ ∃ p m : Nat, p < 8 ∧ m ≤ 50 ∧ s 5 12 = nI p ∧ s 5 13 = nI m
theorem pPl_at (a : AT) (s : Sg) (t : Nat) : ∀ p, pPl a s t p 5 1 = s 5 1 ∧ pPl a s t p 5 2 = s 5 2 ∧ pPl a s t p 5 12 = s 5 12 ∧ pPl a s t p 5 13 = s 5 13 := by
  intro p
  induction p with
  | zero => exact ⟨rfl, rfl, rfl, rfl⟩
  | succ p ih =>
    obtain ⟨i1, i2, i3, i4⟩ := ih
    rw [pPl]
    unfold pShe pS4
    split
    · simp only [pS3, pS2, pS1, pArr, put_at]
      simp [i1, i2, i3, i4]
    · simp only [pS3, pS2, pS1, pArr, put_at]
      simp [i1, i2, i3, i4]
theorem pNc_ok (a : AT) (s : Sg) (t : Nat) (h8 : aNP a ≤ 8) (ht : t ≤ 50) (hs : CWok s) : ∀ p, p ≤ aNP a → CWok (pNc a s t p) ∧ pNc a s t p 5 1 = s 5 1 ∧ pNc a s t p 5 2 = s 5 2 ∧ (∀ b, b ≤ 4 → pNc a s t p b = s b) := by
  intro p
  induction p with
  | zero => intro _; exact ⟨hs, rfl, rfl, fun _ _ => rfl⟩
  | succ p ih =>
    intro hp
    obtain ⟨i1, i2, i3, i4⟩ := ih (by omega)
    rw [pNc]
    split
    · refine ⟨Or.inr ⟨p, t, by omega, ht, ?_, ?_⟩, ?_, ?_, ?_⟩
      · rw [put_n (by decide), put_s]
      · rw [put_s]
      · rw [put_n (by decide), put_n (by decide)]; exact i2
      · rw [put_n (by decide), put_n (by decide)]; exact i3
      · intro b hb; rw [put_o (by omega), put_o (by omega)]; exact i4 b hb
    · exact ⟨i1, i2, i3, i4⟩
theorem pRn_ok (a : AT) (h8 : aNP a ≤ 8) : ∀ t, t ≤ 51 → CWok (pRn a t) ∧ ∃ e, e ≤ t ∧ pRn a t 5 2 = nI e - 1 ∧ (∀ m, m < e → pRn a (m + 1) 5 1 = 0) ∧ (pRn a t 5 1 = 0 → e = t) := by
  intro t
  induction t with
  | zero => intro _; exact ⟨Or.inl ⟨rfl, rfl⟩, 0, Nat.le_refl _, rfl, fun m hm => by omega, fun _ => rfl⟩
  | succ t ih =>
    intro ht
    obtain ⟨i1, e, i2, i3, i4, i5⟩ := ih (by omega)
    by_cases g : pRn a t 5 1 = 0
    · have eq : pRn a (t + 1) = pMi a (pRn a t) t := by rw [pRn, if_pos g]
      obtain ⟨l1, l2, l3, l4⟩ := pPl_at a (pRn a t) t (aNP a)
      obtain ⟨m1, m2, m3, m4⟩ := pMs_at a (pPl a (pRn a t) t (aNP a)) t (aNM a)
      by_cases g2 : pMs a (pPl a (pRn a t) t (aNP a)) t (aNM a) 5 1 = 0
      · have eq2 : pRn a (t + 1) = pNc a (put (pMs a (pPl a (pRn a t) t (aNP a)) t (aNM a)) 5 2 (nI t)) t (aNP a) := by rw [eq]; unfold pMi; rw [if_pos g2]
        have c0 : CWok (put (pMs a (pPl a (pRn a t) t (aNP a)) t (aNM a)) 5 2 (nI t)) := by
          unfold CWok
          rw [put_n (by decide), put_n (by decide), m3, m4, l3, l4]
          exact i1
        obtain ⟨n1, n2, n3, n4⟩ := pNc_ok a _ t h8 (by omega) c0 (aNP a) (Nat.le_refl _)
        have v1 : pRn a (t + 1) 5 1 = 0 := by rw [eq2, n2, put_n (by decide)]; exact g2
        refine ⟨by rw [eq2]; exact n1, t + 1, Nat.le_refl _, ?_, ?_, fun _ => rfl⟩
        · rw [eq2, n3, put_s, nI_pred]
        · intro m hm
          by_cases hmt : m = t
          · subst hmt; exact v1
          · exact i4 m (by have := i5 g; omega)
      · have eq2 : pRn a (t + 1) = pMs a (pPl a (pRn a t) t (aNP a)) t (aNM a) := by rw [eq]; unfold pMi; rw [if_neg g2]
        refine ⟨?_, e, by omega, ?_, i4, fun z => absurd (by rw [← eq2]; exact z) g2⟩
        · unfold CWok
          rw [eq2, m3, m4, l3, l4]
          exact i1
        · rw [eq2, m1, l2]; exact i3
    · have eq : pRn a (t + 1) = pRn a t := by rw [pRn, if_neg g]
      refine ⟨by rw [eq]; exact i1, e, by omega, by rw [eq]; exact i3, i4, fun z => absurd (by rw [← eq]; exact z) g⟩
/-- as far as the plan goes -/
def pT (a : AT) : Nat := if pRn a 51 5 1 = 0 ∧ ¬ pRn a 51 5 12 = -1 then (pRn a 51 5 13).toNatClampNeg + 1 else 51
def pV (a : AT) : Int32 := if pRn a 51 5 1 = 0 ∧ ¬ pRn a 51 5 12 = -1 then 3 + 8 * pRn a 51 5 12 else pRn a 51 5 1
theorem pT_le (a : AT) (h8 : aNP a ≤ 8) : 1 ≤ pT a ∧ pT a ≤ 51 := by
  unfold pT
  split
  · rename_i g
    rcases (pRn_ok a h8 51 (Nat.le_refl _)).1 with h | ⟨p, m, hp, hm, h1, h2⟩
    · exact absurd h.1 g.2
    · rw [h2, nI_clamp (by omega)]; omega
  · omega
theorem s_X1_judge {σ : Sg} {a : AT} {Q : Sg → Prop} (hO : OKT a) (hC : RC σ a) (h : ∀ τ, PR a 408 σ τ (put (pRn a (pT a)) 5 1 (pV a)) → Q τ) : wp_X1_judge σ Q := by
  have h8 := hO.1
  have hcw := (pRn_ok a h8 51 (Nat.le_refl _)).1
  have eself : pRn a 51 = put (pRn a 51) 5 1 (pRn a 51 5 1) := by
    funext b i
    rw [put_at]
    split
    · rename_i z; rw [z.1, z.2]
    · rfl
  unfold wp_X1_judge
  refine s_X1_play (L := 50) hO hC (Nat.le_refl _) ?_
  intro σ1 R1
  unfold pT pV at h
  rw [R1.f (i := 1) (by decide), R1.f (i := 12) (by decide), R1.f (i := 13) (by decide)]
  refine ⟨fun g1 => ⟨fun g2 => ?_, fun g2 => ?_⟩, fun g1 => ?_⟩
  · rw [if_neg (fun z => z.2 g2), if_neg (fun z => z.2 g2), ← eself] at h
    exact h σ1 R1
  · rw [if_pos ⟨g1, g2⟩, if_pos ⟨g1, g2⟩] at h
    rcases hcw with hc | ⟨p, m, hp, hm, h1, h2⟩
    · exact absurd hc.1 g2
    · rw [h1] at h ⊢
      rw [h2] at h ⊢
      rw [nI_clamp (by omega)] at h
      intro x ex
      refine s_X1_play (L := m) hO R1.1 hm ?_
      intro σ6 R6 σ8 e8
      refine h σ8 ?_
      rw [e8, ex]
      exact PR_put (PR_tr R6 R1.2.1 R1.2.2.1) 5 1 _ (by decide) (by decide)
  · rw [if_neg (fun z => g1 z.1), if_neg (fun z => g1 z.1), ← eself] at h
    exact h σ1 R1
