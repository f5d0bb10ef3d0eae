theorem e_xor {a : Nat} (h : a < 1000000) : nI a ^^^ 1 = nI (pr a) := by
  apply Int32.toBitVec_inj.mp
  apply BitVec.eq_of_toNat_eq
  have h2 : pr a < 1000002 := by unfold pr; split <;> omega
  rw [Int32.toBitVec_xor, BitVec.toNat_xor, pk_tn (by omega), pk_tn (n := pr a) (by omega)]
  exact pr_xor a
theorem pr_2 {r b : Nat} (hb : b ≤ 1) : pr (2 * r + b) = 2 * r + (1 - b) := by
  rcases (show b = 0 ∨ b = 1 by omega) with rfl | rfl
  · exact pr_even r
  · exact pr_odd r
theorem PR4.w {a : AT} {lo : Nat} {σ0 σ s : Sg} (h : PR4 a lo σ0 σ s) {i : Nat} (hi : i < 24) : σ 15 i = s 4 i := h.2 i hi
theorem s_X1_makeMove {σ : Sg} {a : AT} {lo : Nat} {σ0 s : Sg} {k t : Nat} {Q : Int32 → Sg → Prop} (hO : OKT a) (hR : PR4 a lo σ0 σ s) (hk : k < aNM a) (ht : t ≤ 40) (hl : lo ≤ 8 * t + 8) (h : ∀ r τ, PR4 a lo σ0 (put τ 2 1 r) (pMv a s t k) → Q r τ) : wp_X1_makeMove σ (nI k) (nI t) Q := by
  obtain ⟨o1, o2, o3, o4, o5, o6⟩ := hO
  obtain ⟨m0, m1, m2, m3, m4⟩ := o6 k hk
  obtain ⟨r0, r1, r2, r3, r4, r5, r6⟩ := o5 _ m1
  obtain ⟨c1, c2, c3, c4, c5⟩ := hR.1.1.2.2.2.2.1 _ m1
  have hF : mvF a k < aNP a := by
    unfold mvF
    rcases (show aM a k 2 = 0 ∨ aM a k 2 = 1 by omega) with e | e <;> rw [e] <;> assumption
  have hW : mvW a k < 24 := by unfold mvW; omega
  have hT : aR a (aM a k 1) (1 - aM a k 2) < aNP a := by
    rcases (show aM a k 2 = 0 ∨ aM a k 2 = 1 by omega) with e | e <;> rw [e] <;> assumption
  have hJ : mvJ a t k < 408 := by unfold mvJ; omega
  have hJ2 : lo ≤ mvJ a t k := by unfold mvJ; omega
  have e7 : σ 7 (mvW a k) = nI (mvF a k) := by
    unfold mvW mvF
    rcases (show aM a k 2 = 0 ∨ aM a k 2 = 1 by omega) with e | e <;> rw [e] <;> assumption
  have e7' : σ 7 (pr (mvW a k)) = nI (aR a (aM a k 1) (1 - aM a k 2)) := by
    unfold mvW
    rw [pr_2 m2]
    rcases (show aM a k 2 = 0 ∨ aM a k 2 = 1 by omega) with e | e <;> rw [e] <;> assumption
  have e8 : σ 8 (mvW a k) = nI (aR a (aM a k 1) (3 + aM a k 2)) := by
    unfold mvW
    rcases (show aM a k 2 = 0 ∨ aM a k 2 = 1 by omega) with e | e <;> rw [e] <;> assumption
  unfold wp_X1_makeMove
  refine s_part (w := 1) o3 hR.1.1 hk (by decide) (s_part (w := 2) o3 hR.1.1 hk (by decide) ?_)
  intro x4 ex4
  have ex4 : x4 = nI (mvW a k) := by rw [ex4, e_2, nI_add]; rfl
  subst ex4
  refine s_part (w := 3) o3 hR.1.1 hk (by decide) ?_
  have v24 : vp_in (nI (mvW a k)) 24 := vp_in_nI hW (by decide)
  rw [nI_clamp (n := mvW a k) (by omega), e7, e8, hR.w hW]
  refine ⟨v24, fun x6 ex6 => ?_⟩
  subst ex6
  have v8 : vp_in (nI (mvF a k)) 8 := vp_in_nI (by omega) (by decide)
  rw [nI_clamp (n := mvF a k) (by omega)]
  unfold pMv at h
  refine ⟨v24, v24, fun g1 => ⟨v8, s_X1_leavers o1 hR.1 hF ?_⟩, fun g1 => ?_⟩
  · rw [if_pos g1] at h
    rw [show σ 10 (mvF a k) = s 0 (mvF a k) from hR.1.p (b := 0) (by decide) hF]
    refine ⟨fun g2 => ⟨v8, fun x7 e7x => ?_⟩, fun g2 => ?_⟩
    · rw [if_pos g2] at h
      have e7x : x7 = mn (s 0 (mvF a k)) (nI (aM a k 3)) := e7x
      rw [← e7x] at h
      refine ⟨v8, v8, fun σ14 e14 => ⟨v8, v8, fun σ15 e15 => ⟨v24, v24, fun σ16 e16 => fun σ17 e17 => ?_⟩⟩⟩
      have R14 : PR4 a lo σ0 σ14 (pM1 s (mvF a k) x7) := by rw [e14]; exact PR4_put hR 0 (mvF a k) _ (by decide) (fun z => by omega)
      rw [show σ14 11 (mvF a k) = _ from R14.1.p (b := 1) (by decide) hF] at e15
      have R15 : PR4 a lo σ0 σ15 (pM2 s (mvF a k) (nI (aM a k 3)) x7) := by rw [e15]; exact PR4_put R14 1 (mvF a k) _ (by decide) (fun z => by omega)
      rw [R15.w hW] at e16
      have R16 : PR4 a lo σ0 σ16 (pM3 s (mvF a k) (mvW a k) (nI (aM a k 3)) x7) := by rw [e16]; exact PR4_put R15 4 (mvW a k) _ (by decide) (fun z => by omega)
      rw [R16.1.f (by decide)] at e17
      have R17 : PR4 a lo σ0 σ17 (pM4 s (mvF a k) (mvW a k) (nI (aM a k 3)) x7) := by rw [e17]; exact PR4_put R16 5 4 _ (by decide) (by decide)
      have k17 : ∀ b, b ≠ 10 → b ≠ 11 → b ≠ 15 → b ≠ 2 → σ17 b = σ b := fun b b1 b2 b3 b4 => by rw [e17, put_o b4, e16, put_o b3, e15, put_o b2, e14, put_o b1]
      rw [k17 6 (by decide) (by decide) (by decide) (by decide), k17 7 (by decide) (by decide) (by decide) (by decide), nI_clamp (n := aM a k 1) (by omega), c3, e_xor (by omega), nI_clamp (n := pr (mvW a k)) (by have := pr_lt (E := 12) (a := mvW a k) (by omega); omega), e7']
      have eJ : (nI t + nI (aR a (aM a k 1) 2)) * 8 + nI (aR a (aM a k 1) (1 - aM a k 2)) = nI (mvJ a t k) := by
        rw [nI_add, show (8 : Int32) = nI 8 from rfl, pk_mul, nI_add, Nat.mul_comm]; rfl
      rw [eJ]
      have vJ : vp_in (nI (mvJ a t k)) 408 := vp_in_nI hJ (by decide)
      refine ⟨vp_in_nI (by omega) (by decide), vp_in_nI (by have := pr_lt (E := 12) (a := mvW a k) (by omega); omega) (by decide), vJ, vJ, fun σ18 e18 => ?_⟩
      rw [nI_clamp (n := mvJ a t k) (by omega), R17.1.c hJ2 hJ] at e18
      have R18 : PR4 a lo σ0 σ18 (pM5 s (mvF a k) (mvW a k) (mvJ a t k) (nI (aM a k 3)) x7) := by rw [e18]; exact PR4_put R17 3 (mvJ a t k) _ (by decide) (fun z => by omega)
      exact h 0 σ18 (PR4_put R18 5 1 0 (by decide) (by decide))
    · rw [if_neg g2] at h
      exact h _ σ (PR4_put hR 5 1 _ (by decide) (by decide))
  · rw [if_neg g1] at h
    exact h _ σ (PR4_put hR 5 1 _ (by decide) (by decide))
theorem pMs_at (a : AT) (s : Sg) (t : Nat) : ∀ k, pMs a s t k 5 2 = s 5 2 ∧ pMs a s t k 5 3 = s 5 3 ∧ pMs a s t k 5 12 = s 5 12 ∧ pMs a s t k 5 13 = s 5 13 := by
  intro k
  induction k with
  | zero => exact ⟨rfl, rfl, rfl, rfl⟩
  | succ k ih =>
    rw [pMs]
    split
    · obtain ⟨i1, i2, i3, i4⟩ := ih
      unfold pMv
      split
      · split
        · simp only [pM5, pM4, pM3, pM2, pM1, put_at]
          simp [i1, i2, i3, i4]
        · simp only [put_at]; simp [i1, i2, i3, i4]
      · simp only [put_at]; simp [i1, i2, i3, i4]
    · exact ih
theorem s_X1_makeMoves {σ : Sg} {a : AT} {lo : Nat} {σ0 s : Sg} {t : Nat} {Q : Sg → Prop} (hO : OKT a) (hR : PR a lo σ0 σ s) (ht : t ≤ 50) (hl : lo ≤ 8 * t + 8) (h : ∀ τ, PR a lo σ0 τ (pMs a s t (aNM a)) → Q τ) : wp_X1_makeMoves σ (nI t) Q := by
  have key : ∀ d k, k + d = aNM a → ∀ τ, PR4 a lo σ0 τ (pMs a s t k) → wp_X1_makeMoves_10 Q (d + 1) (nI t) (nI k) τ := by
    intro d
    induction d with
    | zero =>
      intro k hk τ R
      have : k = aNM a := by omega
      subst this
      rw [wp_X1_makeMoves_10, R.1.1.2.2.1]
      exact ⟨fun _ => h τ R.1, fun z => absurd (nI_le (Nat.le_refl _) (by have := hO.2.2.1; omega)) z⟩
    | succ d ih =>
      intro k hk τ R
      have h40 := hO.2.2.1
      rw [wp_X1_makeMoves_10, R.1.1.2.2.1]
      refine ⟨fun z => absurd z (nI_ge (by omega) (by omega)), fun _ => ?_⟩
      rw [R.1.f (by decide)]
      refine ⟨fun g => s_part (w := 0) h40 R.1.1 (by omega) (by decide) ?_, fun g => ?_⟩
      · have hm0 := (hO.2.2.2.2.2 k (by omega)).1
        refine pk_eq (aM a k 0) t (fun e => ?_) (fun e => ?_) rfl rfl (by omega) (by omega)
        · refine s_X1_makeMove hO R (by omega) (by omega) hl ?_
          intro r υ R2 σ10 e10 x2 e2
          rw [nI_1] at e2
          subst e2
          rw [← e10] at R2
          refine ih (k + 1) (by omega) σ10 ?_
          rw [pMs, if_pos ⟨g, e⟩]
          exact R2
        · intro x2 e2
          rw [nI_1] at e2
          subst e2
          refine ih (k + 1) (by omega) τ ?_
          rw [pMs, if_neg (fun z => e z.2)]
          exact R
      · have : ∀ j, j + k ≤ aNM a → pMs a s t (k + j) = pMs a s t k := by
          intro j
          induction j with
          | zero => intro _; rfl
          | succ j ihj =>
            intro hj
            rw [← Nat.add_assoc, pMs, ihj (by omega), if_neg (fun z => g z.1)]
        have e := this (d + 1) (by omega)
        rw [hk] at e
        refine h τ ?_
        rw [e]
        exact R.1
  intro σ1 e1
  refine ⟨aNM a + 1, key (aNM a) 0 (by omega) σ1 ?_⟩
  have k1 : ∀ b, b ≠ 15 → σ1 b = σ b := fun b hb => by rw [e1, setA_o hb]
  obtain ⟨q1, q2, q3, q4⟩ := hR
  refine ⟨⟨q1.keep (by rw [k1 1 (by decide)]) (by rw [k1 1 (by decide)]) (by rw [k1 2 (by decide)]) (k1 6 (by decide)) (k1 7 (by decide)) (k1 8 (by decide)) (k1 9 (by decide)) (k1 13 (by decide)), q2.tr (fun b hb => k1 b (by omega)), q3.tr ⟨by rw [k1 3 (by decide)], by rw [k1 3 (by decide)], k1 16 (by decide)⟩, ?_⟩, ?_⟩
  · intro b i hb hb4 hd
    show σ1 (mc b) i = setA s 4 _ b i
    rw [setA_o hb4, k1 (mc b) (fun z => hb4 (mc_inj hb (by decide) (z : mc b = mc 4)))]
    exact q4 b i hb hb4 hd
  · intro i hi
    show σ1 15 i = setA s 4 _ 4 i
    rw [e1, setA_k, setA_k]
    unfold k_fillf
    rw [if_pos hi]
theorem s_X1_noteCrowds {σ : Sg} {a : AT} {lo : Nat} {σ0 s : Sg} {t : Nat} {Q : Sg → Prop} (h8 : aNP a ≤ 8) (hR : PR a lo σ0 σ s) (h : ∀ τ, PR a lo σ0 τ (pNc a s t (aNP a)) → Q τ) : wp_X1_noteCrowds σ (nI t) Q := by
  have key : ∀ d p, p + d = aNP a → ∀ τ, PR a lo σ0 τ (pNc a s t p) → wp_X1_noteCrowds_2 Q (d + 1) (nI t) (nI p) τ := by
    intro d
    induction d with
    | zero =>
      intro p hp τ R
      have : p = aNP a := by omega
      subst this
      rw [wp_X1_noteCrowds_2, R.1.1]
      exact ⟨fun _ => h τ R, fun z => absurd (nI_le (Nat.le_refl _) (by omega)) z⟩
    | succ d ih =>
      intro p hp τ R
      rw [wp_X1_noteCrowds_2, R.1.1]
      refine ⟨fun z => absurd z (nI_ge (by omega) (by omega)), fun _ => ?_⟩
      rw [R.f (by decide)]
      refine ⟨fun g => ⟨vp_in_nI (by omega) (by decide), s_fact (w := 3) h8 R.1 (by omega) (by decide) ?_⟩, fun g => ?_⟩
      · rw [nI_clamp (n := p) (by omega), show τ 10 p = _ from R.p (b := 0) (by decide) (by omega)]
        refine ⟨fun g2 => ?_, fun g2 σ7 e7 σ8 e8 => ?_⟩
        · intro x2 e2
          rw [nI_1] at e2
          subst e2
          refine ih (p + 1) (by omega) τ ?_
          rw [pNc, if_neg (fun z => z.2 g2)]
          exact R
        · intro x2 e2
          rw [nI_1] at e2
          subst e2
          refine ih (p + 1) (by omega) σ8 ?_
          rw [pNc, if_pos ⟨g, g2⟩, e8, e7]
          exact PR_put (PR_put R 5 12 _ (by decide) (by decide)) 5 13 _ (by decide) (by decide)
      · have : ∀ j, pNc a s t (p + j) = pNc a s t p := by
          intro j
          induction j with
          | zero => rfl
          | succ j ihj => rw [← Nat.add_assoc, pNc, ihj, if_neg (fun z => g z.1)]
        have e := this (d + 1)
        rw [hp] at e
        refine h τ ?_
        rw [e]
        exact R
  exact ⟨aNP a + 1, key (aNP a) 0 (by omega) σ hR⟩
theorem PR_lo {a : AT} {lo lo' : Nat} {σ0 σ s : Sg} (h : PR a lo σ0 σ s) (hl : lo ≤ lo') : PR a lo' σ0 σ s :=
  ⟨h.1, h.2.1, h.2.2.1, fun b i hb hb4 hd => h.2.2.2 b i hb hb4 ⟨hd.1, fun z => by have := hd.2.1 z; omega, hd.2.2⟩⟩
theorem s_X1_bringHome {σ : Sg} {a : AT} {Q : Sg → Prop} (h8 : aNP a ≤ 8) (hC : RC σ a) (h : ∀ τ, PR a 0 σ τ (p0 a) → Q τ) : wp_X1_bringHome σ Q := by
  intro σ1 e1 σ2 e2 σ3 e3 σ4 e4 σ5 e5 σ6 e6 σ7 e7
  have g7 : ∀ b, b ≠ 2 → b ≠ 14 → σ7 b = σ b := fun b b2 b14 => by rw [e7, setA_o b14, e6, put_o b2, e5, put_o b2, e4, put_o b2, e3, put_o b2, e2, put_o b2, e1, put_o b2]
  have g2 : ∀ i, σ7 2 i = if i = 13 then -1 else if i = 12 then -1 else if i = 4 then 0 else if i = 3 then -1 else if i = 2 then -1 else if i = 1 then 0 else σ 2 i := by
    intro i
    rw [e7, setA_o (by decide), e6, e5, e4, e3, e2, e1]
    simp only [put_at]
    simp
  have g14 : ∀ i, i < 408 → σ7 14 i = 0 := fun i hi => by rw [e7, setA_k]; unfold k_fillf; rw [if_pos hi]
  have key : ∀ d p, p + d = aNP a → ∀ τ : Sg, (∀ b, b ≠ 10 → b ≠ 11 → b ≠ 12 → τ b = σ7 b) → (∀ q, q < p → τ 10 q = 0 ∧ τ 11 q = nI (aP a q 0) ∧ τ 12 q = 0) → wp_X1_bringHome_40 Q (d + 1) (nI p) τ := by
    intro d
    induction d with
    | zero =>
      intro p hp τ f1 f2
      have : p = aNP a := by omega
      subst this
      have kk : ∀ b, b ≠ 2 → b ≠ 14 → b ≠ 10 → b ≠ 11 → b ≠ 12 → τ b = σ b := fun b b1 b2 b3 b4 b5 => by rw [f1 b b3 b4 b5, g7 b b1 b2]
      have k20 : τ 2 0 = σ 2 0 := by rw [f1 2 (by decide) (by decide) (by decide), g2]; simp
      rw [wp_X1_bringHome_40]
      have r0 : τ 1 0 = nI (aNP a) := by rw [kk 1 (by decide) (by decide) (by decide) (by decide) (by decide)]; exact hC.1
      rw [r0]
      refine ⟨fun _ => h τ ?_, fun z => absurd (nI_le (Nat.le_refl _) (by omega)) z⟩
      refine ⟨hC.keep (by rw [kk 1 (by decide) (by decide) (by decide) (by decide) (by decide)]) (by rw [kk 1 (by decide) (by decide) (by decide) (by decide) (by decide)]) k20 (kk 6 (by decide) (by decide) (by decide) (by decide) (by decide)) (kk 7 (by decide) (by decide) (by decide) (by decide) (by decide)) (kk 8 (by decide) (by decide) (by decide) (by decide) (by decide)) (kk 9 (by decide) (by decide) (by decide) (by decide) (by decide)) (kk 13 (by decide) (by decide) (by decide) (by decide) (by decide)), fun b hb => kk b (by omega) (by omega) (by omega) (by omega) (by omega), ⟨by rw [kk 3 (by decide) (by decide) (by decide) (by decide) (by decide)], by rw [kk 3 (by decide) (by decide) (by decide) (by decide) (by decide)], kk 16 (by decide) (by decide) (by decide) (by decide) (by decide)⟩, ?_⟩
      intro b i hb hb4 hd
      rcases (show b = 0 ∨ b = 1 ∨ b = 2 ∨ b = 3 ∨ b = 5 by omega) with rfl | rfl | rfl | rfl | rfl
      · exact (f2 i (hd.1 (by decide))).1
      · exact (f2 i (hd.1 (by decide))).2.1
      · exact (f2 i (hd.1 (by decide))).2.2
      · show τ 14 i = 0
        rw [f1 14 (by decide) (by decide) (by decide), g14 i (hd.2.1 rfl).2]
      · show τ 2 i = p0 a 5 i
        rw [f1 2 (by decide) (by decide) (by decide), g2]
        rcases hd.2.2.2 rfl with rfl | rfl | rfl | rfl | rfl | rfl <;> rfl
    | succ d ih =>
      intro p hp τ f1 f2
      rw [wp_X1_bringHome_40]
      have r0 : τ 1 0 = nI (aNP a) := by rw [f1 1 (by decide) (by decide) (by decide), g7 1 (by decide) (by decide)]; exact hC.1
      have v8 : vp_in (nI p) 8 := vp_in_nI (by omega) (by decide)
      rw [r0]
      refine ⟨fun z => absurd z (nI_ge (by omega) (by omega)), fun _ => ⟨v8, fun σ9 e9 => ⟨v8, fun σ10 e10 => s_X3_fact (w := 0) (by omega) (by decide) ⟨v8, ?_⟩⟩⟩⟩
      intro σ13 e13 x1 ex1
      rw [nI_1] at ex1
      subst ex1
      rw [nI_clamp (n := p) (by omega)] at e9 e10 e13
      have r9 : σ10 9 (4 * p + 0) = nI (aP a p 0) := by rw [e10, put_o (by decide), e9, put_o (by decide), f1 9 (by decide) (by decide) (by decide), g7 9 (by decide) (by decide)]; exact hC.2.2.2.1 p (by omega) 0 (by decide)
      rw [r9] at e13
      refine ih (p + 1) (by omega) σ13 (fun b b0 b1 b2 => by rw [e13, put_o b1, e10, put_o b2, e9, put_o b0, f1 b b0 b1 b2]) ?_
      intro q hq
      rw [e13, e10, e9]
      simp only [put_at]
      by_cases hqp : q = p
      · subst hqp; simp
      · simp [hqp]
        exact f2 q (by omega)
  exact ⟨aNP a + 1, key (aNP a) 0 (by omega) σ7 (fun _ _ _ _ => rfl) (fun q hq => by omega)⟩
