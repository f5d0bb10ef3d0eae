/-! The plan in the reference's cells -/
def mm (b : Nat) : Nat := if b = 0 then 43 else if b = 1 then 42 else if b = 2 then 44 else if b = 3 then 41 else 46
theorem mm_inj {b c : Nat} (hb : b ≤ 4) (hc : c ≤ 4) (h : mm b = mm c) : b = c := by
  unfold mm at h
  rcases (show b = 0 ∨ b = 1 ∨ b = 2 ∨ b = 3 ∨ b = 4 by omega) with rfl | rfl | rfl | rfl | rfl <;> rcases (show c = 0 ∨ c = 1 ∨ c = 2 ∨ c = 3 ∨ c = 4 by omega) with rfl | rfl | rfl | rfl | rfl <;> first | rfl | (simp at h)
theorem mm_ne {b : Nat} : mm b ≠ 30 ∧ mm b ≠ 31 ∧ mm b ≠ 33 ∧ mm b ≠ 45 ∧ 30 ≤ mm b := by
  unfold mm
  split <;> (try split) <;> (try split) <;> (try split) <;> decide
def dmm (a : AT) (b i : Nat) : Prop := (b ≤ 2 → i < aNP a) ∧ (b = 3 → i < 480)
def wpv (s : Sg) : Int32 := if s 5 12 = -1 then 0 else 3 + 8 * s 5 12 + 1000 * s 5 13
/-- E: what row asEnded must hold -/
def MR (a : AT) (E : Nat → Int32 → Prop) (σ0 σ s : Sg) : Prop := RM σ a ∧ FM σ0 σ ∧ TM σ0 σ ∧ (∀ b i, b ≤ 3 → dmm a b i → σ (mm b) i = s b i) ∧ σ 30 23 = s 5 1 ∧ σ 30 26 = s 5 3 ∧ σ 30 25 = s 5 2 + 1 ∧ σ 30 24 = wpv s ∧ (∀ j, E j (σ 45 j))
def MR4 (a : AT) (E : Nat → Int32 → Prop) (σ0 σ s : Sg) : Prop := MR a E σ0 σ s ∧ ∀ i, i < 24 → σ 46 i = s 4 i
theorem MR_put {a : AT} {E : Nat → Int32 → Prop} {σ0 σ s : Sg} (h : MR a E σ0 σ s) (b i : Nat) (v : Int32) (hb : b ≤ 4) : MR a E σ0 (put σ (mm b) i v) (put s b i v) := by
  obtain ⟨h1, h2, h3, h4, h5, h6, h7, h8, h9⟩ := h
  obtain ⟨n30, n31, n33, n45, n3⟩ := mm_ne (b := b)
  have o5 : ∀ j, put s b i v 5 j = s 5 j := fun j => by rw [put_o (by omega)]
  refine ⟨h1.keep (put_o (Ne.symm n31)), h2.tr (FM_p σ n3), h3.tr (TM_p σ n30 n33), ?_, ?_, ?_, ?_, ?_, ?_⟩
  · intro c j hc hd
    rw [put_at, put_at, h4 c j hc hd]
    by_cases e : c = b
    · subst e; simp
    · have : mm c ≠ mm b := fun z => e (mm_inj (by omega) hb z)
      simp [e, this]
  · rw [put_o (Ne.symm n30), o5]; exact h5
  · rw [put_o (Ne.symm n30), o5]; exact h6
  · rw [put_o (Ne.symm n30), o5]; exact h7
  · rw [put_o (Ne.symm n30), h8]; unfold wpv; rw [o5, o5]
  · intro j; rw [put_o (Ne.symm n45)]; exact h9 j
theorem MR4_put {a : AT} {E : Nat → Int32 → Prop} {σ0 σ s : Sg} (h : MR4 a E σ0 σ s) (b i : Nat) (v : Int32) (hb : b ≤ 4) : MR4 a E σ0 (put σ (mm b) i v) (put s b i v) := by
  refine ⟨MR_put h.1 b i v hb, ?_⟩
  intro j hj
  rw [put_at, put_at, h.2 j hj]
  by_cases e : b = 4
  · subst e; simp [mm]
  · have : (46 : Nat) ≠ mm b := fun z => e (mm_inj hb (by decide) (z.symm : mm b = mm 4))
    have e' : (4 : Nat) ≠ b := Ne.symm e
    simp [e', this]
/-- onRoads is the class's alone -/
theorem MR_on {a : AT} {E : Nat → Int32 → Prop} {σ0 σ s : Sg} (h : MR a E σ0 σ s) (v : Int32) : MR a E σ0 σ (put s 5 4 v) := by
  obtain ⟨h1, h2, h3, h4, h5, h6, h7, h8, h9⟩ := h
  refine ⟨h1, h2, h3, fun b i hb hd => by rw [put_o (by omega)]; exact h4 b i hb hd, by rw [put_n (by decide)]; exact h5, by rw [put_n (by decide)]; exact h6, by rw [put_n (by decide)]; exact h7, ?_, h9⟩
  rw [h8]; unfold wpv; rw [put_n (by decide), put_n (by decide)]
theorem TM_30 (σ : Sg) {j : Nat} (v : Int32) (h : 22 < j) : TM σ (put σ 30 j v) := ⟨put_n (by omega), put_n (by omega), put_o (by decide)⟩
theorem MR_ver {a : AT} {E : Nat → Int32 → Prop} {σ0 σ s : Sg} (h : MR a E σ0 σ s) (v : Int32) : MR a E σ0 (put σ 30 23 v) (put s 5 1 v) := by
  obtain ⟨h1, h2, h3, h4, h5, h6, h7, h8, h9⟩ := h
  refine ⟨h1.keep (put_o (by decide)), h2.tr (FM_p σ (by decide)), h3.tr (TM_30 σ v (by decide)), fun b i hb hd => ?_, by rw [put_s, put_s], by rw [put_n (by decide), put_n (by decide)]; exact h6, by rw [put_n (by decide), put_n (by decide)]; exact h7, ?_, fun j => by rw [put_o (by decide)]; exact h9 j⟩
  · rw [put_o (b := b) (by omega), put_o (mm_ne).1]; exact h4 b i hb hd
  · rw [put_n (by decide), h8]; unfold wpv; rw [put_n (by decide), put_n (by decide)]
theorem MR_ver0 {a : AT} {E : Nat → Int32 → Prop} {σ0 σ s : Sg} (h : MR a E σ0 σ s) (hv : σ 30 23 = 0) : MR a E σ0 σ (put s 5 1 0) := by
  obtain ⟨h1, h2, h3, h4, h5, h6, h7, h8, h9⟩ := h
  refine ⟨h1, h2, h3, fun b i hb hd => by rw [put_o (by omega)]; exact h4 b i hb hd, by rw [put_s]; exact hv, by rw [put_n (by decide)]; exact h6, by rw [put_n (by decide)]; exact h7, ?_, h9⟩
  rw [h8]; unfold wpv; rw [put_n (by decide), put_n (by decide)]
theorem MR_ls {a : AT} {E : Nat → Int32 → Prop} {σ0 σ s : Sg} (h : MR a E σ0 σ s) (v : Int32) : MR a E σ0 (put σ 30 26 v) (put s 5 3 v) := by
  obtain ⟨h1, h2, h3, h4, h5, h6, h7, h8, h9⟩ := h
  refine ⟨h1.keep (put_o (by decide)), h2.tr (FM_p σ (by decide)), h3.tr (TM_30 σ v (by decide)), fun b i hb hd => ?_, by rw [put_n (by decide), put_n (by decide)]; exact h5, by rw [put_s, put_s], by rw [put_n (by decide), put_n (by decide)]; exact h7, ?_, fun j => by rw [put_o (by decide)]; exact h9 j⟩
  · rw [put_o (b := b) (by omega), put_o (mm_ne).1]; exact h4 b i hb hd
  · rw [put_n (by decide), h8]; unfold wpv; rw [put_n (by decide), put_n (by decide)]
theorem MR.p {a : AT} {E : Nat → Int32 → Prop} {σ0 σ s : Sg} (h : MR a E σ0 σ s) {b i : Nat} (hb : b ≤ 2) (hi : i < aNP a) : σ (mm b) i = s b i := h.2.2.2.1 b i (by omega) ⟨fun _ => hi, fun z => by omega⟩
theorem MR.c {a : AT} {E : Nat → Int32 → Prop} {σ0 σ s : Sg} (h : MR a E σ0 σ s) {i : Nat} (h2 : i < 480) : σ 41 i = s 3 i := h.2.2.2.1 3 i (by omega) ⟨fun z => by omega, fun _ => h2⟩
theorem s_ofPlace {σ : Sg} {a : AT} {p w : Nat} {Q : Int32 → Sg → Prop} (h8 : aNP a ≤ 8) (hM : RM σ a) (hp : p < aNP a) (hw : w < 4) (h : Q (nI (aP a p w)) σ) : wp_X6_ofPlace σ (nI p) (nI w) Q := by
  refine s_X6_ofPlace (by omega) hw ?_
  rw [hM.2.2.2.1 p hp w hw]
  exact h
theorem s_ofRoad {σ : Sg} {a : AT} {p w : Nat} {Q : Int32 → Sg → Prop} (h12 : aNR a ≤ 12) (hM : RM σ a) (hp : p < aNR a) (hw : w < 5) (h : Q (nI (aR a p w)) σ) : wp_X6_ofRoad σ (nI p) (nI w) Q := by
  refine s_X6_ofRoad (by omega) hw ?_
  rw [hM.2.2.2.2.1 p hp w hw]
  exact h
theorem s_ofMove {σ : Sg} {a : AT} {p w : Nat} {Q : Int32 → Sg → Prop} (h40 : aNM a ≤ 40) (hM : RM σ a) (hp : p < aNM a) (hw : w < 4) (h : Q (nI (aM a p w)) σ) : wp_X6_ofMove σ (nI p) (nI w) Q := by
  refine s_X6_ofMove (by omega) hw ?_
  rw [hM.2.2.2.2.2 p hp w hw]
  exact h
theorem s_X6_leaving {σ : Sg} {a : AT} {E : Nat → Int32 → Prop} {σ0 s : Sg} {p t : Nat} {Q : Int32 → Sg → Prop} (h8 : aNP a ≤ 8) (hR : MR a E σ0 σ s) (hp : p < aNP a) (h : Q (pLv a s p t) σ) : wp_X6_leaving σ (nI p) (nI t) Q := by
  refine s_ofPlace (w := 2) h8 hR.1 hp (by decide) ?_
  unfold pLv at h
  refine ⟨fun z => ?_, fun z => ⟨vp_in_nI (by omega) (by decide), ?_⟩⟩
  · rwa [if_pos z] at h
  · rw [if_neg z] at h
    rw [nI_clamp (by omega), show σ 42 p = s 1 p from hR.p (b := 1) (by decide) hp]
    exact h
theorem s_X6_shelters {σ : Sg} {a : AT} {E : Nat → Int32 → Prop} {σ0 s : Sg} {p t : Nat} {Q : Sg → Prop} (h8 : aNP a ≤ 8) (hR : MR a E σ0 σ s) (hp : p < aNP a) (h : ∀ τ, MR a E σ0 τ (pShe a s t p) → Q τ) : wp_X6_shelters σ (nI p) (nI t) Q := by
  refine s_ofPlace (w := 1) h8 hR.1 hp (by decide) ?_
  rw [nI_clamp (n := p) (by omega)]
  have v8 : vp_in (nI p) 8 := vp_in_nI (by omega) (by decide)
  refine ⟨v8, fun x3 e3 => ⟨v8, s_lesser (s_X6_leaving h8 hR hp (s_lesser ?_))⟩⟩
  rw [show σ 44 p = s 2 p from hR.p (b := 2) (by decide) hp] at e3
  rw [show σ 43 p = s 0 p from hR.p (b := 0) (by decide) hp]
  have hx4 : mn x3 (s 0 p) = pX a s p := by rw [e3, mn_comm]; rfl
  have hx5 : mn (x3 - mn x3 (s 0 p)) (pLv a s p t) = pY a s t p := by rw [hx4, e3, mn_comm]; rfl
  rw [hx5, hx4]
  refine ⟨v8, v8, fun σ8 e8 => ⟨v8, v8, fun σ9 e9 => ⟨v8, v8, fun σ10 e10 => ?_⟩⟩⟩
  have R8 : MR a E σ0 σ8 (pS1 s p (pX a s p)) := by rw [e8]; exact MR_put hR 0 p _ (by decide)
  rw [show σ8 42 p = _ from R8.p (b := 1) (by decide) hp] at e9
  have R9 : MR a E σ0 σ9 (pS2 s p (pX a s p) (pY a s t p)) := by rw [e9]; exact MR_put R8 1 p _ (by decide)
  rw [show σ9 44 p = _ from R9.p (b := 2) (by decide) hp] at e10
  have R10 : MR a E σ0 σ10 (pS3 s p (pX a s p) (pY a s t p)) := by rw [e10]; exact MR_put R9 2 p _ (by decide)
  unfold pShe pS4 at h
  refine ⟨fun z => ?_, fun z σ12 e12 => ?_⟩
  · rw [if_pos z] at h; exact h _ R10
  · rw [if_neg z] at h
    refine h _ ?_
    rw [e12]
    exact MR_ls R10 (nI t)
theorem s_X6_moves' {σ : Sg} {a : AT} {E : Nat → Int32 → Prop} {σ0 s : Sg} {k t : Nat} {Q : Int32 → Sg → Prop} (hO : OKT a) (hR : MR4 a E σ0 σ s) (hv : s 5 1 = 0) (hk : k < aNM a) (ht : t ≤ 40) (h0 : ∀ τ, MR4 a E σ0 τ (pMv a s t k) → Q 0 τ) (h1 : ∀ r τ, ¬ r = 0 → MR4 a E σ0 (put τ 30 23 (r + 8 * nI k)) (pMv a s t k) → Q r τ) : wp_X6_moves_ σ (nI k) (nI t) Q := by
  obtain ⟨o1, o2, o3, o4, o5, o6⟩ := hO
  obtain ⟨m0, m1, m2, m3, m4⟩ := o6 k hk
  obtain ⟨r0, r1, r2, r3, r4, r5, r6⟩ := o5 _ m1
  have hF : mvF a k < aNP a := by
    unfold mvF
    rcases (show aM a k 2 = 0 ∨ aM a k 2 = 1 by omega) with e | e <;> rw [e] <;> assumption
  have hW : mvW a k < 24 := by unfold mvW; omega
  have hT : aR a (aM a k 1) (1 - aM a k 2) < aNP a := by
    rcases (show aM a k 2 = 0 ∨ aM a k 2 = 1 by omega) with e | e <;> rw [e] <;> assumption
  have hJ : mvJ a t k < 408 := by unfold mvJ; omega
  unfold wp_X6_moves_
  refine s_ofMove (w := 1) o3 hR.1.1 hk (by decide) (s_ofMove (w := 2) o3 hR.1.1 hk (by decide) (s_ofMove (w := 3) o3 hR.1.1 hk (by decide) ?_))
  have eW : (2 : Int32) * nI (aM a k 1) + nI (aM a k 2) = nI (mvW a k) := by rw [e_2, nI_add]; rfl
  rw [eW]
  have v24 : vp_in (nI (mvW a k)) 24 := vp_in_nI hW (by decide)
  refine ⟨v24, ?_⟩
  rw [show (3 : Int32) + nI (aM a k 2) = nI (3 + aM a k 2) from nI_add 3 _, nI_clamp (n := mvW a k) (by omega), hR.2 _ hW]
  refine s_ofRoad o2 hR.1.1 m1 (by omega) ?_
  unfold pMv at h0 h1
  refine ⟨fun g1 => ?_, fun g1 => ?_⟩
  · rw [if_pos g1] at h0 h1
    have key : wp_X6_moves__63 Q (nI t) (nI (aM a k 1)) (nI (aM a k 2)) (nI (aM a k 3)) (nI (aM a k 1)) (nI (aM a k 2)) σ := by
      refine s_ofRoad o2 hR.1.1 m1 (by omega) ?_
      show vp_in (nI (mvF a k)) 8 ∧ wp_X6_leaving σ (nI (mvF a k)) (nI t) _
      have v8 : vp_in (nI (mvF a k)) 8 := vp_in_nI (by omega) (by decide)
      refine ⟨v8, s_X6_leaving o1 hR.1 hF ?_⟩
      rw [show aR a (aM a k 1) (aM a k 2) = mvF a k from rfl, nI_clamp (n := mvF a k) (by omega), show σ 43 (mvF a k) = s 0 (mvF a k) from hR.1.p (b := 0) (by decide) hF]
      refine ⟨fun g2 => ⟨v8, s_lesser ?_⟩, fun g2 => ?_⟩
      · rw [if_pos g2] at h0
        refine ⟨v8, v8, fun σ14 e14 => ⟨v8, v8, fun σ15 e15 => ?_⟩⟩
        rw [eW]
        refine ⟨v24, v24, fun σ16 e16 => ?_⟩
        rw [nI_clamp (n := mvW a k) (by omega)] at e16
        rw [show σ 43 (mvF a k) = s 0 (mvF a k) from hR.1.p (b := 0) (by decide) hF] at e14
        generalize mn (s 0 (mvF a k)) (nI (aM a k 3)) = x7 at h0 e14 e15
        have R14 : MR4 a E σ0 σ14 (pM1 s (mvF a k) x7) := by rw [e14]; exact MR4_put hR 0 (mvF a k) _ (by decide)
        rw [show σ14 42 (mvF a k) = _ from R14.1.p (b := 1) (by decide) hF] at e15
        have R15 : MR4 a E σ0 σ15 (pM2 s (mvF a k) (nI (aM a k 3)) x7) := by rw [e15]; exact MR4_put R14 1 (mvF a k) _ (by decide)
        rw [R15.2 _ hW] at e16
        have R16 : MR4 a E σ0 σ16 (pM3 s (mvF a k) (mvW a k) (nI (aM a k 3)) x7) := by rw [e16]; exact MR4_put R15 4 (mvW a k) _ (by decide)
        have R17 : MR4 a E σ0 σ16 (pM4 s (mvF a k) (mvW a k) (nI (aM a k 3)) x7) := ⟨MR_on R16.1 _, fun i hi => by rw [R16.2 i hi]; unfold pM4; rw [put_o (by decide)]⟩
        refine s_ofRoad (w := 2) o2 R16.1.1 m1 (by decide) ?_
        have v0 : σ16 30 23 = 0 := by
          have := R17.1.2.2.2.2.1
          rw [this]
          simp only [pM4, pM3, pM2, pM1, put_at]
          simp [hv]
        have k174 : wp_X6_moves__174 Q (nI (aM a k 3)) (8 * (nI t + nI (aR a (aM a k 1) 2))) (nI (aM a k 1)) (nI (1 - aM a k 2)) σ16 := by
          refine s_ofRoad o2 R16.1.1 m1 (by omega) ?_
          have eJ : 8 * (nI t + nI (aR a (aM a k 1) 2)) + nI (aR a (aM a k 1) (1 - aM a k 2)) = nI (mvJ a t k) := by
            rw [nI_add, show (8 : Int32) = nI 8 from rfl, pk_mul, nI_add]; rfl
          rw [eJ]
          have vJ : vp_in (nI (mvJ a t k)) 480 := vp_in_nI (by omega) (by decide)
          refine ⟨vJ, vJ, fun σ18 e18 => ?_⟩
          rw [nI_clamp (n := mvJ a t k) (by omega), R17.1.c (by omega)] at e18
          have R18 : MR4 a E σ0 σ18 (pM5 s (mvF a k) (mvW a k) (mvJ a t k) (nI (aM a k 3)) x7) := by rw [e18]; exact MR4_put R17 3 (mvJ a t k) _ (by decide)
          exact h0 σ18 ⟨MR_ver0 R18.1 (by rw [e18, put_o (by decide)]; exact v0), fun i hi => by rw [R18.2 i hi, put_o (by decide)]⟩
        refine ⟨fun z => ?_, fun z => ?_⟩
        · have : aM a k 2 = 0 := by
            rcases (show aM a k 2 = 0 ∨ aM a k 2 = 1 by omega) with e | e
            · exact e
            · rw [e] at z; exact absurd z (by decide)
          rw [this] at k174; exact k174
        · have : aM a k 2 = 1 := by
            rcases (show aM a k 2 = 0 ∨ aM a k 2 = 1 by omega) with e | e
            · rw [e] at z; exact absurd rfl z
            · exact e
          rw [this] at k174; exact k174
      · rw [if_neg g2] at h1
        exact h1 2 σ (by decide) ⟨MR_ver hR.1 _, fun i hi => by rw [put_o (by decide), put_o (by decide)]; exact hR.2 i hi⟩
    refine ⟨fun z => ?_, fun z => ?_⟩
    · have : aM a k 2 = 0 := by
        rcases (show aM a k 2 = 0 ∨ aM a k 2 = 1 by omega) with e | e
        · exact e
        · rw [e] at z; exact absurd z (by decide)
      rw [this] at key ⊢; exact key
    · have : aM a k 2 = 1 := by
        rcases (show aM a k 2 = 0 ∨ aM a k 2 = 1 by omega) with e | e
        · rw [e] at z; exact absurd rfl z
        · exact e
      rw [this] at key ⊢; exact key
  · rw [if_neg g1] at h1
    exact h1 1 σ (by decide) ⟨MR_ver hR.1 _, fun i hi => by rw [put_o (by decide), put_o (by decide)]; exact hR.2 i hi⟩
