/-! tell: the tape T up to n, read from b on -/
def scn (P : Nat → Bool) : Nat → Nat → Nat
  | 0, b => b
  | k + 1, b => if P b then scn P k (b + 1) else b
def sc (P : Nat → Bool) (n b : Nat) : Nat := scn P (n - b) b
def below (P : Nat → Bool) (n : Nat) : Prop := ∀ b, P b = true → b < n
theorem sc_yes {P : Nat → Bool} {n b : Nat} (hP : below P n) (h : P b = true) : sc P n b = sc P n (b + 1) := by
  have := hP b h
  unfold sc
  rw [show n - b = n - (b + 1) + 1 by omega, scn, if_pos h]
theorem sc_no {P : Nat → Bool} {n b : Nat} (h : P b = false) : sc P n b = b := by
  unfold sc
  cases n - b with
  | zero => rfl
  | succ k => rw [scn, if_neg (by rw [h]; decide)]
theorem sc_all {P : Nat → Bool} {n : Nat} (hP : below P n) : ∀ k b, n - b = k → b ≤ sc P n b ∧ (b ≤ n → sc P n b ≤ n) ∧ P (sc P n b) = false ∧ ∀ j, b ≤ j → j < sc P n b → P j = true := by
  intro k
  induction k with
  | zero =>
    intro b hb
    have h : P b = false := by
      cases h : P b
      · rfl
      · have := hP b h; omega
    rw [sc_no h]
    exact ⟨Nat.le_refl _, fun z => z, h, fun j h1 h2 => by omega⟩
  | succ k ih =>
    intro b hb
    cases h : P b
    · rw [sc_no h]
      exact ⟨Nat.le_refl _, fun z => z, h, fun j h1 h2 => by omega⟩
    · obtain ⟨i1, i2, i3, i4⟩ := ih (b + 1) (by omega)
      rw [sc_yes hP h]
      refine ⟨by omega, fun z => i2 (by omega), i3, fun j h1 h2 => ?_⟩
      by_cases e : j = b
      · subst e; exact h
      · exact i4 j (by omega) h2
def cW (T : Nat → Int32) (n j : Nat) : Bool := j < n && (T j = 32 || T j = 10)
def cL (T : Nat → Int32) (n j : Nat) : Bool := j < n && !(T j < 97) && !(122 < T j)
def cD (T : Nat → Int32) (n j : Nat) : Bool := j < n && !(T j < 48) && !(57 < T j)
theorem cW_b (T : Nat → Int32) (n : Nat) : below (cW T n) n := fun b h => by unfold cW at h; simp at h; exact h.1
theorem cL_b (T : Nat → Int32) (n : Nat) : below (cL T n) n := fun b h => by unfold cL at h; simp at h; exact h.1.1
theorem cD_b (T : Nat → Int32) (n : Nat) : below (cD T n) n := fun b h => by unfold cD at h; simp at h; exact h.1.1
def tI (T : Nat → Int32) (n b : Nat) : Nat := sc (cW T n) n b
def tNum (T : Nat → Int32) (n i : Nat) : Bool := cD T n i || (T i = 45 && cD T n (i + 1))
def tJ (T : Nat → Int32) (i : Nat) : Nat := if T i = 45 then i + 1 else i
def vl (T : Nat → Int32) (j : Nat) : Nat → Int32
  | 0 => 0
  | k + 1 => vl T j k * 10 + T (j + k) - 48
def tKi (T : Nat → Int32) (n i : Nat) : Nat := if n ≤ i then 0 else if cL T n i then 1 else if tNum T n i then (if sc (cD T n) n (tJ T i) - tJ T i ≤ 3 then 2 else 4) else 3
def tEi (T : Nat → Int32) (n i : Nat) : Nat := if n ≤ i then i else if cL T n i then sc (cL T n) n i else if tNum T n i then sc (cD T n) n (tJ T i) else i + 1
def tVi (T : Nat → Int32) (n i : Nat) : Int32 := if tNum T n i then (if T i = 45 then -(vl T (tJ T i) (sc (cD T n) n (tJ T i) - tJ T i)) else vl T (tJ T i) (sc (cD T n) n (tJ T i) - tJ T i)) else T i
theorem tI_p (T : Nat → Int32) (n b : Nat) : b ≤ tI T n b ∧ (b ≤ n → tI T n b ≤ n) := ⟨(sc_all (cW_b T n) _ b rfl).1, (sc_all (cW_b T n) _ b rfl).2.1⟩
theorem tE_p (T : Nat → Int32) (n i : Nat) (hi : i ≤ n) : i ≤ tEi T n i ∧ tEi T n i ≤ n ∧ (i < n → i < tEi T n i) := by
  unfold tEi
  by_cases h : n ≤ i
  · rw [if_pos h]; omega
  · rw [if_neg h]
    cases hL : cL T n i
    · rw [if_neg (by decide)]
      cases hN : tNum T n i
      · rw [if_neg (by decide)]; omega
      · rw [if_pos rfl]
        have hj : tJ T i < n ∧ i ≤ tJ T i ∧ cD T n (tJ T i) = true := by
          unfold tJ
          unfold tNum at hN
          by_cases h45 : T i = 45
          · rw [if_pos h45]
            have hd : cD T n i = false := by unfold cD; rw [h45]; simp
            rw [hd] at hN
            simp [h45] at hN
            exact ⟨cD_b T n _ hN, by omega, hN⟩
          · rw [if_neg h45]
            simp [h45] at hN
            exact ⟨by omega, Nat.le_refl _, hN⟩
        obtain ⟨a1, a2, a3, a4⟩ := sc_all (cD_b T n) _ (tJ T i + 1) rfl
        rw [sc_yes (cD_b T n) hj.2.2]
        have := a2 (by omega)
        omega
    · rw [if_pos rfl]
      obtain ⟨a1, a2, a3, a4⟩ := sc_all (cL_b T n) _ (i + 1) rfl
      rw [sc_yes (cL_b T n) hL]
      have := a2 (by omega)
      omega
/-- the class's reader stands before b -/
def CB (T : Nat → Int32) (n b : Nat) (σ : Sg) : Prop := n ≤ 400 ∧ (∀ j, j < n → σ 16 j = T j) ∧ σ 3 0 = nI n ∧ σ 3 5 = nI b ∧ b ≤ n
/-- what changes between two states of the reader: cell 3 at 5, 6, 7, 8 -/
def K3 (σ τ : Sg) : Prop := (∀ k, k ≠ 3 → τ k = σ k) ∧ ∀ j, j ≠ 5 → j ≠ 6 → j ≠ 7 → j ≠ 8 → τ 3 j = σ 3 j
theorem K3.rf (σ : Sg) : K3 σ σ := ⟨fun _ _ => rfl, fun _ _ _ _ _ => rfl⟩
theorem K3.tr {σ τ υ : Sg} (h : K3 σ τ) (g : K3 τ υ) : K3 σ υ := ⟨fun k hk => (g.1 k hk).trans (h.1 k hk), fun j a b c d => (g.2 j a b c d).trans (h.2 j a b c d)⟩
theorem K3_p (σ : Sg) {j : Nat} (v : Int32) (h : j = 5 ∨ j = 6 ∨ j = 7 ∨ j = 8) : K3 σ (put σ 3 j v) := ⟨fun k hk => put_o hk, fun i a b c d => put_n (by omega)⟩
theorem CB.keep {T : Nat → Int32} {n b b' : Nat} {σ τ : Sg} (h : CB T n b σ) (k : K3 σ τ) (h5 : τ 3 5 = nI b') (hb : b' ≤ n) : CB T n b' τ := ⟨h.1, fun j hj => by rw [k.1 16 (by decide)]; exact h.2.1 j hj, by rw [k.2 0 (by decide) (by decide) (by decide) (by decide)]; exact h.2.2.1, h5, hb⟩
theorem s_isLetter {T : Nat → Int32} {n b i : Nat} {σ : Sg} {Q : Int32 → Sg → Prop} (hc : CB T n b σ) (hi : i < 1000) (h0 : cL T n i = false → Q 0 σ) (h1 : cL T n i = true → Q 1 σ) : wp_X2_isLetter σ (nI i) Q := by
  obtain ⟨c1, c2, c3, c4, c5⟩ := hc
  unfold wp_X2_isLetter
  rw [c3, nI_clamp (n := i) (by omega)]
  unfold cL at h0 h1
  refine pk_le n i (fun g => ⟨Or.inl rfl, h0 (by simp; omega)⟩) (fun g => ⟨vp_in_nI (by omega) (by decide), ?_⟩) rfl rfl (by omega) (by omega)
  rw [c2 i g]
  refine ⟨fun g2 => ⟨Or.inl rfl, h0 (by simp [g2])⟩, fun g2 => ⟨vp_in_nI (by omega) (by decide), fun g3 => ⟨Or.inl rfl, h0 (by simp [g3])⟩, fun g3 => ⟨Or.inr rfl, h1 (by simp [g, g2, g3])⟩⟩⟩
theorem s_isDigit {T : Nat → Int32} {n b i : Nat} {σ : Sg} {Q : Int32 → Sg → Prop} (hc : CB T n b σ) (hi : i < 1000) (h0 : cD T n i = false → Q 0 σ) (h1 : cD T n i = true → Q 1 σ) : wp_X2_isDigit σ (nI i) Q := by
  obtain ⟨c1, c2, c3, c4, c5⟩ := hc
  unfold wp_X2_isDigit
  rw [c3, nI_clamp (n := i) (by omega)]
  unfold cD at h0 h1
  refine pk_le n i (fun g => ⟨Or.inl rfl, h0 (by simp; omega)⟩) (fun g => ⟨vp_in_nI (by omega) (by decide), ?_⟩) rfl rfl (by omega) (by omega)
  rw [c2 i g]
  refine ⟨fun g2 => ⟨Or.inl rfl, h0 (by simp [g2])⟩, fun g2 => ⟨vp_in_nI (by omega) (by decide), fun g3 => ⟨Or.inl rfl, h0 (by simp [g3])⟩, fun g3 => ⟨Or.inr rfl, h1 (by simp [g, g2, g3])⟩⟩⟩
theorem s_readLetters {T : Nat → Int32} {n b : Nat} {σ : Sg} {Q : Sg → Prop} (hc : CB T n b σ) (h : ∀ τ, K3 σ τ → τ 3 5 = nI (sc (cL T n) n b) → τ 3 6 = 1 → τ 3 7 = σ 3 7 → Q τ) : wp_X2_readLetters σ Q := by
  intro σ1 e1
  have k1 : K3 σ σ1 := by rw [e1]; exact K3_p σ 1 (by decide)
  have c1 : CB T n b σ1 := hc.keep k1 (by rw [e1, put_n (by decide)]; exact hc.2.2.2.1) hc.2.2.2.2
  have key : ∀ d b', n - b' = d → ∀ τ, CB T n b' τ → K3 σ τ → τ 3 6 = 1 → τ 3 7 = σ 3 7 → sc (cL T n) n b = sc (cL T n) n b' → wp_X2_readLetters_5 Q (d + 1) τ := by
    intro d
    induction d with
    | zero =>
      intro b' hd τ c k e6 e7 es
      rw [wp_X2_readLetters_5, c.2.2.2.1]
      refine s_isLetter c (by have := c.1; have := c.2.2.2.2; omega) (fun g => ⟨fun _ => ?_, fun z => absurd rfl z⟩) (fun g => ?_)
      · rw [sc_no g] at es
        exact h τ k (by rw [es]; exact c.2.2.2.1) e6 e7
      · have := cL_b T n b' g; omega
    | succ d ih =>
      intro b' hd τ c k e6 e7 es
      rw [wp_X2_readLetters_5, c.2.2.2.1]
      have b1 := c.1
      have b2 := c.2.2.2.2
      refine s_isLetter c (by omega) (fun g => ⟨fun _ => ?_, fun z => absurd rfl z⟩) (fun g => ⟨fun z => absurd z (by decide), fun _ => ?_⟩)
      · rw [sc_no g] at es
        exact h τ k (by rw [es]; exact c.2.2.2.1) e6 e7
      · rw [c.2.2.1, c.2.2.2.1]
        refine ⟨fun z => absurd z (nI_ge (by omega) (by omega)), fun _ σ6 e6' => ?_⟩
        rw [nI_1] at e6'
        have k6 : K3 τ σ6 := by rw [e6']; exact K3_p τ _ (by decide)
        refine ih (b' + 1) (by omega) σ6 (c.keep k6 (by rw [e6', put_s]) (by omega)) (k.tr k6) (by rw [e6', put_n (by decide)]; exact e6) (by rw [e6', put_n (by decide)]; exact e7) ?_
        rw [es, sc_yes (cL_b T n) g]
  exact ⟨n - b + 1, key (n - b) b rfl σ1 c1 k1 (by rw [e1, put_s]) (by rw [e1, put_n (by decide)]) rfl⟩
theorem s_readNumber {T : Nat → Int32} {n i : Nat} {σ : Sg} {Q : Sg → Prop} (hc : CB T n i σ) (hi : i < n) (hN : tNum T n i = true) (h : ∀ τ, K3 σ τ → τ 3 5 = nI (sc (cD T n) n (tJ T i)) → τ 3 6 = nI (if sc (cD T n) n (tJ T i) - tJ T i ≤ 3 then 2 else 4) → τ 3 7 = σ 3 7 → τ 3 8 = tVi T n i → Q τ) : wp_X2_readNumber σ Q := by
  obtain ⟨b1, b2, b3, b4, b5⟩ := hc
  have hc : CB T n i σ := ⟨b1, b2, b3, b4, b5⟩
  unfold tVi at h
  rw [if_pos hN] at h
  have k34 : ∀ (y : Int32) (j : Nat) (τ : Sg), j = tJ T i → (y = 0 ↔ ¬ T i = 45) → CB T n j τ → K3 σ τ → τ 3 7 = σ 3 7 → wp_X2_readNumber_34 Q y τ := by
    intro y j τ hj hy c k e7
    unfold wp_X2_readNumber_34
    rw [c.2.2.2.1]
    intro x2 ex2 σ4 e4
    subst ex2
    have k4 : K3 τ σ4 := by rw [e4]; exact K3_p τ _ (by decide)
    have key : ∀ d m, n - (j + m) = d → ∀ υ, CB T n (j + m) υ → K3 σ υ → υ 3 7 = σ 3 7 → υ 3 8 = vl T j m → sc (cD T n) n j = sc (cD T n) n (j + m) → wp_X2_readNumber_44 Q (d + 1) y (nI j) υ := by
      have fin : ∀ m υ, CB T n (j + m) υ → K3 σ υ → υ 3 7 = σ 3 7 → υ 3 8 = vl T j m → sc (cD T n) n j = j + m → wp_X2_readNumber_103 Q y (nI j) υ := by
        intro m υ c k e7 e8 es
        have f1 := c.1
        have f2 := c.2.2.2.2
        have es2 : sc (cD T n) n (tJ T i) = j + m := by rw [← hj]; exact es
        rw [es2, ← hj, show j + m - j = m by omega] at h
        have k119 : ∀ kd : Nat, kd = (if m ≤ 3 then 2 else 4) → wp_X2_readNumber_119 Q y (nI kd) υ := by
          intro kd hkd σ9 e9
          have k9 : K3 υ σ9 := by rw [e9]; exact K3_p υ _ (by decide)
          refine ⟨fun z => ?_, fun z σ11 e11 => ?_⟩
          · rw [if_neg (hy.mp z)] at h
            exact h σ9 (k.tr k9) (by rw [e9, put_n (by decide)]; exact c.2.2.2.1) (by rw [e9, put_s, hkd]) (by rw [e9, put_n (by decide)]; exact e7) (by rw [e9, put_n (by decide)]; exact e8)
          · have h45 : T i = 45 := by
              rcases Classical.em (T i = 45) with q | q
              · exact q
              · exact absurd (hy.mpr q) z
            rw [if_pos h45] at h
            refine h σ11 ((k.tr k9).tr (by rw [e11]; exact K3_p σ9 _ (by decide))) ?_ ?_ ?_ ?_
            · rw [e11, put_n (by decide), e9, put_n (by decide)]; exact c.2.2.2.1
            · rw [e11, put_n (by decide), e9, put_s, hkd]
            · rw [e11, put_n (by decide), e9, put_n (by decide)]; exact e7
            · rw [e11, put_s, e9, put_n (by decide), e8]
        unfold wp_X2_readNumber_103
        rw [c.2.2.2.1, pk_sub (by omega), show j + m - j = m by omega]
        refine pk_le m 3 (fun g => k119 2 (by rw [if_pos g])) (fun g => k119 4 (by rw [if_neg (by omega)])) rfl rfl (by omega) (by omega)
      intro d
      induction d with
      | zero =>
        intro m hd υ c k e7 e8 es
        rw [wp_X2_readNumber_44, c.2.2.2.1]
        have f1 := c.1
        have f2 := c.2.2.2.2
        refine s_isDigit c (by omega) (fun g => ⟨fun _ => fin m υ c k e7 e8 (by rw [es, sc_no g]), fun z => absurd rfl z⟩) (fun g => ?_)
        have := cD_b T n _ g; omega
      | succ d ih =>
        intro m hd υ c k e7 e8 es
        rw [wp_X2_readNumber_44, c.2.2.2.1]
        have f1 := c.1
        have f2 := c.2.2.2.2
        refine s_isDigit c (by omega) (fun g => ⟨fun _ => fin m υ c k e7 e8 (by rw [es, sc_no g]), fun z => absurd rfl z⟩) (fun g => ⟨fun z => absurd z (by decide), fun _ => ?_⟩)
        rw [c.2.2.1, c.2.2.2.1]
        refine ⟨fun z => absurd z (nI_ge (by omega) (by omega)), fun _ => ⟨vp_in_nI (by omega) (by decide), ?_⟩⟩
        rw [nI_clamp (n := j + m) (by omega), c.2.1 (j + m) (by omega), e8]
        intro σ13 e13 σ14 e14
        have k13 : K3 υ σ13 := by rw [e13]; exact K3_p υ _ (by decide)
        have k14 : K3 σ13 σ14 := by rw [e14]; exact K3_p σ13 _ (by decide)
        have r5 : σ13 3 5 = nI (j + m) := by rw [e13, put_n (by decide)]; exact c.2.2.2.1
        rw [r5, nI_1] at e14
        refine ih (m + 1) (by omega) σ14 (c.keep (k13.tr k14) (by rw [e14, put_s]; rfl) (by omega)) (k.tr (k13.tr k14)) (by rw [e14, put_n (by decide), e13, put_n (by decide)]; exact e7) (by rw [e14, put_n (by decide), e13, put_s]; rfl) ?_
        rw [es, sc_yes (cD_b T n) g]; rfl
    exact ⟨n - j + 1, key (n - j) 0 rfl σ4 (c.keep k4 (by rw [e4, put_n (by decide)]; exact c.2.2.2.1) c.2.2.2.2) (k.tr k4) (by rw [e4, put_n (by decide)]; exact e7) (by rw [e4, put_s]; rfl) rfl⟩
  unfold wp_X2_readNumber
  rw [b4, nI_clamp (n := i) (by omega), b2 i hi]
  refine ⟨vp_in_nI (by omega) (by decide), fun g => ⟨fun z => absurd z (by decide), fun _ σ15 e15 => ?_⟩, fun g => ⟨fun _ => ?_, fun z => absurd rfl z⟩⟩
  · rw [b4, nI_1] at e15
    have k15 : K3 σ σ15 := by rw [e15]; exact K3_p σ _ (by decide)
    refine k34 1 (i + 1) σ15 (by unfold tJ; rw [if_pos g]) ⟨fun z => absurd z (by decide), fun z => absurd g z⟩ (hc.keep k15 (by rw [e15, put_s]) (by omega)) k15 (by rw [e15, put_n (by decide)])
  · exact k34 0 i σ (by unfold tJ; rw [if_neg g]) ⟨fun _ => g, fun _ => rfl⟩ hc (K3.rf σ) rfl
theorem s_readToken {T : Nat → Int32} {n b : Nat} {σ : Sg} {Q : Sg → Prop} (hc : CB T n b σ) (h : ∀ τ, K3 σ τ → CB T n (tEi T n (tI T n b)) τ → τ 3 6 = nI (tKi T n (tI T n b)) → τ 3 7 = nI (tI T n b) → (tKi T n (tI T n b) = 2 ∨ tKi T n (tI T n b) = 3 → τ 3 8 = tVi T n (tI T n b)) → Q τ) : wp_X2_readToken σ Q := by
  have k52 : ∀ i τ, i = tI T n b → CB T n i τ → K3 σ τ → wp_X2_readToken_52 Q τ := by
    intro i τ hi c k σ2 e2
    rw [← hi] at h
    have f1 := c.1
    have f2 := c.2.2.2.2
    have hE := tE_p T n i f2
    have k2 : K3 τ σ2 := by rw [e2]; exact K3_p τ _ (by decide)
    have c2 : CB T n i σ2 := c.keep k2 (by rw [e2, put_n (by decide)]; exact c.2.2.2.1) f2
    have r7 : σ2 3 7 = nI i := by rw [e2, put_s, c.2.2.2.1]
    rw [c2.2.2.2.1, c2.2.2.1]
    refine ⟨fun g => ?_, fun g σ21 e21 => ?_⟩
    · rw [nI_ltI (by omega) (by omega)] at g
      have nle : ¬ n ≤ i := by omega
      refine s_isLetter c2 (by omega) (fun gL => ⟨fun _ => ?_, fun z => absurd rfl z⟩) (fun gL => ⟨fun z => absurd z (by decide), fun _ => ?_⟩)
      · have num : tNum T n i = true → wp_X2_readToken_135 Q σ2 := by
          intro gN
          refine s_readNumber c2 g gN (fun υ ku u5 u6 u7 u8 => ?_)
          have eE : tEi T n i = sc (cD T n) n (tJ T i) := by unfold tEi; rw [if_neg nle, if_neg (by rw [gL]; decide), if_pos gN]
          have eK : tKi T n i = if sc (cD T n) n (tJ T i) - tJ T i ≤ 3 then 2 else 4 := by unfold tKi; rw [if_neg nle, if_neg (by rw [gL]; decide), if_pos gN]
          refine h υ ((k.tr k2).tr ku) (c2.keep ku (by rw [eE]; exact u5) hE.2.1) (by rw [eK]; exact u6) (by rw [u7, r7]) (fun _ => u8)
        have sgn : tNum T n i = false → wp_X2_readToken_142 Q σ2 := by
          intro gN σ13 e13
          have k13 : K3 σ2 σ13 := by rw [e13]; exact K3_p σ2 _ (by decide)
          have r5 : σ13 3 5 = nI i := by rw [e13, put_n (by decide)]; exact c2.2.2.2.1
          rw [r5]
          refine ⟨vp_in_nI (by omega) (by decide), fun σ14 e14 σ15 e15 => ?_⟩
          rw [nI_clamp (n := i) (by omega), e13, put_o (by decide), c2.2.1 i g] at e14
          have k14 : K3 σ13 σ14 := by rw [e14, e13]; exact K3_p _ _ (by decide)
          have r5' : σ14 3 5 = nI i := by rw [e14, put_n (by decide), ← e13]; exact r5
          rw [r5', nI_1] at e15
          have k15 : K3 σ14 σ15 := by rw [e15]; exact K3_p _ _ (by decide)
          have eE : tEi T n i = i + 1 := by unfold tEi; rw [if_neg nle, if_neg (by rw [gL]; decide), if_neg (by rw [gN]; decide)]
          have eK : tKi T n i = 3 := by unfold tKi; rw [if_neg nle, if_neg (by rw [gL]; decide), if_neg (by rw [gN]; decide)]
          have eV : tVi T n i = T i := by unfold tVi; rw [if_neg (by rw [gN]; decide)]
          refine h σ15 ((k.tr k2).tr ((k13.tr k14).tr k15)) (c2.keep ((k13.tr k14).tr k15) (by rw [e15, put_s, eE]) (by omega)) ?_ ?_ (fun _ => ?_)
          · rw [e15, put_n (by decide), e14, put_n (by decide), put_s, eK]; rfl
          · rw [e15, put_n (by decide), e14, put_n (by decide), put_n (by decide), r7]
          · rw [e15, put_n (by decide), e14, put_s, eV]
        rw [c2.2.2.2.1]
        refine s_isDigit c2 (by omega) (fun gD => ⟨fun _ => ?_, fun z => absurd rfl z⟩) (fun gD => ⟨fun z => absurd z (by decide), fun _ => num (by unfold tNum; rw [gD]; rfl)⟩)
        rw [c2.2.2.2.1, nI_clamp (n := i) (by omega), c2.2.1 i g]
        refine ⟨vp_in_nI (by omega) (by decide), fun g45 => ?_, fun g45 => sgn (by unfold tNum; rw [gD]; simp [g45])⟩
        rw [nI_1]
        refine s_isDigit c2 (by omega) (fun gD2 => ⟨fun _ => sgn (by unfold tNum; rw [gD, gD2]; simp), fun z => absurd rfl z⟩) (fun gD2 => ⟨fun z => absurd z (by decide), fun _ => num (by unfold tNum; rw [gD2]; simp [g45])⟩)
      · refine s_readLetters c2 (fun υ ku u5 u6 u7 => ?_)
        have eE : tEi T n i = sc (cL T n) n i := by unfold tEi; rw [if_neg nle, if_pos gL]
        have eK : tKi T n i = 1 := by unfold tKi; rw [if_neg nle, if_pos gL]
        exact h υ ((k.tr k2).tr ku) (c2.keep ku (by rw [eE]; exact u5) hE.2.1) (by rw [eK]; exact u6) (by rw [u7, r7]) (fun z => by rw [eK] at z; omega)
    · rw [nI_ltI (by omega) (by omega)] at g
      have k21 : K3 σ2 σ21 := by rw [e21]; exact K3_p _ _ (by decide)
      have eE : tEi T n i = i := by unfold tEi; rw [if_pos (by omega)]
      have eK : tKi T n i = 0 := by unfold tKi; rw [if_pos (by omega)]
      refine h σ21 ((k.tr k2).tr k21) (c2.keep k21 (by rw [e21, put_n (by decide), eE]; exact c2.2.2.2.1) hE.2.1) (by rw [e21, put_s, eK]; rfl) (by rw [e21, put_n (by decide)]; exact r7) (fun z => by rw [eK] at z; omega)
  have key : ∀ d b', n - b' = d → ∀ τ, CB T n b' τ → K3 σ τ → tI T n b = tI T n b' → wp_X2_readToken_0 Q (d + 1) τ := by
    intro d
    induction d with
    | zero =>
      intro b' hd τ c k es
      have f1 := c.1
      have f2 := c.2.2.2.2
      have hb : b' = n := by omega
      have hW : cW T n b' = false := by
        cases hW : cW T n b'
        · rfl
        · have := cW_b T n b' hW; omega
      rw [wp_X2_readToken_0, c.2.2.1, c.2.2.2.1]
      refine ⟨fun _ => k52 b' τ (by rw [es]; exact (sc_no hW).symm) c k, fun z => absurd (nI_le (by omega) (by omega)) z⟩
    | succ d ih =>
      intro b' hd τ c k es
      have f1 := c.1
      have f2 := c.2.2.2.2
      rw [wp_X2_readToken_0, c.2.2.1, c.2.2.2.1, nI_clamp (n := b') (by omega), c.2.1 b' (by omega)]
      have go : cW T n b' = true → wp_X2_readToken_39 Q (fun σ => wp_X2_readToken_0 Q (d + 1) σ) τ := by
        intro hW σ23 e23
        rw [c.2.2.2.1, nI_1] at e23
        have k23 : K3 τ σ23 := by rw [e23]; exact K3_p _ _ (by decide)
        refine ih (b' + 1) (by omega) σ23 (c.keep k23 (by rw [e23, put_s]) (by omega)) (k.tr k23) ?_
        rw [es]; exact sc_yes (cW_b T n) hW
      have v : vp_in (nI b') 400 := vp_in_nI (by omega) (by decide)
      refine ⟨fun z => absurd z (nI_ge (by omega) (by omega)), fun _ => ⟨v, fun g => go (by unfold cW; simp [g]; omega), fun g => ⟨v, fun g2 => go (by unfold cW; simp [g2]; omega), fun g2 => k52 b' τ ?_ c k⟩⟩⟩
      rw [es]; exact (sc_no (by unfold cW; simp [g, g2])).symm
  exact ⟨n - b + 1, key (n - b) b rfl σ hc (K3.rf σ) rfl⟩
