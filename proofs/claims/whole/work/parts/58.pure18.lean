abbrev isW (T : Nat → Int32) (n i w : Nat) : Prop := tKi T n i = 1 ∧ tEi T n i - i = lenS.getD w 0 ∧ ∀ k, k < lenS.getD w 0 → T (i + k) = (bytS.getD w []).getD k 0
theorem s_isWord {T : Nat → Int32} {n i w : Nat} {σ : Sg} {Q : Int32 → Sg → Prop} (hw : w < 7) (hi : i ≤ n) (hc : CB T n (tEi T n i) σ) (h6 : σ 3 6 = nI (tKi T n i)) (h7 : σ 3 7 = nI i) (h : Q (if isW T n i w then 1 else 0) σ) : wp_X2_isWord σ w Q := by
  obtain ⟨c1, c2, c3, c4, c5⟩ := hc
  have hE := tE_p T n i hi
  have hK : tKi T n i ≤ 4 := by unfold tKi; split <;> (try split) <;> (try split) <;> (try split) <;> omega
  have hl : lenS.getD w 0 < 1000 := by
    have : ∀ w, w < 7 → lenS.getD w 0 < 1000 := by decide
    exact this w hw
  unfold wp_X2_isWord
  rw [h6, c4, h7, pk_sub hE.1]
  refine ⟨fun g => ⟨hw, ?_⟩, fun g => ⟨Or.inl rfl, ?_⟩⟩
  · have gk : tKi T n i = 1 := (nI_eq (b := 1) (by omega) (by omega)).mp g
    refine ⟨fun g2 => ?_, fun g2 => ⟨Or.inl rfl, ?_⟩⟩
    · rw [nI_eq (by omega) (by omega)] at g2
      have key : ∀ d m, m + d = lenS.getD w 0 → (∀ k, k < m → T (i + k) = (bytS.getD w []).getD k 0) → wp_X2_isWord_28 w Q (d + 1) (nI m) σ := by
        intro d
        induction d with
        | zero =>
          intro m hm f
          rw [wp_X2_isWord_28]
          have : m = lenS.getD w 0 := by omega
          subst this
          refine ⟨hw, fun _ => ⟨Or.inr rfl, ?_⟩, fun z => absurd (nI_le (Nat.le_refl _) (by omega)) z⟩
          rw [if_pos ⟨gk, g2, f⟩] at h
          exact h
        | succ d ih =>
          intro m hm f
          rw [wp_X2_isWord_28]
          refine ⟨hw, fun z => absurd z (nI_ge (by omega) (by omega)), fun _ => ?_⟩
          rw [h7, nI_add, nI_clamp (n := i + m) (by omega), nI_clamp (n := m) (by omega), c2 (i + m) (by omega)]
          refine ⟨vp_in_nI (by omega) (by decide), hw, vp_in_nI (by omega) (by omega), fun g3 => ?_, fun g3 => ⟨Or.inl rfl, ?_⟩⟩
          · intro x2 e2
            rw [nI_1] at e2
            subst e2
            refine ih (m + 1) (by omega) (fun k hk => ?_)
            by_cases e : k = m
            · subst e; exact g3
            · exact f k (by omega)
          · rw [if_neg (fun z => g3 (z.2.2 m (by omega)))] at h
            exact h
      exact ⟨lenS.getD w 0 + 1, key (lenS.getD w 0) 0 (by omega) (fun k hk => by omega)⟩
    · rw [nI_eq (by omega) (by omega)] at g2
      rw [if_neg (fun z => g2 z.2.1)] at h
      exact h
  · rw [if_neg (fun z => g (by rw [z.1]; rfl))] at h
    exact h
/-! the reference's reader -/
def MB (T : Nat → Int32) (n b : Nat) (σ : Sg) : Prop := n ≤ 400 ∧ (∀ j, j < n → σ 33 j = T j) ∧ σ 30 6 = nI n ∧ σ 30 7 = nI b ∧ b ≤ n
def K30 (σ τ : Sg) : Prop := (∀ k, k ≠ 30 → τ k = σ k) ∧ ∀ j, j ≠ 5 → j ≠ 7 → j ≠ 8 → τ 30 j = σ 30 j
theorem K30.rf (σ : Sg) : K30 σ σ := ⟨fun _ _ => rfl, fun _ _ _ _ => rfl⟩
theorem K30.tr {σ τ υ : Sg} (h : K30 σ τ) (g : K30 τ υ) : K30 σ υ := ⟨fun k hk => (g.1 k hk).trans (h.1 k hk), fun j a b c => (g.2 j a b c).trans (h.2 j a b c)⟩
theorem K30_p (σ : Sg) {j : Nat} (v : Int32) (h : j = 5 ∨ j = 7 ∨ j = 8) : K30 σ (put σ 30 j v) := ⟨fun k hk => put_o hk, fun i a b c => put_n (by omega)⟩
theorem MB.keep {T : Nat → Int32} {n b b' : Nat} {σ τ : Sg} (h : MB T n b σ) (k : K30 σ τ) (h5 : τ 30 7 = nI b') (hb : b' ≤ n) : MB T n b' τ := ⟨h.1, fun j hj => by rw [k.1 33 (by decide)]; exact h.2.1 j hj, by rw [k.2 6 (by decide) (by decide) (by decide)]; exact h.2.2.1, h5, hb⟩
theorem s_here {T : Nat → Int32} {n b : Nat} {σ : Sg} {Q : Int32 → Sg → Prop} (hc : MB T n b σ) (h : ∀ τ, K30 σ τ → MB T n (tI T n b) τ → τ 30 5 = σ 30 5 → τ 30 8 = σ 30 8 → Q (if tI T n b < n then T (tI T n b) &&& 255 else -1) τ) : wp_X6_here σ Q := by
  have k52 : ∀ i τ, i = tI T n b → MB T n i τ → K30 σ τ → τ 30 5 = σ 30 5 → τ 30 8 = σ 30 8 → wp_X6_here_52 Q τ := by
    intro i τ hi c k e5 e8
    rw [← hi] at h
    have f1 := c.1
    have f2 := c.2.2.2.2
    unfold wp_X6_here_52
    rw [c.2.2.1, c.2.2.2.1, nI_clamp (n := i) (by omega)]
    refine pk_le n i (fun g => ?_) (fun g => ⟨vp_in_nI (by omega) (by decide), ?_⟩) rfl rfl (by omega) (by omega)
    · rw [if_neg (by omega)] at h; exact h τ k c e5 e8
    · rw [if_pos g] at h; rw [c.2.1 i g]; exact h τ k c e5 e8
  have key : ∀ d b', n - b' = d → ∀ τ, MB T n b' τ → K30 σ τ → τ 30 5 = σ 30 5 → τ 30 8 = σ 30 8 → tI T n b = tI T n b' → wp_X6_here_0 Q (d + 1) τ := by
    intro d
    induction d with
    | zero =>
      intro b' hd τ c k e5 e8 es
      have f1 := c.1
      have f2 := c.2.2.2.2
      have hW : cW T n b' = false := by
        cases hW : cW T n b'
        · rfl
        · have := cW_b T n b' hW; omega
      rw [wp_X6_here_0, c.2.2.1, c.2.2.2.1]
      refine ⟨fun _ => k52 b' τ (by rw [es]; exact (sc_no hW).symm) c k e5 e8, fun z => absurd (nI_le (by omega) (by omega)) z⟩
    | succ d ih =>
      intro b' hd τ c k e5 e8 es
      have f1 := c.1
      have f2 := c.2.2.2.2
      rw [wp_X6_here_0, c.2.2.1, c.2.2.2.1, nI_clamp (n := b') (by omega), c.2.1 b' (by omega)]
      have go : cW T n b' = true → wp_X6_here_39 Q (fun σ => wp_X6_here_0 Q (d + 1) σ) τ := by
        intro hW σ23 e23
        rw [c.2.2.2.1, nI_1] at e23
        have k23 : K30 τ σ23 := by rw [e23]; exact K30_p _ _ (by decide)
        refine ih (b' + 1) (by omega) σ23 (c.keep k23 (by rw [e23, put_s]) (by omega)) (k.tr k23) (by rw [e23, put_n (by decide)]; exact e5) (by rw [e23, put_n (by decide)]; exact e8) ?_
        rw [es]; exact sc_yes (cW_b T n) hW
      have v : vp_in (nI b') 400 := vp_in_nI (by omega) (by decide)
      refine ⟨fun z => absurd z (nI_ge (by omega) (by omega)), fun _ => ⟨v, fun g => go (by unfold cW; simp [g]; omega), fun g => ⟨v, fun g2 => go (by unfold cW; simp [g2]; omega), fun g2 => k52 b' τ ?_ c k e5 e8⟩⟩⟩
      rw [es]; exact (sc_no (by unfold cW; simp [g, g2])).symm
  exact ⟨n - b + 1, key (n - b) b rfl σ hc (K30.rf σ) rfl rfl rfl⟩
theorem byt_rng {x : Int32} (h : x.toInt8.toInt32 = x) : -128 ≤ x.toInt ∧ x.toInt ≤ 127 := by
  rw [← h, Int8.toInt_toInt32]
  have h1 := Int8.le_toInt x.toInt8
  have h2 := Int8.toInt_lt x.toInt8
  omega
theorem byt_and {x : Int32} (h : x.toInt8.toInt32 = x) {c : Nat} (hc : c < 128) : (x &&& 255 = nI c ↔ x = nI c) ∧ ¬ x &&& 255 = -1 := by
  obtain ⟨b1, b2⟩ := byt_rng h
  have e := pk_and x (m := 255) 8 (by decide)
  rw [e]
  have hb : x.toInt = x.toBitVec.toInt := rfl
  have hn : (x.toBitVec.toNat : Int) = if 0 ≤ x.toInt then x.toInt else x.toInt + 4294967296 := by
    have := BitVec.toInt_eq_toNat_bmod x.toBitVec
    rw [hb]
    have l := x.toBitVec.isLt
    rw [BitVec.toInt_eq_toNat_cond]
    split <;> split <;> omega
  have hlt : x.toBitVec.toNat % 2 ^ 8 < 256 := Nat.mod_lt _ (by decide)
  refine ⟨⟨fun z => ?_, fun z => ?_⟩, fun z => ?_⟩
  · rw [nI_eq (by omega) (by omega)] at z
    apply Int32.toInt_inj.mp
    rw [nI_toInt (by omega)]
    split at hn <;> omega
  · rw [z, pk_tn (by omega), Nat.mod_eq_of_lt (by omega)]
  · have := congrArg Int32.toInt z
    rw [nI_toInt (by omega)] at this
    have e1 : (-1 : Int32).toInt = -1 := by decide
    omega
theorem s_isDigitAt {T : Nat → Int32} {n b i : Nat} {σ : Sg} {Q : Int32 → Sg → Prop} (hc : MB T n b σ) (hi : i < 1000) (h0 : cD T n i = false → Q 0 σ) (h1 : cD T n i = true → Q 1 σ) : wp_X6_isDigitAt σ (nI i) Q := by
  obtain ⟨c1, c2, c3, c4, c5⟩ := hc
  unfold wp_X6_isDigitAt
  rw [c3, nI_clamp (n := i) (by omega)]
  unfold cD at h0 h1
  refine pk_le n i (fun g => ⟨Or.inl rfl, h0 (by simp; omega)⟩) (fun g => ⟨vp_in_nI (by omega) (by decide), ?_⟩) rfl rfl (by omega) (by omega)
  rw [c2 i g]
  refine s_X6_isIn ?_
  unfold inr
  by_cases g2 : T i < 48
  · rw [if_pos g2]; exact ⟨fun _ => ⟨Or.inl rfl, h0 (by simp [g2])⟩, fun z => absurd rfl z⟩
  · rw [if_neg g2]
    by_cases g3 : 57 < T i
    · rw [if_pos g3]; exact ⟨fun _ => ⟨Or.inl rfl, h0 (by simp [g3])⟩, fun z => absurd rfl z⟩
    · rw [if_neg g3]; exact ⟨fun z => absurd z (by decide), fun _ => ⟨Or.inr rfl, h1 (by simp [g, g2, g3])⟩⟩
theorem s_fails0 {σ : Sg} {p1 p2 : Int32} {Q : Sg → Prop} (h0 : σ 30 5 = 0) (h : ∀ τ, τ = put σ 30 5 (p1 + 8 * p2) → Q τ) : wp_X6_fails σ p1 p2 Q := ⟨fun _ => h, fun z => absurd h0 z⟩
theorem s_fails1 {σ : Sg} {p1 p2 : Int32} {Q : Sg → Prop} (h0 : ¬ σ 30 5 = 0) (h : Q σ) : wp_X6_fails σ p1 p2 Q := ⟨fun z => absurd z h0, fun _ => h⟩
theorem e_8 (c i : Nat) : nI c + 8 * nI i = nI (c + 8 * i) := by rw [show (8 : Int32) = nI 8 from rfl, pk_mul, nI_add]
theorem s_number {T : Nat → Int32} {n b : Nat} {σ : Sg} {Q : Int32 → Sg → Prop} (hT : ∀ j, j < n → (T j).toInt8.toInt32 = T j) (hc : MB T n b σ) (h0 : σ 30 5 = 0)
    (h1 : tKi T n (tI T n b) = 2 → ∀ τ, K30 σ τ → MB T n (tEi T n (tI T n b)) τ → τ 30 5 = 0 → τ 30 8 = nI (tI T n b) → Q (tVi T n (tI T n b)) τ)
    (h2 : tKi T n (tI T n b) ≠ 2 → ∀ v τ, K30 σ τ → τ 30 5 = nI (1 + 8 * tI T n b) → Q v τ) : wp_X6_number σ Q := by
  refine ⟨fun _ => s_here hc ?_, fun z => absurd h0 z⟩
  intro σ2 k2 c2 e5 e8
  have hi := c2.2.2.2.2
  have f1 := c2.1
  generalize tI T n b = i at *
  rw [h0] at e5
  have k23 : ∀ y : Int32, (y = 0 ↔ ¬ (i < n ∧ T i = 45)) → wp_X6_number_23 Q y σ2 := by
    intro y hy σ5 e5'
    have k5 : K30 σ2 σ5 := by rw [e5']; exact K30_p _ _ (by decide)
    have c5 : MB T n i σ5 := c2.keep k5 (by rw [e5', put_n (by decide)]; exact c2.2.2.2.1) hi
    have r8 : σ5 30 8 = nI i := by rw [e5', put_s, c2.2.2.2.1]
    have r5 : σ5 30 5 = 0 := by rw [e5', put_n (by decide)]; exact e5
    have k50 : ∀ j, (y = 0 → j = i) → (¬ y = 0 → j = i + 1) → wp_X6_number_50 Q y (nI j) σ5 := by
      intro j hj0 hj1
      have hj : j ≤ i + 1 := by
        rcases Classical.em (y = 0) with q | q
        · have := hj0 q; omega
        · have := hj1 q; omega
      have hjJ : i < n → j = tJ T i := by
        intro hin
        unfold tJ
        rcases Classical.em (y = 0) with q | q
        · rw [if_neg (fun z => hy.mp q ⟨hin, z⟩), hj0 q]
        · rw [if_pos (by
            rcases Classical.em (T i = 45) with z | z
            · exact z
            · exact absurd (hy.mpr (fun w => z w.2)) q), hj1 q]
      unfold wp_X6_number_50
      refine s_isDigitAt c5 (by omega) (fun g => ⟨fun _ => s_fails0 r5 ?_, fun z => absurd rfl z⟩) (fun g => ⟨fun z => absurd z (by decide), fun _ => ?_⟩)
      · intro τ eτ
        have nk : tKi T n i ≠ 2 := by
          unfold tKi
          by_cases hin : n ≤ i
          · rw [if_pos hin]; decide
          · rw [if_neg hin]
            split
            · decide
            · have : tNum T n i = false := by
                unfold tNum
                have ej := hjJ (by omega)
                unfold tJ at ej
                by_cases h45 : T i = 45
                · rw [if_pos h45] at ej
                  rw [ej] at g
                  rw [g]
                  unfold cD; rw [h45]; simp
                · rw [if_neg h45] at ej
                  rw [ej] at g
                  rw [g]; simp [h45]
              rw [if_neg (by rw [this]; decide)]; decide
        refine h2 nk 0 τ ((k2.tr k5).tr (by rw [eτ]; exact K30_p _ _ (by decide))) ?_
        rw [eτ, put_s, r8]; exact e_8 1 i
      · have hjn := cD_b T n j g
        have hin : i < n := by
          rcases Classical.em (y = 0) with q | q
          · have := hj0 q; omega
          · have := hj1 q; omega
        have ej := hjJ hin
        have h45 : (T i = 45 ↔ ¬ y = 0) := ⟨fun z q => hy.mp q ⟨hin, z⟩, fun q => by
          rcases Classical.em (T i = 45) with z | z
          · exact z
          · exact absurd (hy.mpr (fun w => z w.2)) q⟩
        have hN : tNum T n i = true := by
          unfold tNum
          rcases Classical.em (T i = 45) with z | z
          · have := hj1 (h45.mp z)
            rw [this] at g
            simp [z, g]
          · have q : y = 0 := by
              rcases Classical.em (y = 0) with q | q
              · exact q
              · exact absurd (h45.mpr q) z
            rw [hj0 q] at g
            simp [g]
        have hL : cL T n i = false := by
          unfold cL
          unfold tNum cD at hN
          rcases Classical.em (T i = 45) with z | z
          · rw [z]; simp
          · simp [z] at hN
            have l1 := hN.2
            rw [Int32.le_iff_toInt_le] at l1
            simp
            intro _ w
            rw [Int32.le_iff_toInt_le] at w
            have x1 : (57 : Int32).toInt = 57 := by decide
            have x2 : (97 : Int32).toInt = 97 := by decide
            omega
        have eE : tEi T n i = sc (cD T n) n j := by unfold tEi; rw [if_neg (by omega), if_neg (by rw [hL]; decide), if_pos hN, ← ej]
        have eK : tKi T n i = if sc (cD T n) n j - j ≤ 3 then 2 else 4 := by unfold tKi; rw [if_neg (by omega), if_neg (by rw [hL]; decide), if_pos hN, ← ej]
        have eV : tVi T n i = if T i = 45 then -(vl T j (sc (cD T n) n j - j)) else vl T j (sc (cD T n) n j - j) := by unfold tVi; rw [if_pos hN, ← ej]
        have key : ∀ d m, n - (j + m) = d → ∀ υ v, MB T n (j + m) υ → K30 σ υ → υ 30 5 = 0 → υ 30 8 = nI i → (m ≤ 3 → v = vl T j m) → sc (cD T n) n j = sc (cD T n) n (j + m) → wp_X6_number_92 Q (d + 1) y (nI j) v υ := by
          have fin : ∀ m υ v, MB T n (j + m) υ → K30 σ υ → υ 30 5 = 0 → υ 30 8 = nI i → (m ≤ 3 → v = vl T j m) → sc (cD T n) n j = j + m → (((υ 30 7) - nI j) ≤ 3 → (wp_X6_number_167 Q y v υ)) ∧ (¬ (((υ 30 7) - nI j) ≤ 3) → (wp_X6_fails υ 1 (υ 30 8) (fun σ18 => wp_X6_number_167 Q y v σ18))) := by
            intro m υ v c k e5 e8 hv es
            have x1 := c.1
            have x2 := c.2.2.2.2
            rw [es, show j + m - j = m by omega] at eK eV
            rw [es] at eE
            rw [c.2.2.2.1, pk_sub (by omega), show j + m - j = m by omega]
            refine pk_le m 3 (fun gm => ?_) (fun gm => s_fails0 e5 ?_) rfl rfl (by omega) (by omega)
            · rw [if_pos gm] at eK
              have q := h1 eK υ k (by rw [eE]; exact c) e5 e8
              rw [eV] at q
              refine ⟨fun z => ?_, fun z => ?_⟩
              · rw [if_neg (fun w => h45.mp w z)] at q; rw [hv gm]; exact q
              · rw [if_pos (h45.mpr z)] at q; rw [hv gm]; exact q
            · intro τ eτ
              rw [if_neg (by omega)] at eK
              have q := fun v => h2 (by rw [eK]; decide) v τ (k.tr (by rw [eτ]; exact K30_p _ _ (by decide))) (by rw [eτ, put_s, e8]; exact e_8 1 i)
              exact ⟨fun _ => q _, fun _ => q _⟩
          intro d
          induction d with
          | zero =>
            intro m hd υ v c k e5 e8 hv es
            have x1 := c.1
            have x2 := c.2.2.2.2
            rw [wp_X6_number_92, c.2.2.2.1]
            refine s_isDigitAt c (by omega) (fun g => ⟨fun _ => fin m υ v c k e5 e8 hv (by rw [es, sc_no g]), fun z => absurd rfl z⟩) (fun g => ?_)
            have := cD_b T n _ g; omega
          | succ d ih =>
            intro m hd υ v c k e5 e8 hv es
            have x1 := c.1
            have x2 := c.2.2.2.2
            rw [wp_X6_number_92, c.2.2.2.1]
            refine s_isDigitAt c (by omega) (fun g => ⟨fun _ => fin m υ v c k e5 e8 hv (by rw [es, sc_no g]), fun z => absurd rfl z⟩) (fun g => ⟨fun z => absurd z (by decide), fun _ => ?_⟩)
            rw [c.2.2.2.1, pk_sub (by omega), show j + m - j = m by omega, nI_clamp (n := j + m) (by omega), c.2.1 (j + m) (by omega)]
            have go : ∀ v', (m + 1 ≤ 3 → v' = vl T j (m + 1)) → wp_X6_number_134 Q (fun z1 z2 z3 σ => wp_X6_number_92 Q (d + 1) z1 z2 z3 σ) y (nI j) v' υ := by
              intro v' hv' σ21 e21
              rw [c.2.2.2.1, nI_1] at e21
              have k21 : K30 υ σ21 := by rw [e21]; exact K30_p _ _ (by decide)
              refine ih (m + 1) (by omega) σ21 v' (c.keep k21 (by rw [e21, put_s]; rfl) (by omega)) (k.tr k21) (by rw [e21, put_n (by decide)]; exact e5) (by rw [e21, put_n (by decide)]; exact e8) hv' ?_
              rw [es, sc_yes (cD_b T n) g]; rfl
            refine pk_le 3 m (fun gm => go v (fun z => by omega)) (fun gm => ⟨vp_in_nI (by omega) (by decide), go _ (fun _ => ?_)⟩) rfl rfl (by omega) (by omega)
            rw [vl, ← hv (by omega), Int32.mul_comm]
        have k81 : ∀ z : Nat, i + z = j → wp_X6_number_81 Q y (nI i) (nI z) σ5 := by
          intro z hz σ11 e11 x2 ex2
          rw [nI_add, hz] at e11
          have r7 : σ11 30 7 = nI j := by rw [e11, put_s]
          rw [r7] at ex2
          subst ex2
          have k11 : K30 σ5 σ11 := by rw [e11]; exact K30_p _ _ (by decide)
          exact ⟨n - j + 1, key (n - j) 0 rfl σ11 0 (c5.keep k11 r7 (by omega)) ((k2.tr k5).tr k11) (by rw [e11, put_n (by decide)]; exact r5) (by rw [e11, put_n (by decide)]; exact r8) (fun _ => rfl) rfl⟩
        rw [c5.2.2.2.1]
        refine ⟨fun z => k81 0 (by rw [hj0 z]; rfl), fun z => k81 1 (by rw [hj1 z])⟩
    rw [c5.2.2.2.1, nI_1]
    exact ⟨fun z => k50 i (fun _ => rfl) (fun w => absurd z w), fun z => k50 (i + 1) (fun w => absurd w z) (fun _ => rfl)⟩
  by_cases hin : i < n
  · rw [if_pos hin]
    have hb := (byt_and (hT i hin) (c := 45) (by decide)).1
    refine ⟨fun z => k23 1 ⟨fun w => absurd w (by decide), fun w => absurd ⟨hin, hb.mp z⟩ w⟩, fun z => k23 0 ⟨fun _ w => z (hb.mpr w.2), fun _ => rfl⟩⟩
  · rw [if_neg hin]
    refine ⟨fun z => absurd z (by decide), fun z => k23 0 ⟨fun _ w => hin w.1, fun _ => rfl⟩⟩
theorem s_number_n {σ : Sg} {Q : Int32 → Sg → Prop} (h0 : ¬ σ 30 5 = 0) (h : Q 0 σ) : wp_X6_number σ Q := ⟨fun z => absurd z h0, fun _ => h⟩
theorem s_numbr_n {σ : Sg} {lo hi : Int32} {Q : Int32 → Sg → Prop} (h0 : ¬ σ 30 5 = 0) (h : Q 0 σ) : wp_X6_number_ σ lo hi Q := s_number_n h0 ⟨fun z => absurd z h0, fun _ => h⟩
theorem s_numbr {T : Nat → Int32} {n b : Nat} {σ : Sg} {lo hi : Int32} {Q : Int32 → Sg → Prop} (hT : ∀ j, j < n → (T j).toInt8.toInt32 = T j) (hc : MB T n b σ) (h0 : σ 30 5 = 0)
    (h1 : tKi T n (tI T n b) = 2 → ¬ inr lo hi (tVi T n (tI T n b)) = 0 → ∀ τ, K30 σ τ → MB T n (tEi T n (tI T n b)) τ → τ 30 5 = 0 → τ 30 8 = nI (tI T n b) → Q (tVi T n (tI T n b)) τ)
    (h2 : tKi T n (tI T n b) ≠ 2 → ∀ v τ, K30 σ τ → τ 30 5 = nI (1 + 8 * tI T n b) → Q v τ)
    (h3 : tKi T n (tI T n b) = 2 → inr lo hi (tVi T n (tI T n b)) = 0 → ∀ v τ, K30 σ τ → τ 30 5 = nI (2 + 8 * tI T n b) → Q v τ) : wp_X6_number_ σ lo hi Q := by
  have hi' := (tI_p T n b).2 hc.2.2.2.2
  have f1 := hc.1
  refine s_number hT hc h0 (fun g τ k c e5 e8 => ⟨fun _ => s_X6_isIn ⟨fun gz => s_fails0 e5 ?_, fun gz => h1 g gz τ k c e5 e8⟩, fun z => absurd e5 z⟩) (fun g v τ k e5 => ⟨fun z => ?_, fun z => h2 g v τ k e5⟩)
  · intro υ eυ
    refine h3 g gz _ υ (k.tr (by rw [eυ]; exact K30_p _ _ (by decide))) ?_
    rw [eυ, put_s, e8]; exact e_8 2 _
  · rw [e5] at z
    exact absurd z (nI_ne0 (by omega) (by omega))
