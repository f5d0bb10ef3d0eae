theorem F_one {T : Nat → Int32} {n : Nat} {a : AT} {b : Nat} {fit : Int32 → Int32} {k : Int32 → Nat → RS} (hb : b ≤ n) (h : ∀ v e, e ≤ n → (k v e).1 ≤ 3 + 8 * n) : (one T n a b fit k).1 ≤ 3 + 8 * n := by
  unfold one
  have h1 := (tI_p T n b).2 hb
  have h2 := tE_p T n (tI T n b) h1
  split
  · split
    · show 2 + 8 * tI T n b ≤ _; omega
    · exact h _ _ h2.2.1
  · show 1 + 8 * tI T n b ≤ _; omega
theorem F_st {T : Nat → Int32} {n : Nat} {a : AT} {i : Nat} (hi : i ≤ n) : (stS T n a i).1 ≤ 3 + 8 * n := by
  have q2 := (tE_p T n i hi).2.1
  have no : ∀ c, c ≤ 3 → (((c + 8 * i, a, 0) : RS).1 ≤ 3 + 8 * n) := fun c hc => by show c + 8 * i ≤ _; omega
  unfold stS
  split
  · split
    · exact F_one q2 fun _ _ h1 => F_one h1 fun _ _ h2 => F_one h2 fun _ _ h3 => F_one h3 fun _ _ _ => Nat.zero_le _
    · exact no 3 (by decide)
  split
  · split
    · exact F_one q2 fun _ _ h1 => F_one h1 fun _ _ h2 => F_one h2 fun _ _ h3 => F_one h3 fun _ _ h4 => F_one h4 fun _ _ _ => Nat.zero_le _
    · exact no 3 (by decide)
  split
  · exact F_one q2 fun _ _ h1 => F_one h1 fun _ _ _ => Nat.zero_le _
  split
  · split
    · refine F_one q2 fun _ _ h1 => F_one h1 fun _ e h2 => ?_
      have w1 := (tI_p T n e).2 h2
      have w2 := (tE_p T n (tI T n e) w1).2.1
      split
      · exact F_one w2 fun _ _ _ => Nat.zero_le _
      · split
        · exact F_one w2 fun _ _ _ => Nat.zero_le _
        · show 1 + 8 * tI T n e ≤ _; omega
    · exact no 3 (by decide)
  · exact no 1 (by decide)
theorem F_sm {T : Nat → Int32} {n : Nat} {a : AT} {i : Nat} (hO : OKT a) (hi : i ≤ n) : (smS T n a i).1 ≤ 3 + 8 * n := by
  unfold smS
  by_cases z : (stS T n a i).1 = 0
  · rw [if_pos z]
    have g := (tI_p T n (stS T n a i).2.2).2 (G_st (T := T) hO hi z).2.1
    split
    · exact Nat.zero_le _
    · show 1 + 8 * tI T n (stS T n a i).2.2 ≤ _; omega
  · rw [if_neg z]; exact F_st hi
theorem semi {T : Nat → Int32} {n j : Nat} : (tKi T n j = 3 ∧ tVi T n j = 59) ↔ (j < n ∧ T j = 59) := by
  constructor
  · rintro ⟨h1, h2⟩
    unfold tKi at h1
    by_cases g : n ≤ j
    · rw [if_pos g] at h1; omega
    · rw [if_neg g] at h1
      cases hL : cL T n j
      · rw [if_neg (by rw [hL]; decide)] at h1
        cases hN : tNum T n j
        · unfold tVi at h2
          rw [if_neg (by rw [hN]; decide)] at h2
          exact ⟨by omega, h2⟩
        · rw [if_pos hN] at h1
          split at h1 <;> omega
      · rw [if_pos hL] at h1; omega
  · rintro ⟨h1, h2⟩
    have hL : cL T n j = false := by unfold cL; rw [h2]; simp
    have hN : tNum T n j = false := by unfold tNum cD; rw [h2]; simp
    unfold tKi tVi
    rw [if_neg (by omega), if_neg (by rw [hL]; decide), if_neg (by rw [hN]; decide), if_neg (by rw [hN]; decide)]
    exact ⟨rfl, h2⟩
theorem s_readStatement {T : Nat → Int32} {n : Nat} {a : AT} {i : Nat} {σ0 σ : Sg} {Q : Int32 → Sg → Prop} (hO : OKT a) (hi : i ≤ n) (hc : CT T n a (tEi T n i) σ0 σ) (h6 : σ 3 6 = nI (tKi T n i)) (h7 : σ 3 7 = nI i)
    (hb : ¬ (smS T n a i).1 = 0 → ∀ τ, CF a (smS T n a i).1 σ0 τ → Q 0 τ) (hg : (smS T n a i).1 = 0 → ∀ τ, CT T n (smS T n a i).2.1 (smS T n a i).2.2 σ0 τ → Q 1 τ) : wp_X2_readStatement σ Q := by
  have h12 := hO.2.1
  have h40 := hO.2.2.1
  have h8 := hO.1
  have bad : ∀ c, c ≠ 0 → stS T n a i = (c + 8 * i, a, 0) → ∀ τ, CF a (c + 8 * i) σ0 τ → Q 0 τ := by
    intro c hc0 e τ cf
    have e2 : (smS T n a i).1 = c + 8 * i := by
      unfold smS
      rw [e, if_neg (by show ¬ c + 8 * i = 0; omega)]
    rw [e2] at hb
    exact hb (by omega) τ cf
  have key : ∀ (S : Nat), stS T n a i = stS T n a i → ANS T n S a σ0 (fun r8 σ7 => (r8 = 0 → (bz 0 ∧ Q 0 σ7)) ∧ (¬ (r8 = 0) → (wp_X2_readToken σ7 (fun σ10 => ((σ10 3 6) = 3 → (((σ10 3 8) = 59 → (wp_X2_carryOut σ10 (nI S) (fun σ16 => bz 1 ∧ Q 1 σ16))) ∧ (¬ ((σ10 3 8) = 59) → (wp_X2_readStatement_61 Q σ10)))) ∧ (¬ ((σ10 3 6) = 3) → (wp_X2_readStatement_61 Q σ10)))))) (stS T n a i) := by
    intro S _
    refine ⟨fun g τ cf => ⟨fun _ => ⟨Or.inl rfl, ?_⟩, fun z => absurd rfl z⟩, fun g τ ct rdy => ⟨fun z => absurd z (by decide), fun _ => ?_⟩⟩
    · have e2 : (smS T n a i).1 = (stS T n a i).1 := by unfold smS; rw [if_neg g]
      rw [e2] at hb
      exact hb g τ cf
    · have sm : smS T n a i = (if tI T n (stS T n a i).2.2 < n ∧ T (tI T n (stS T n a i).2.2) = 59 then (0, (stS T n a i).2.1, tI T n (stS T n a i).2.2 + 1) else (1 + 8 * tI T n (stS T n a i).2.2, a, 0)) := by unfold smS; rw [if_pos g]
      have hj := (tI_p T n (stS T n a i).2.2).2 ct.1.2.2.2.2
      generalize stS T n a i = r at *
      refine s_readToken ct.1 (fun υ k c e6 e7 e8 => ?_)
      have cu := ct.k3 k c
      generalize tI T n r.2.2 = j at *
      have no : ¬ (j < n ∧ T j = 59) → wp_X2_readStatement_61 Q υ := by
        intro z
        rw [if_neg z] at sm
        refine s_refuse cu.2.1 cu.2.2.2.1 cu.2.2.2.2 e7 (fun ω cf => ⟨Or.inl rfl, ?_⟩)
        rw [sm] at hb
        exact hb (by show ¬ 1 + 8 * j = 0; omega) ω cf
      rw [e6]
      refine ⟨fun g3 => ?_, fun g3 => no (fun z => g3 (by rw [(semi.mpr z).1]; rfl))⟩
      have gk : tKi T n j = 3 := (nI_eq (b := 3) (by have := tK_le T n j; omega) (by omega)).mp g3
      rw [e8 (Or.inr gk)]
      refine ⟨fun g4 => ?_, fun g4 => no (fun z => g4 (semi.mpr z).2)⟩
      have ok := semi.mp ⟨gk, g4⟩
      rw [if_pos ok] at sm
      refine rdy υ _ k cu.2.1 (fun ω kω rω => ⟨Or.inr rfl, ?_⟩)
      rw [sm] at hg
      have eE : tEi T n j = j + 1 := by
        have hL : cL T n j = false := by unfold cL; rw [ok.2]; simp
        have hN : tNum T n j = false := by unfold tNum cD; rw [ok.2]; simp
        unfold tEi
        rw [if_neg (by omega), if_neg (by rw [hL]; decide), if_neg (by rw [hN]; decide)]
      have q3 : ω 3 = υ 3 := kω 3 (by unfold CTW; omega)
      have q16 : ω 16 = υ 16 := kω 16 (by unfold CTW; omega)
      have q18 : ω 18 = υ 18 := kω 18 (by unfold CTW; omega)
      rw [eE] at c
      exact hg rfl ω ⟨⟨c.1, fun m hm => by rw [q16]; exact c.2.1 m hm, by rw [q3]; exact c.2.2.1, by rw [q3]; exact c.2.2.2.1, c.2.2.2.2⟩, rω, by rw [q3]; exact cu.2.2.1, cu.2.2.2.1.tr (fun m hm => kω m (by unfold CTW; omega)), by rw [q18]; exact cu.2.2.2.2⟩
  unfold wp_X2_readStatement wp_X2_statementOf
  refine s_isWord (by decide) hi hc.1 h6 h7 ?_
  by_cases w0 : isW T n i 0
  · rw [if_pos w0]
    refine ⟨fun z => absurd z (by decide), fun _ => ⟨fun z => absurd z (by decide), fun _ => ?_⟩⟩
    unfold wp_X2_isFull
    rw [hc.2.1.1]
    have kk := key 0 rfl
    have ee : stS T n a i = if aNP a < 8 then placeS T n a (tEi T n i) else (3 + 8 * i, a, 0) := by unfold stS; rw [if_pos w0]
    refine ⟨fun _ => ?_, fun z => absurd z (by decide), fun z => absurd z (by decide), fun z => absurd z (by decide), fun z => absurd rfl z⟩
    refine pk_lt (aNP a) 8 (fun g => ⟨Or.inl rfl, fun _ => ?_, fun z => absurd rfl z⟩) (fun g => ⟨Or.inr rfl, fun z => absurd z (by decide), fun _ => ?_⟩) rfl rfl (by omega) (by omega)
    · rw [if_pos g] at ee
      rw [ee] at kk
      exact I_place hc g kk
    · rw [if_neg (by omega)] at ee
      exact s_refuse (c := 3) hc.2.1 hc.2.2.2.1 hc.2.2.2.2 h7 (fun τ cf => ⟨Or.inl rfl, bad 3 (by decide) ee τ cf⟩)
  rw [if_neg w0]
  refine ⟨fun _ => s_isWord (by decide) hi hc.1 h6 h7 ?_, fun z => absurd rfl z⟩
  by_cases w1 : isW T n i 1
  · rw [if_pos w1]
    refine ⟨fun z => absurd z (by decide), fun _ => ⟨fun z => absurd z (by decide), fun _ => ?_⟩⟩
    unfold wp_X2_isFull
    rw [hc.2.1.2.1]
    have kk := key 1 rfl
    have ee : stS T n a i = if aNR a < 12 then roadS T n a (tEi T n i) else (3 + 8 * i, a, 0) := by unfold stS; rw [if_neg w0, if_pos w1]
    refine ⟨fun z => absurd z (by decide), fun _ => ?_, fun z => absurd z (by decide), fun z => absurd z (by decide), fun _ z => absurd rfl z⟩
    refine pk_lt (aNR a) 12 (fun g => ⟨Or.inl rfl, fun _ => ?_, fun z => absurd rfl z⟩) (fun g => ⟨Or.inr rfl, fun z => absurd z (by decide), fun _ => ?_⟩) rfl rfl (by omega) (by omega)
    · rw [if_pos g] at ee
      rw [ee] at kk
      exact I_road h8 hc g kk
    · rw [if_neg (by omega)] at ee
      exact s_refuse (c := 3) hc.2.1 hc.2.2.2.1 hc.2.2.2.2 h7 (fun τ cf => ⟨Or.inl rfl, bad 3 (by decide) ee τ cf⟩)
  rw [if_neg w1]
  refine ⟨fun _ => s_isWord (by decide) hi hc.1 h6 h7 ?_, fun z => absurd rfl z⟩
  by_cases w2 : isW T n i 2
  · rw [if_pos w2]
    refine ⟨fun z => absurd z (by decide), fun _ => ⟨fun z => absurd z (by decide), fun _ => ?_⟩⟩
    have kk := key 2 rfl
    have ee : stS T n a i = turnS T n a (tEi T n i) := by unfold stS; rw [if_neg w0, if_neg w1, if_pos w2]
    rw [ee] at kk
    exact ⟨fun z => absurd z (by decide), fun z => absurd z (by decide), fun _ => ⟨Or.inl rfl, fun _ => I_turn hO hc kk, fun z => absurd rfl z⟩, fun z => absurd z (by decide), fun _ _ z => absurd rfl z⟩
  rw [if_neg w2]
  refine ⟨fun _ => s_isWord (by decide) hi hc.1 h6 h7 ?_, fun z => absurd rfl z⟩
  by_cases w3 : isW T n i 3
  · rw [if_pos w3]
    refine ⟨fun z => absurd z (by decide), fun _ => ⟨fun z => absurd z (by decide), fun _ => ?_⟩⟩
    unfold wp_X2_isFull
    rw [hc.2.1.2.2.1]
    have kk := key 3 rfl
    have ee : stS T n a i = if aNM a < 40 then moveS T n a (tEi T n i) else (3 + 8 * i, a, 0) := by unfold stS; rw [if_neg w0, if_neg w1, if_neg w2, if_pos w3]
    refine ⟨fun z => absurd z (by decide), fun z => absurd z (by decide), fun z => absurd z (by decide), fun _ => ?_, fun _ _ _ z => absurd rfl z⟩
    refine pk_lt (aNM a) 40 (fun g => ⟨Or.inl rfl, fun _ => ?_, fun z => absurd rfl z⟩) (fun g => ⟨Or.inr rfl, fun z => absurd z (by decide), fun _ => ?_⟩) rfl rfl (by omega) (by omega)
    · rw [if_pos g] at ee
      rw [ee] at kk
      exact I_move hO hc g kk
    · rw [if_neg (by omega)] at ee
      exact s_refuse (c := 3) hc.2.1 hc.2.2.2.1 hc.2.2.2.2 h7 (fun τ cf => ⟨Or.inl rfl, bad 3 (by decide) ee τ cf⟩)
  rw [if_neg w3]
  refine ⟨fun _ => ⟨fun _ => ?_, fun z => absurd rfl z⟩, fun z => absurd rfl z⟩
  have ee : stS T n a i = (1 + 8 * i, a, 0) := by unfold stS; rw [if_neg w0, if_neg w1, if_neg w2, if_neg w3]
  exact s_refuse (c := 1) hc.2.1 hc.2.2.2.1 hc.2.2.2.2 h7 (fun τ cf => ⟨Or.inl rfl, bad 1 (by decide) ee τ cf⟩)
theorem cpy24 : k_cpyok (0 : Int32) (0 : Int32) (24 : Int32) 24 24 := by unfold k_cpyok; decide
/-- the class's tell -/
theorem C_tell {T : Nat → Int32} {n : Nat} {a0 : AT} {σ : Sg} {Q : Int32 → Sg → Prop} (hO : OKT a0) (hC : RC σ a0) (hn : n ≤ 400) (hT : ∀ j, j < n → σ 16 j = T j) (h0 : σ 3 0 = nI n)
    (hg : (tlS T n n a0 0 0).1 = 0 → ∀ τ, RC τ (tlS T n n a0 0 0).2.1 → FC σ τ → τ 3 0 = 0 → τ 3 1 = 0 → Q (nI (tlS T n n a0 0 0).2.2) τ)
    (hb : ¬ (tlS T n n a0 0 0).1 = 0 → ∀ τ, RC τ a0 → FC σ τ → τ 3 0 = 0 → τ 3 1 = nI (tlS T n n a0 0 0).1 → Q (-1) τ) : wp_X5_tell σ Q := by
  unfold wp_X5_tell wp_X2_readAll
  intro x1 e1 x2 e2 x3 e3
  refine ⟨cpy24, fun σ4 e4 σ5 e5 σ6 e6 => ?_⟩
  have k6 : ∀ k, k ≠ 3 → k ≠ 18 → σ6 k = σ k := fun k k3 k18 => by rw [e6, put_o k3, e5, put_o k3, e4, setA_o k18]
  have s18 : ∀ j, j < 24 → σ6 18 j = σ 8 j := fun j hj => by
    rw [e6, put_o (by decide), e5, put_o (by decide), e4, setA_k]
    show va_cpy (σ 8) (σ 18) 0 0 24 j = σ 8 j
    rw [pk_cpy_in (by omega) (by omega)]
    congr 1
    omega
  have cb : CB T n 0 σ6 := ⟨hn, fun j hj => by rw [k6 16 (by decide) (by decide)]; exact hT j hj, by rw [e6, put_n (by decide), e5, put_n (by decide), e4, setA_o (by decide)]; exact h0, by rw [e6, put_s]; rfl, Nat.zero_le _⟩
  have ct0 : CT T n a0 0 σ6 σ6 := ⟨cb, hC.keep (by rw [k6 1 (by decide) (by decide)]) (by rw [k6 1 (by decide) (by decide)]) (by rw [k6 2 (by decide) (by decide)]) (k6 6 (by decide) (by decide)) (k6 7 (by decide) (by decide)) (k6 8 (by decide) (by decide)) (k6 9 (by decide) (by decide)) (k6 13 (by decide) (by decide)), by rw [e6, put_n (by decide), e5, put_s], FC.rf _, rfl⟩
  have f6 : FC σ σ6 := fun k hk => k6 k (by omega) (by omega)
  rw [hC.1] at e1
  rw [hC.2.1] at e2
  rw [hC.2.2.1] at e3
  subst e1 e2 e3
  have k91 : ∀ c τ, (tlS T n n a0 0 0).1 = 0 → (tlS T n n a0 0 0).2.2 = c → RC τ (tlS T n n a0 0 0).2.1 → τ 3 1 = 0 → FC σ6 τ → wp_X2_readAll_91 Q (nI (aNP a0)) (nI (aNR a0)) (nI (aNM a0)) (nI c) τ := by
    intro c τ g ec rc e31 fc σ10 e10
    have r1 : σ10 3 1 = 0 := by rw [e10, put_n (by decide)]; exact e31
    rw [r1]
    refine ⟨fun _ => ?_, fun z => absurd rfl z⟩
    have kk : ∀ k, k ≠ 3 → σ10 k = τ k := fun k hk => by rw [e10, put_o hk]
    have := hg g σ10 (rc.keep (by rw [kk 1 (by decide)]) (by rw [kk 1 (by decide)]) (by rw [kk 2 (by decide)]) (kk 6 (by decide)) (kk 7 (by decide)) (kk 8 (by decide)) (kk 9 (by decide)) (kk 13 (by decide))) ((f6.tr fc).tr (fun k hk => kk k (by omega))) (by rw [e10, put_s]) r1
    rw [ec] at this
    exact this
  have kbad : ∀ c a τ, ¬ (tlS T n n a0 0 0).1 = 0 → (tlS T n n a0 0 0).1 ≤ 3 + 8 * n → EXT a0 a → CF a (tlS T n n a0 0 0).1 σ6 τ → wp_X2_readAll_91 Q (nI (aNP a0)) (nI (aNR a0)) (nI (aNM a0)) c τ := by
    intro c a τ g gb ext cf σ10 e10
    obtain ⟨f1, f2, f3, f4⟩ := cf
    have r1 : σ10 3 1 = nI (tlS T n n a0 0 0).1 := by rw [e10, put_n (by decide)]; exact f2
    rw [r1]
    refine ⟨fun z => absurd z (nI_ne0 (by omega) (by omega)), fun _ σ12 e12 σ13 e13 σ14 e14 => ⟨cpy24, fun σ15 e15 => ?_⟩⟩
    have q18 : σ14 18 = σ6 18 := by rw [e14, put_o (by decide), e13, put_o (by decide), e12, put_o (by decide), e10, put_o (by decide)]; exact f4
    have kk : ∀ k, k ≠ 1 → k ≠ 2 → k ≠ 3 → k ≠ 8 → σ15 k = τ k := fun k k1 k2 k3 k8 => by rw [e15, setA_o k8, e14, put_o k2, e13, put_o k1, e12, put_o k1, e10, put_o k3]
    have s8 : ∀ j, j < 24 → σ15 8 j = σ 8 j := fun j hj => by
      rw [e15, setA_k]
      show va_cpy (σ14 18) (σ14 8) 0 0 24 j = σ 8 j
      rw [pk_cpy_in (by omega) (by omega), q18, show 0 + (j - 0) = j by omega, s18 j hj]
    have r3 : ∀ j, σ15 3 j = σ10 3 j := fun j => by rw [e15, setA_o (by decide), e14, put_o (by decide), e13, put_o (by decide), e12, put_o (by decide)]
    refine hb g σ15 ?_ ((f6.tr f3).tr (fun k hk => kk k (by omega) (by omega) (by omega) (by omega))) (by rw [r3, e10, put_s]) (by rw [r3, r1])
    obtain ⟨c1, c2, c3, c4, c5, c6⟩ := f1
    obtain ⟨x1, x2, x3, x4, x5, x6⟩ := ext
    refine ⟨?_, ?_, ?_, ?_, ?_, ?_⟩
    · rw [e15, setA_o (by decide), e14, put_o (by decide), e13, put_n (by decide), e12, put_s]
    · rw [e15, setA_o (by decide), e14, put_o (by decide), e13, put_s]
    · rw [e15, setA_o (by decide), e14, put_s]
    · intro p hp w hw
      rw [kk 9 (by decide) (by decide) (by decide) (by decide), c4 p (by omega) w hw, x4 p hp]
    · intro r hr
      obtain ⟨d1, d2, d3, d4, d5⟩ := c5 r (by omega)
      obtain ⟨y1, y2, y3, y4, y5⟩ := hC.2.2.2.2.1 r hr
      have h12 := hO.2.1
      rw [kk 7 (by decide) (by decide) (by decide) (by decide), kk 6 (by decide) (by decide) (by decide) (by decide), s8 _ (by omega), s8 _ (by omega), d1, d2, d3, x5 r hr 0 (by decide), x5 r hr 1 (by decide), x5 r hr 2 (by decide)]
      exact ⟨rfl, rfl, rfl, y4, y5⟩
    · intro k hk w hw
      rw [kk 13 (by decide) (by decide) (by decide) (by decide), c6 k (by omega) w hw, x6 k hk]
  have key : ∀ k a b c τ, n ≤ b + k → b ≤ n → c ≤ b → OKT a → EXT a0 a → tlS T n n a0 0 0 = tlS T n k a b c → CT T n a (tEi T n (tI T n b)) σ6 τ → τ 3 6 = nI (tKi T n (tI T n b)) → τ 3 7 = nI (tI T n b) → wp_X2_readAll_59 Q (k + 1) (nI (aNP a0)) (nI (aNR a0)) (nI (aNM a0)) (nI c) τ := by
    intro k
    induction k with
    | zero =>
      intro a b c τ hk hbn hcb oa ext eq ct e6' e7'
      rw [wp_X2_readAll_59, e6']
      have hbi := tI_p T n b
      have kz : tKi T n (tI T n b) = 0 := by unfold tKi; rw [if_pos (by omega)]
      rw [kz]
      refine ⟨fun z => absurd z (by rw [show (400 : Int32) = nI 400 from rfl, nI_ltI (by omega) (by omega)]; omega), fun _ => ⟨fun _ => ?_, fun z => absurd rfl z⟩⟩
      refine k91 c τ (by rw [eq]; rfl) (by rw [eq]; rfl) (by rw [eq]; exact ct.2.1) ct.2.2.1 ct.2.2.2.1
    | succ k ih =>
      intro a b c τ hk hbn hcb oa ext eq ct e6' e7'
      rw [wp_X2_readAll_59, e6']
      have hbi := tI_p T n b
      have hi := hbi.2 hbn
      have hK := tK_le T n (tI T n b)
      refine ⟨fun z => absurd z (by rw [show (400 : Int32) = nI 400 from rfl, nI_ltI (by omega) (by omega)]; omega), fun _ => ⟨fun g => ?_, fun g => ?_⟩⟩
      · have gk : tKi T n (tI T n b) = 0 := (nI_eq (b := 0) (by omega) (by omega)).mp g
        have hin : n ≤ tI T n b := by
          rcases Nat.lt_or_ge (tI T n b) n with q | q
          · exfalso
            unfold tKi at gk
            rw [if_neg (by omega)] at gk
            split at gk
            · omega
            · split at gk
              · split at gk <;> omega
              · omega
          · exact q
        have e2 : tlS T n (k + 1) a b c = (0, a, c) := by rw [tlS, if_pos hin]
        rw [e2] at eq
        exact k91 c τ (by rw [eq]) (by rw [eq]) (by rw [eq]; exact ct.2.1) ct.2.2.1 ct.2.2.2.1
      · have hin : ¬ n ≤ tI T n b := fun q => g (by unfold tKi; rw [if_pos q]; rfl)
        have e2 : tlS T n (k + 1) a b c = if (smS T n a (tI T n b)).1 = 0 then tlS T n k (smS T n a (tI T n b)).2.1 (smS T n a (tI T n b)).2.2 (c + 1) else ((smS T n a (tI T n b)).1, a, c) := by rw [tlS, if_neg hin]
        refine s_readStatement oa hi ct e6' e7' (fun z υ cf => ⟨fun _ => ?_, fun q => absurd rfl q⟩) (fun z υ cu => ⟨fun q => absurd q (by decide), fun _ x4 e4' => ?_⟩)
        · rw [if_neg z] at e2
          rw [e2] at eq
          have e3 : (tlS T n n a0 0 0).1 = (smS T n a (tI T n b)).1 := by rw [eq]
          refine kbad (nI c) a υ (by rw [e3]; exact z) (by rw [e3]; exact F_sm oa hi) ext ?_
          rw [e3]; exact cf
        · rw [if_pos z] at e2
          rw [nI_1] at e4'
          subst e4'
          obtain ⟨g1, g2, g3, g4⟩ := G_sm (T := T) oa hi z
          generalize smS T n a (tI T n b) = r at *
          refine s_readToken cu.1 (fun ω kω cω e6 e7 _ => ?_)
          exact ih r.2.1 r.2.2 (c + 1) ω (by omega) g2 (by omega) g3 (ext.tr g4) (eq.trans e2) (cu.k3 kω cω) e6 e7
  refine s_readToken cb (fun ω kω cω e6 e7 _ => ⟨n + 1, key n a0 0 0 ω (by omega) (Nat.zero_le _) (Nat.le_refl _) hO (EXT.rf _) rfl (ct0.k3 kω cω) e6 e7⟩)
