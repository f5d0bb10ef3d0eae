def wv (T : Nat → Int32) (i : Nat) : Nat → Int32
  | 0 => 0
  | k + 1 => if k < 5 then 32 * wv T i k + T (i + k) - 96 else 0
theorem s_word {T : Nat → Int32} {n b : Nat} {σ : Sg} {Q : Int32 → Sg → Prop} (hc : MB T n b σ) (h : ∀ τ, K30 σ τ → MB T n (sc (cL T n) n (tI T n b)) τ → τ 30 5 = σ 30 5 → τ 30 8 = nI (tI T n b) → Q (wv T (tI T n b) (sc (cL T n) n (tI T n b) - tI T n b)) τ) : wp_X6_word σ Q := by
  refine s_here hc ?_
  intro σ1 k1 c1 e5 e8 σ3 e3
  generalize tI T n b = i at *
  have hi := c1.2.2.2.2
  have k3 : K30 σ1 σ3 := by rw [e3]; exact K30_p _ _ (by decide)
  have key : ∀ d m, n - (i + m) = d → ∀ υ, MB T n (i + m) υ → K30 σ υ → υ 30 5 = σ 30 5 → υ 30 8 = nI i → sc (cL T n) n i = sc (cL T n) n (i + m) → wp_X6_word_15 Q (d + 1) (wv T i m) υ := by
    have fin : ∀ m υ, MB T n (i + m) υ → K30 σ υ → υ 30 5 = σ 30 5 → υ 30 8 = nI i → sc (cL T n) n i = i + m → Q (wv T i m) υ := by
      intro m υ c k e5 e8 es
      rw [es, show i + m - i = m by omega] at h
      exact h υ k c e5 e8
    intro d
    induction d with
    | zero =>
      intro m hd υ c k e5 e8 es
      have x1 := c.1
      have x2 := c.2.2.2.2
      have hL : cL T n (i + m) = false := by
        cases hL : cL T n (i + m)
        · rfl
        · have := cL_b T n _ hL; omega
      rw [wp_X6_word_15, c.2.2.1, c.2.2.2.1]
      refine ⟨fun _ => fin m υ c k e5 e8 (by rw [es, sc_no hL]), fun z => absurd (nI_le (by omega) (by omega)) z⟩
    | succ d ih =>
      intro m hd υ c k e5 e8 es
      have x1 := c.1
      have x2 := c.2.2.2.2
      rw [wp_X6_word_15, c.2.2.1, c.2.2.2.1, nI_clamp (n := i + m) (by omega), c.2.1 (i + m) (by omega)]
      refine ⟨fun z => absurd z (nI_ge (by omega) (by omega)), fun _ => ⟨vp_in_nI (by omega) (by decide), s_X6_isIn ⟨fun g => fin m υ c k e5 e8 ?_, fun g => ?_⟩⟩⟩
      · rw [es, sc_no]
        unfold inr at g
        unfold cL
        by_cases g1 : T (i + m) < 97
        · simp [g1]
        · rw [if_neg g1] at g
          by_cases g2 : 122 < T (i + m)
          · simp [g2]
          · rw [if_neg g2] at g; exact absurd g (by decide)
      · have hL : cL T n (i + m) = true := by
          unfold inr at g
          unfold cL
          by_cases g1 : T (i + m) < 97
          · rw [if_pos g1] at g; exact absurd rfl g
          · rw [if_neg g1] at g
            by_cases g2 : 122 < T (i + m)
            · rw [if_pos g2] at g; exact absurd rfl g
            · simp [g1, g2]; omega
        rw [c.2.2.2.1, e8, pk_sub (by omega), show i + m - i = m by omega]
        have go : ∀ v', v' = wv T i (m + 1) → wp_X6_word_79 Q (fun z1 σ => wp_X6_word_15 Q (d + 1) z1 σ) v' υ := by
          intro v' hv' σ9 e9
          rw [c.2.2.2.1, nI_1] at e9
          subst hv'
          have k9 : K30 υ σ9 := by rw [e9]; exact K30_p _ _ (by decide)
          refine ih (m + 1) (by omega) σ9 (c.keep k9 (by rw [e9, put_s]; rfl) (by omega)) (k.tr k9) (by rw [e9, put_n (by decide)]; exact e5) (by rw [e9, put_n (by decide)]; exact e8) ?_
          rw [es, sc_yes (cL_b T n) hL]; rfl
        refine pk_le 5 m (fun gm => go _ ?_) (fun gm => ⟨vp_in_nI (by omega) (by decide), go _ ?_⟩) rfl rfl (by omega) (by omega)
        · rw [wv, if_neg (by omega)]
        · rw [nI_clamp (n := i + m) (by omega), c.2.1 (i + m) (by omega), wv, if_pos (by omega)]
  have r8 : σ3 30 8 = nI i := by rw [e3, put_s, c1.2.2.2.1]
  exact ⟨n - i + 1, key (n - i) 0 rfl σ3 (c1.keep k3 (by rw [e3, put_n (by decide)]; exact c1.2.2.2.1) hi) (k1.tr k3) (by rw [e3, put_n (by decide)]; exact e5) r8 rfl⟩
/-- the numbers of the letters -/
def wn (t : Nat → Nat) : Nat → Nat
  | 0 => 0
  | k + 1 => 32 * wn t k + t k - 96
theorem dig {X Y a b : Nat} (h : 32 * X + a - 96 = Y * 32 + b) (ha : 97 ≤ a ∧ a ≤ 122) (hb : 1 ≤ b ∧ b ≤ 26) : X = Y ∧ a = 96 + b := by omega
theorem wn_5 {t : Nat → Nat} {m c0 c1 c2 c3 c4 : Nat} (hm : m ≤ 5) (ht : ∀ k, k < m → 97 ≤ t k ∧ t k ≤ 122) (h0 : 1 ≤ c0 ∧ c0 ≤ 26) (h1 : 1 ≤ c1 ∧ c1 ≤ 26) (h2 : 1 ≤ c2 ∧ c2 ≤ 26) (h3 : 1 ≤ c3 ∧ c3 ≤ 26) (h4 : 1 ≤ c4 ∧ c4 ≤ 26) : wn t m = (((c0 * 32 + c1) * 32 + c2) * 32 + c3) * 32 + c4 ↔ m = 5 ∧ t 0 = 96 + c0 ∧ t 1 = 96 + c1 ∧ t 2 = 96 + c2 ∧ t 3 = 96 + c3 ∧ t 4 = 96 + c4 := by
  rcases (show m = 0 ∨ m = 1 ∨ m = 2 ∨ m = 3 ∨ m = 4 ∨ m = 5 by omega) with rfl | rfl | rfl | rfl | rfl | rfl
  · simp only [wn]; omega
  · have := ht 0 (by omega); simp only [wn]; omega
  · have := ht 0 (by omega); have := ht 1 (by omega); simp only [wn]; omega
  · have := ht 0 (by omega); have := ht 1 (by omega); have := ht 2 (by omega); simp only [wn]; omega
  · have := ht 0 (by omega); have := ht 1 (by omega); have := ht 2 (by omega); have := ht 3 (by omega); simp only [wn]; omega
  · have t0 := ht 0 (by omega)
    have t1 := ht 1 (by omega)
    have t2 := ht 2 (by omega)
    have t3 := ht 3 (by omega)
    have t4 := ht 4 (by omega)
    simp only [wn]
    constructor
    · intro h
      obtain ⟨h, e4⟩ := dig h t4 h4
      obtain ⟨h, e3⟩ := dig h t3 h3
      obtain ⟨h, e2⟩ := dig h t2 h2
      obtain ⟨h, e1⟩ := dig h t1 h1
      exact ⟨trivial, by omega, e1, e2, e3, e4⟩
    · rintro ⟨-, z0, z1, z2, z3, z4⟩
      rw [z0, z1, z2, z3, z4]
      have x0 : 32 * 0 + (96 + c0) - 96 = c0 := by omega
      rw [x0]
      have x1 : 32 * c0 + (96 + c1) - 96 = c0 * 32 + c1 := by omega
      rw [x1]
      have x2 : 32 * (c0 * 32 + c1) + (96 + c2) - 96 = (c0 * 32 + c1) * 32 + c2 := by omega
      rw [x2]
      have x3 : 32 * ((c0 * 32 + c1) * 32 + c2) + (96 + c3) - 96 = ((c0 * 32 + c1) * 32 + c2) * 32 + c3 := by omega
      rw [x3]
      omega
theorem wn_4 {t : Nat → Nat} {m c1 c2 c3 c4 : Nat} (hm : m ≤ 5) (ht : ∀ k, k < m → 97 ≤ t k ∧ t k ≤ 122) (h1 : 1 ≤ c1 ∧ c1 ≤ 26) (h2 : 1 ≤ c2 ∧ c2 ≤ 26) (h3 : 1 ≤ c3 ∧ c3 ≤ 26) (h4 : 1 ≤ c4 ∧ c4 ≤ 26) : wn t m = ((c1 * 32 + c2) * 32 + c3) * 32 + c4 ↔ m = 4 ∧ t 0 = 96 + c1 ∧ t 1 = 96 + c2 ∧ t 2 = 96 + c3 ∧ t 3 = 96 + c4 := by
  rcases (show m = 0 ∨ m = 1 ∨ m = 2 ∨ m = 3 ∨ m = 4 ∨ m = 5 by omega) with rfl | rfl | rfl | rfl | rfl | rfl
  · simp only [wn]; omega
  · have := ht 0 (by omega); simp only [wn]; omega
  · have := ht 0 (by omega); have := ht 1 (by omega); simp only [wn]; omega
  · have := ht 0 (by omega); have := ht 1 (by omega); have := ht 2 (by omega); simp only [wn]; omega
  · have t0 := ht 0 (by omega)
    have t1 := ht 1 (by omega)
    have t2 := ht 2 (by omega)
    have t3 := ht 3 (by omega)
    simp only [wn]
    constructor
    · intro h
      obtain ⟨h, e4⟩ := dig h t3 h4
      obtain ⟨h, e3⟩ := dig h t2 h3
      obtain ⟨h, e2⟩ := dig h t1 h2
      exact ⟨trivial, by omega, e2, e3, e4⟩
    · rintro ⟨-, z0, z1, z2, z3⟩
      rw [z0, z1, z2, z3]
      have x0 : 32 * 0 + (96 + c1) - 96 = c1 := by omega
      rw [x0]
      have x1 : 32 * c1 + (96 + c2) - 96 = c1 * 32 + c2 := by omega
      rw [x1]
      have x2 : 32 * (c1 * 32 + c2) + (96 + c3) - 96 = (c1 * 32 + c2) * 32 + c3 := by omega
      rw [x2]
      omega
  · have := ht 0 (by omega); have := ht 1 (by omega); have := ht 2 (by omega); have := ht 3 (by omega); have := ht 4 (by omega); simp only [wn]; omega
theorem wv_wn {T : Nat → Int32} {i : Nat} {t : Nat → Nat} : ∀ m, m ≤ 5 → (∀ k, k < m → T (i + k) = nI (t k) ∧ 97 ≤ t k ∧ t k ≤ 122) → wv T i m = nI (wn t m) ∧ wn t m < 32 ^ m := by
  intro m
  induction m with
  | zero => intro _ _; exact ⟨rfl, show 0 < 1 by decide⟩
  | succ m ih =>
    intro hm ht
    obtain ⟨i1, i2⟩ := ih (by omega) (fun k hk => ht k (by omega))
    obtain ⟨t1, t2, t3⟩ := ht m (by omega)
    have hp : 32 ^ (m + 1) = 32 * 32 ^ m := by rw [Nat.pow_succ, Nat.mul_comm]
    rw [wv, if_pos (by omega), i1, t1, wn, show (32 : Int32) = nI 32 from rfl, show (96 : Int32) = nI 96 from rfl, pk_mul, nI_add, pk_sub (by omega), hp]
    refine ⟨rfl, by omega⟩
theorem cL_num {T : Nat → Int32} {n j : Nat} (h : cL T n j = true) : ∃ t, T j = nI t ∧ 97 ≤ t ∧ t ≤ 122 := by
  unfold cL at h
  simp at h
  obtain ⟨⟨h1, h2⟩, h3⟩ := h
  rw [Int32.le_iff_toInt_le] at h2 h3
  have x1 : (97 : Int32).toInt = 97 := by decide
  have x2 : (122 : Int32).toInt = 122 := by decide
  exact ⟨(T j).toInt.toNat, i_nI (by omega), by omega, by omega⟩
def cdW : List Nat := [17171557, 605220, 677454, 442053, 66667, 21239365]
theorem word_eq {T : Nat → Int32} {n i w : Nat} (hi : i ≤ n) (hw : w < 6) : wv T i (sc (cL T n) n i - i) = nI (cdW.getD w 0) ↔ isW T n i w := by
  obtain ⟨a1, a2, a3, a4⟩ := sc_all (cL_b T n) _ i rfl
  have a2 := a2 hi
  have hK : isW T n i w ↔ (sc (cL T n) n i - i = lenS.getD w 0 ∧ ∀ k, k < lenS.getD w 0 → T (i + k) = (bytS.getD w []).getD k 0) := by
    have hl : 0 < lenS.getD w 0 := by
      have : ∀ w, w < 6 → 0 < lenS.getD w 0 := by decide
      exact this w hw
    cases hL : cL T n i
    · rw [sc_no hL]
      have : tKi T n i ≠ 1 := by
        unfold tKi
        split
        · decide
        · rw [if_neg (by rw [hL]; decide)]
          split
          · split <;> decide
          · decide
      exact ⟨fun z => absurd z.1 this, fun z => by have := z.1; omega⟩
    · have hn := cL_b T n i hL
      have eK : tKi T n i = 1 := by unfold tKi; rw [if_neg (by omega), if_pos hL]
      have eE : tEi T n i = sc (cL T n) n i := by unfold tEi; rw [if_neg (by omega), if_pos hL]
      unfold isW
      rw [eK, eE]
      exact ⟨fun z => z.2, fun z => ⟨rfl, z⟩⟩
  rw [hK]
  have hlet : ∀ k, k < sc (cL T n) n i - i → ∃ t, T (i + k) = nI t ∧ 97 ≤ t ∧ t ≤ 122 := fun k hk => cL_num (a4 (i + k) (by omega) (by omega))
  generalize sc (cL T n) n i - i = m at *
  by_cases hm : m ≤ 5
  · have ht : ∀ k, k < m → T (i + k) = nI ((T (i + k)).toNatClampNeg) ∧ 97 ≤ (T (i + k)).toNatClampNeg ∧ (T (i + k)).toNatClampNeg ≤ 122 := by
      intro k hk
      obtain ⟨t, t1, t2, t3⟩ := hlet k hk
      rw [t1, nI_clamp (by omega)]
      exact ⟨rfl, t2, t3⟩
    obtain ⟨q1, q2⟩ := wv_wn (t := fun k => (T (i + k)).toNatClampNeg) m hm ht
    have q3 : wn (fun k => (T (i + k)).toNatClampNeg) m < 2147483648 := by
      have : 32 ^ m ≤ 32 ^ 5 := Nat.pow_le_pow_right (by decide) hm
      have : (32 : Nat) ^ 5 = 33554432 := by decide
      omega
    have hb := fun k hk => (ht k hk).2
    have ht1 := fun k hk => (ht k hk).1
    have conv : ∀ k c, k < m → c < 1000 → (T (i + k) = nI c ↔ (T (i + k)).toNatClampNeg = c) := by
      intro k c hk hc
      rw [ht1 k hk, nI_clamp (by have := hb k hk; omega)]
      exact nI_eq (by have := hb k hk; omega) (by omega)
    have hc : cdW.getD w 0 < 2147483648 := by
      have : ∀ w, w < 6 → cdW.getD w 0 < 2147483648 := by decide
      exact this w hw
    rw [q1, nI_eq q3 hc]
    have five : ∀ (c0 c1 c2 c3 c4 : Nat) (b0 b1 b2 b3 b4 : Int32), 1 ≤ c0 ∧ c0 ≤ 26 → 1 ≤ c1 ∧ c1 ≤ 26 → 1 ≤ c2 ∧ c2 ≤ 26 → 1 ≤ c3 ∧ c3 ≤ 26 → 1 ≤ c4 ∧ c4 ≤ 26 → b0 = nI (96 + c0) → b1 = nI (96 + c1) → b2 = nI (96 + c2) → b3 = nI (96 + c3) → b4 = nI (96 + c4) → (wn (fun k => (T (i + k)).toNatClampNeg) m = (((c0 * 32 + c1) * 32 + c2) * 32 + c3) * 32 + c4 ↔ (m = 5 ∧ ∀ k, k < 5 → T (i + k) = [b0, b1, b2, b3, b4].getD k 0)) := by
      intro c0 c1 c2 c3 c4 b0 b1 b2 b3 b4 h0 h1 h2 h3 h4 e0 e1 e2 e3 e4
      rw [wn_5 hm hb h0 h1 h2 h3 h4]
      constructor
      · rintro ⟨rfl, z0, z1, z2, z3, z4⟩
        refine ⟨rfl, fun k hk => ?_⟩
        rcases (show k = 0 ∨ k = 1 ∨ k = 2 ∨ k = 3 ∨ k = 4 by omega) with rfl | rfl | rfl | rfl | rfl
        · show T (i + 0) = b0; rw [e0, conv 0 _ (by omega) (by omega)]; exact z0
        · show T (i + 1) = b1; rw [e1, conv 1 _ (by omega) (by omega)]; exact z1
        · show T (i + 2) = b2; rw [e2, conv 2 _ (by omega) (by omega)]; exact z2
        · show T (i + 3) = b3; rw [e3, conv 3 _ (by omega) (by omega)]; exact z3
        · show T (i + 4) = b4; rw [e4, conv 4 _ (by omega) (by omega)]; exact z4
      · rintro ⟨rfl, z⟩
        refine ⟨rfl, ?_, ?_, ?_, ?_, ?_⟩
        · exact (conv 0 _ (by omega) (by omega)).mp ((z 0 (by omega)).trans e0)
        · exact (conv 1 _ (by omega) (by omega)).mp ((z 1 (by omega)).trans e1)
        · exact (conv 2 _ (by omega) (by omega)).mp ((z 2 (by omega)).trans e2)
        · exact (conv 3 _ (by omega) (by omega)).mp ((z 3 (by omega)).trans e3)
        · exact (conv 4 _ (by omega) (by omega)).mp ((z 4 (by omega)).trans e4)
    have four : ∀ (c1 c2 c3 c4 : Nat) (b1 b2 b3 b4 : Int32), 1 ≤ c1 ∧ c1 ≤ 26 → 1 ≤ c2 ∧ c2 ≤ 26 → 1 ≤ c3 ∧ c3 ≤ 26 → 1 ≤ c4 ∧ c4 ≤ 26 → b1 = nI (96 + c1) → b2 = nI (96 + c2) → b3 = nI (96 + c3) → b4 = nI (96 + c4) → (wn (fun k => (T (i + k)).toNatClampNeg) m = ((c1 * 32 + c2) * 32 + c3) * 32 + c4 ↔ (m = 4 ∧ ∀ k, k < 4 → T (i + k) = [b1, b2, b3, b4].getD k 0)) := by
      intro c1 c2 c3 c4 b1 b2 b3 b4 h1 h2 h3 h4 e1 e2 e3 e4
      rw [wn_4 hm hb h1 h2 h3 h4]
      constructor
      · rintro ⟨rfl, z1, z2, z3, z4⟩
        refine ⟨rfl, fun k hk => ?_⟩
        rcases (show k = 0 ∨ k = 1 ∨ k = 2 ∨ k = 3 by omega) with rfl | rfl | rfl | rfl
        · show T (i + 0) = b1; rw [e1, conv 0 _ (by omega) (by omega)]; exact z1
        · show T (i + 1) = b2; rw [e2, conv 1 _ (by omega) (by omega)]; exact z2
        · show T (i + 2) = b3; rw [e3, conv 2 _ (by omega) (by omega)]; exact z3
        · show T (i + 3) = b4; rw [e4, conv 3 _ (by omega) (by omega)]; exact z4
      · rintro ⟨rfl, z⟩
        refine ⟨rfl, ?_, ?_, ?_, ?_⟩
        · exact (conv 0 _ (by omega) (by omega)).mp ((z 0 (by omega)).trans e1)
        · exact (conv 1 _ (by omega) (by omega)).mp ((z 1 (by omega)).trans e2)
        · exact (conv 2 _ (by omega) (by omega)).mp ((z 2 (by omega)).trans e3)
        · exact (conv 3 _ (by omega) (by omega)).mp ((z 3 (by omega)).trans e4)
    rcases (show w = 0 ∨ w = 1 ∨ w = 2 ∨ w = 3 ∨ w = 4 ∨ w = 5 by omega) with rfl | rfl | rfl | rfl | rfl | rfl
    · exact five 16 12 1 3 5 112 108 97 99 101 (by decide) (by decide) (by decide) (by decide) (by decide) rfl rfl rfl rfl rfl
    · exact four 18 15 1 4 114 111 97 100 (by decide) (by decide) (by decide) (by decide) rfl rfl rfl rfl
    · exact four 20 21 18 14 116 117 114 110 (by decide) (by decide) (by decide) (by decide) rfl rfl rfl rfl
    · exact four 13 15 22 5 109 111 118 101 (by decide) (by decide) (by decide) (by decide) rfl rfl rfl rfl
    · exact four 2 1 3 11 98 97 99 107 (by decide) (by decide) (by decide) (by decide) rfl rfl rfl rfl
    · exact five 20 8 5 18 5 116 104 101 114 101 (by decide) (by decide) (by decide) (by decide) (by decide) rfl rfl rfl rfl rfl
  · have hl : lenS.getD w 0 ≤ 5 := by
      have : ∀ w, w < 6 → lenS.getD w 0 ≤ 5 := by decide
      exact this w hw
    have h0 : wv T i m = 0 := by
      obtain ⟨m', rfl⟩ : ∃ m', m = m' + 1 := ⟨m - 1, by omega⟩
      rw [wv, if_neg (by omega)]
    rw [h0]
    have hc : ¬ (0 : Int32) = nI (cdW.getD w 0) := by
      have : ∀ w, w < 6 → ¬ (0 : Int32) = nI (cdW.getD w 0) := by decide
      exact this w hw
    exact ⟨fun z => absurd z hc, fun z => by have := z.1; omega⟩
