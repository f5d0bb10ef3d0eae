/-! THE PURE PART. The town, the plan, the tape as numbers; what the class's cells and the reference's say of them. -/
abbrev AT : Type := (Nat × Nat × Nat) × (Nat → Nat → Nat) × (Nat → Nat → Nat) × (Nat → Nat → Nat)
def aNP (a : AT) : Nat := a.1.1
def aNR (a : AT) : Nat := a.1.2.1
def aNM (a : AT) : Nat := a.1.2.2
def aP (a : AT) : Nat → Nat → Nat := a.2.1
def aR (a : AT) : Nat → Nat → Nat := a.2.2.1
def aM (a : AT) : Nat → Nat → Nat := a.2.2.2
/-- the ranges that the document gives -/
def OKT (a : AT) : Prop := aNP a ≤ 8 ∧ aNR a ≤ 12 ∧ aNM a ≤ 40 ∧ (∀ p, p < aNP a → aP a p 0 ≤ 60 ∧ aP a p 1 ≤ 300 ∧ aP a p 2 ≤ 20 ∧ aP a p 3 ≤ 300) ∧
  (∀ r, r < aNR a → aR a r 0 < aNP a ∧ aR a r 1 < aNP a ∧ aR a r 0 ≠ aR a r 1 ∧ 1 ≤ aR a r 2 ∧ aR a r 2 ≤ 9 ∧ 1 ≤ aR a r 3 + aR a r 4 ∧ aR a r 3 + aR a r 4 ≤ 18) ∧
  (∀ k, k < aNM a → aM a k 0 ≤ 40 ∧ aM a k 1 < aNR a ∧ aM a k 2 ≤ 1 ∧ 1 ≤ aM a k 3 ∧ aM a k 3 ≤ 60)
/-- the class's cells hold the town and the plan -/
def RC (σ : Sg) (a : AT) : Prop := σ 1 0 = nI (aNP a) ∧ σ 1 1 = nI (aNR a) ∧ σ 2 0 = nI (aNM a) ∧ (∀ p, p < aNP a → ∀ w, w < 4 → σ 9 (4 * p + w) = nI (aP a p w)) ∧
  (∀ r, r < aNR a → σ 7 (2 * r) = nI (aR a r 0) ∧ σ 7 (2 * r + 1) = nI (aR a r 1) ∧ σ 6 r = nI (aR a r 2) ∧ σ 8 (2 * r) = nI (aR a r 3) ∧ σ 8 (2 * r + 1) = nI (aR a r 4)) ∧
  (∀ k, k < aNM a → ∀ w, w < 4 → σ 13 (4 * k + w) = nI (aM a k w))
/-- the reference's row 'now' holds them -/
def RM (σ : Sg) (a : AT) : Prop := σ 31 0 = nI (aNP a) ∧ σ 31 1 = nI (aNR a) ∧ σ 31 2 = nI (aNM a) ∧ (∀ p, p < aNP a → ∀ w, w < 4 → σ 31 (3 + 4 * p + w) = nI (aP a p w)) ∧
  (∀ r, r < aNR a → ∀ w, w < 5 → σ 31 (35 + 5 * r + w) = nI (aR a r w)) ∧ (∀ k, k < aNM a → ∀ w, w < 4 → σ 31 (95 + 4 * k + w) = nI (aM a k w))
/-- the tapes and the faults -/
def RT (σ : Sg) (nt : Nat) (tp : Nat → Int32) (ft : Int32) : Prop := nt ≤ 400 ∧ σ 3 0 = nI nt ∧ σ 30 4 = nI nt ∧ (∀ j, j < nt → σ 16 j = tp j ∧ σ 33 j = tp j ∧ (tp j).toInt8.toInt32 = tp j) ∧ σ 3 1 = ft ∧ σ 30 5 = ft
def INV (σ : Sg) : Prop := ∃ (a : AT) (nt : Nat) (tp : Nat → Int32) (ft : Int32), OKT a ∧ RC σ a ∧ RM σ a ∧ RT σ nt tp ft
/-- what a call of the class leaves: the reference's cells, and its own that last -/
def FC (σ τ : Sg) : Prop := ∀ k, 30 ≤ k → τ k = σ k
def FM (σ τ : Sg) : Prop := ∀ k, k < 30 → τ k = σ k
theorem FC.rf (σ : Sg) : FC σ σ := fun _ _ => rfl
theorem FM.rf (σ : Sg) : FM σ σ := fun _ _ => rfl
theorem FC.tr {σ τ υ : Sg} (h : FC σ τ) (g : FC τ υ) : FC σ υ := fun k hk => (g k hk).trans (h k hk)
theorem FM.tr {σ τ υ : Sg} (h : FM σ τ) (g : FM τ υ) : FM σ υ := fun k hk => (g k hk).trans (h k hk)
theorem put_o {σ : Sg} {k j : Nat} {v : Int32} {b : Nat} (h : b ≠ k) : put σ k j v b = σ b := by simp [put, setA, h]
theorem put_k {σ : Sg} {k j : Nat} {v : Int32} : put σ k j v k = upd (σ k) j v := by simp [put, setA]
theorem put_s {σ : Sg} {k j : Nat} {v : Int32} : put σ k j v k j = v := by simp [put, setA, upd]
theorem put_n {σ : Sg} {k j i : Nat} {v : Int32} (h : i ≠ j) : put σ k j v k i = σ k i := by simp [put, setA, upd, h]
theorem put_at (σ : Sg) (k j : Nat) (v : Int32) (b i : Nat) : put σ k j v b i = if b = k ∧ i = j then v else σ b i := by
  by_cases hb : b = k
  · subst hb
    by_cases hi : i = j
    · subst hi; simp [put, setA, upd]
    · simp [put, setA, upd, hi]
  · simp [put, setA, hb]
theorem setA_o {σ : Sg} {k : Nat} {f : Nat → Int32} {b : Nat} (h : b ≠ k) : setA σ k f b = σ b := by simp [setA, h]
theorem setA_k {σ : Sg} {k : Nat} {f : Nat → Int32} : setA σ k f k = f := by simp [setA]
theorem FC_p (σ : Sg) {k j : Nat} {v : Int32} (h : k < 30) : FC σ (put σ k j v) := fun b hb => put_o (by omega)
theorem FM_p (σ : Sg) {k j : Nat} {v : Int32} (h : 30 ≤ k) : FM σ (put σ k j v) := fun b hb => put_o (by omega)
/-- an index, by the number behind it -/
theorem ixn {x : Int32} {n : Nat} (h : x = nI n) (hn : n < 2147483648) : x.toNatClampNeg = n := by rw [h]; exact nI_clamp hn
theorem inn {x : Int32} {n N : Nat} (h : x = nI n) (hn : n < N) (hN : N < 2147483648) : vp_in x N := by rw [h]; exact vp_in_nI hn hN
theorem e_m4 (p w : Nat) : nI p * 4 + nI w = nI (4 * p + w) := by
  rw [show (4 : Int32) = nI 4 from rfl, pk_mul, nI_add, Nat.mul_comm]
theorem e_2 (r : Nat) : 2 * nI r = nI (2 * r) := by rw [show (2 : Int32) = nI 2 from rfl, pk_mul]
theorem e_21 (r : Nat) : 2 * nI r + 1 = nI (2 * r + 1) := by rw [e_2, nI_1]
theorem e_p (p w : Nat) : 3 + 4 * nI p + nI w = nI (3 + 4 * p + w) := by rw [show (4 : Int32) = nI 4 from rfl, show (3 : Int32) = nI 3 from rfl, pk_mul, nI_add, nI_add]
theorem e_r (r w : Nat) : 35 + 5 * nI r + nI w = nI (35 + 5 * r + w) := by rw [show (5 : Int32) = nI 5 from rfl, show (35 : Int32) = nI 35 from rfl, pk_mul, nI_add, nI_add]
theorem e_k (k w : Nat) : 95 + 4 * nI k + nI w = nI (95 + 4 * k + w) := by rw [show (4 : Int32) = nI 4 from rfl, show (95 : Int32) = nI 95 from rfl, pk_mul, nI_add, nI_add]
/-- whether x lies from lo to hi, as an int -/
def inr (lo hi x : Int32) : Int32 := if x < lo then 0 else if hi < x then 0 else 1
/-- whether x is a number below n -/
def inp (n x : Int32) : Int32 := if x < 0 then 0 else if n ≤ x then 0 else 1
theorem inr_bz (lo hi x : Int32) : bz (inr lo hi x) := by
  unfold inr
  split
  · exact Or.inl rfl
  · split
    · exact Or.inl rfl
    · exact Or.inr rfl
theorem inp_bz (n x : Int32) : bz (inp n x) := by
  unfold inp
  split
  · exact Or.inl rfl
  · split
    · exact Or.inl rfl
    · exact Or.inr rfl
theorem inr_yes {a b : Nat} {x : Int32} (hab : a < 2147483648) (hb : b < 2147483648) (h : ¬ inr (nI a) (nI b) x = 0) : ∃ v, a ≤ v ∧ v ≤ b ∧ x = nI v := by
  unfold inr at h
  split at h
  · exact absurd rfl h
  · rename_i h1
    split at h
    · exact absurd rfl h
    · rename_i h2
      rw [Int32.lt_iff_toInt_lt] at h1 h2
      have hb2 := nI_toInt (n := b) hb
      have ha : (nI a).toInt ≤ x.toInt := by omega
      have ha2 := nI_toInt (n := a) hab
      refine ⟨x.toInt.toNat, by omega, by omega, ?_⟩
      apply Int32.toInt_inj.mp
      rw [nI_toInt (by omega)]
      omega
theorem inp_yes {n : Nat} {x : Int32} (hn : n < 2147483648) (h : ¬ inp (nI n) x = 0) : ∃ v, v < n ∧ x = nI v := by
  unfold inp at h
  split at h
  · exact absurd rfl h
  · rename_i h1
    split at h
    · exact absurd rfl h
    · rename_i h2
      rcases pk_ix x hn with h3 | h3 | h3
      · exact absurd h3 h1
      · exact absurd h3 h2
      · exact h3
theorem inr_inp {n : Nat} (hn : n < 1000000) (x : Int32) : inr 0 (nI n - 1) x = inp (nI n) x := by
  unfold inr inp
  have h1 : (nI n - 1).toInt = (n : Int) - 1 := by
    exact pk_sub_toInt (a := n) (b := 1) (by omega) (by omega)
  have h2 := nI_toInt (n := n) (by omega)
  by_cases h : x < 0
  · simp [h]
  · simp only [h, if_false]
    by_cases h3 : nI n ≤ x
    · have h4 : nI n - 1 < x := by
        rw [Int32.lt_iff_toInt_lt, h1]
        rw [Int32.le_iff_toInt_le, h2] at h3
        omega
      simp [h3, h4]
    · have h4 : ¬ nI n - 1 < x := by
        rw [Int32.lt_iff_toInt_lt, h1]
        rw [Int32.le_iff_toInt_le, h2] at h3
        omega
      simp [h3, h4]
theorem inr_nI {a b v : Nat} (ha : a < 2147483648) (hb : b < 2147483648) (hv : v < 2147483648) : inr (nI a) (nI b) (nI v) = if a ≤ v ∧ v ≤ b then 1 else 0 := by
  unfold inr
  simp only [nI_ltI hv ha, nI_ltI hb hv]
  by_cases h1 : v < a
  · simp [h1] <;> omega
  · by_cases h2 : b < v
    · simp [h1, h2] <;> omega
    · simp [h1, h2] <;> omega
theorem inp_nI {n v : Nat} (hn : n < 2147483648) (hv : v < 2147483648) : inp (nI n) (nI v) = if v < n then 1 else 0 := by
  unfold inp
  rw [if_neg (nI_pos hv)]
  simp only [nI_leI hn hv]
  by_cases h1 : n ≤ v
  · simp [h1] <;> omega
  · simp [h1] <;> omega
def mb (what v : Int32) : Int32 := if what = 0 then inr 0 60 v else if what = 1 then inr 0 300 v else if what = 2 then inr 0 20 v else if what = 3 then inr 0 300 v else 0
theorem mb_bz (w v : Int32) : bz (mb w v) := by
  unfold mb
  split
  · exact inr_bz _ _ _
  split
  · exact inr_bz _ _ _
  split
  · exact inr_bz _ _ _
  split
  · exact inr_bz _ _ _
  · exact Or.inl rfl
theorem s_X6_isIn {σ : Sg} {x lo hi : Int32} {Q : Int32 → Sg → Prop} (h : Q (inr lo hi x) σ) : wp_X6_isIn σ x lo hi Q := by
  unfold wp_X6_isIn
  unfold inr at h
  refine ⟨fun h1 => ⟨Or.inl rfl, ?_⟩, fun h1 => ⟨fun h2 => ⟨Or.inl rfl, ?_⟩, fun h2 => ⟨Or.inr rfl, ?_⟩⟩⟩
  · rwa [if_pos h1] at h
  · rwa [if_neg h1, if_pos h2] at h
  · rwa [if_neg h1, if_neg h2] at h
theorem s_X3_hasPlace {σ : Sg} {x : Int32} {Q : Int32 → Sg → Prop} (h : Q (inp (σ 1 0) x) σ) : wp_X3_hasPlace σ x Q := by
  unfold wp_X3_hasPlace
  unfold inp at h
  refine ⟨fun h1 => ⟨Or.inl rfl, ?_⟩, fun h1 => ⟨fun h2 => ⟨Or.inl rfl, ?_⟩, fun h2 => ⟨Or.inr rfl, ?_⟩⟩⟩
  · rwa [if_pos h1] at h
  · rwa [if_neg h1, if_pos h2] at h
  · rwa [if_neg h1, if_neg h2] at h
theorem s_X3_hasRoad {σ : Sg} {x : Int32} {Q : Int32 → Sg → Prop} (h : Q (inp (σ 1 1) x) σ) : wp_X3_hasRoad σ x Q := by
  unfold wp_X3_hasRoad
  unfold inp at h
  refine ⟨fun h1 => ⟨Or.inl rfl, ?_⟩, fun h1 => ⟨fun h2 => ⟨Or.inl rfl, ?_⟩, fun h2 => ⟨Or.inr rfl, ?_⟩⟩⟩
  · rwa [if_pos h1] at h
  · rwa [if_neg h1, if_pos h2] at h
  · rwa [if_neg h1, if_neg h2] at h
theorem s_X6_places {σ : Sg} {Q : Int32 → Sg → Prop} (h : Q (σ 31 0) σ) : wp_X6_places σ Q := ⟨by unfold vp_in; decide, h⟩
theorem s_X6_roads {σ : Sg} {Q : Int32 → Sg → Prop} (h : Q (σ 31 1) σ) : wp_X6_roads σ Q := ⟨by unfold vp_in; decide, h⟩
theorem s_X6_moves {σ : Sg} {Q : Int32 → Sg → Prop} (h : Q (σ 31 2) σ) : wp_X6_moves σ Q := ⟨by unfold vp_in; decide, h⟩
theorem s_X6_isPlace {σ : Sg} {x : Int32} {Q : Int32 → Sg → Prop} {n : Nat} (hn : σ 31 0 = nI n) (h8 : n < 1000000) (h : Q (inp (nI n) x) σ) : wp_X6_isPlace σ x Q := by
  refine s_X6_places (s_X6_isIn ⟨inr_bz _ _ _, ?_⟩)
  rw [hn, inr_inp h8]
  exact h
theorem s_X6_isRoad {σ : Sg} {x : Int32} {Q : Int32 → Sg → Prop} {n : Nat} (hn : σ 31 1 = nI n) (h8 : n < 1000000) (h : Q (inp (nI n) x) σ) : wp_X6_isRoad σ x Q := by
  refine s_X6_roads (s_X6_isIn ⟨inr_bz _ _ _, ?_⟩)
  rw [hn, inr_inp h8]
  exact h
theorem s_X6_mayBe {σ : Sg} {w x : Int32} {Q : Int32 → Sg → Prop} (h : Q (mb w x) σ) : wp_X6_mayBe σ w x Q := by
  unfold wp_X6_mayBe
  unfold mb at h
  refine ⟨fun h1 => s_X6_isIn ⟨inr_bz _ _ _, ?_⟩, fun h1 => s_X6_isIn ⟨inr_bz _ _ _, ?_⟩, fun h1 => s_X6_isIn ⟨inr_bz _ _ _, ?_⟩, fun h1 h2 h3 => ⟨fun h4 => s_X6_isIn ⟨fun h5 => ⟨Or.inl rfl, ?_⟩, fun h5 => ⟨Or.inr rfl, ?_⟩⟩, fun h4 => ⟨Or.inl rfl, ?_⟩⟩⟩
  · rwa [if_pos h1] at h
  · subst h1; simpa using h
  · subst h1; simpa using h
  · rw [if_neg h1, if_neg h2, if_neg h3, if_pos h4, h5] at h; exact h
  · rw [if_neg h1, if_neg h2, if_neg h3, if_pos h4] at h
    rcases inr_bz 0 300 x with h6 | h6
    · exact absurd h6 h5
    · rwa [h6] at h
  · rwa [if_neg h1, if_neg h2, if_neg h3, if_neg h4] at h
theorem s_X3_factFits {σ : Sg} {w x : Int32} {Q : Int32 → Sg → Prop} (h : Q (mb w x) σ) : wp_X3_factFits σ w x Q := by
  unfold wp_X3_factFits
  have key : ∀ hi : Int32, Q (inr 0 hi x) σ → (x < 0 → (bz 0 ∧ Q 0 σ)) ∧ (¬ (x < 0) → ((hi < x → (bz 0 ∧ Q 0 σ)) ∧ (¬ (hi < x) → (bz 1 ∧ Q 1 σ)))) := by
    intro hi h
    unfold inr at h
    refine ⟨fun h1 => ⟨Or.inl rfl, ?_⟩, fun h1 => ⟨fun h2 => ⟨Or.inl rfl, ?_⟩, fun h2 => ⟨Or.inr rfl, ?_⟩⟩⟩
    · rwa [if_pos h1] at h
    · rwa [if_neg h1, if_pos h2] at h
    · rwa [if_neg h1, if_neg h2] at h
  unfold mb at h
  refine ⟨fun h1 => key 60 ?_, fun h1 => key 300 ?_, fun h1 => key 20 ?_, fun h1 => key 300 ?_, fun h1 h2 h3 h4 => ⟨Or.inl rfl, ?_⟩⟩
  · rwa [if_pos h1] at h
  · subst h1; simpa using h
  · subst h1; simpa using h
  · subst h1; simpa using h
  · rwa [if_neg h1, if_neg h2, if_neg h3, if_neg h4] at h
