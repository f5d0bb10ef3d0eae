/-! where it is narrow -/
theorem CRw_off (a : AT) (t : Nat) (X : Nat → Nat → Bool) (y : Nat) : CRw a t X y = sm (t + 1 - wM a y) (fun m => b2 (X (wS a y) m && !X (wE a y) (m + wM a y))) := by
  unfold CRw
  rw [← sm_off (wM a y) (fun m => b2 (X (wS a y) m && !X (wE a y) (m + wM a y))) (t + 1)]
  refine sm_congr (fun m hm => ?_)
  by_cases z : wM a y ≤ m
  · rw [if_pos z, if_pos z, show m - wM a y + wM a y = m by omega]
  · rw [if_neg z, if_neg z]
theorem smb_le (f : Nat → Bool) : ∀ n, 0 ≤ sm n (fun m => b2 (f m)) ∧ sm n (fun m => b2 (f m)) ≤ n := by
  intro n
  induction n with
  | zero => exact ⟨Int.le_refl _, Int.le_refl _⟩
  | succ n ih =>
    rw [sm]
    have h1 := b2_nn (f n)
    have h2 : b2 (f n) ≤ 1 := by unfold b2; split <;> omega
    omega
theorem CRw_le {a : AT} {t : Nat} (ht : t ≤ 40) (X : Nat → Nat → Bool) (y : Nat) : 0 ≤ CRw a t X y ∧ CRw a t X y ≤ 41 := by
  rw [CRw_off]
  have := smb_le (fun m => X (wS a y) m && !X (wE a y) (m + wM a y)) (t + 1 - wM a y)
  omega
theorem s_isOpenM {σ : Sg} {p m : Nat} {Q : Int32 → Sg → Prop} (hp : p < 8) (hm : m ≤ 40) (h1 : XS (mkS σ) p m = true → Q 0 σ) (h0 : XS (mkS σ) p m = false → Q 1 σ) : wp_X0_isOpen σ (nI p) (nI m) Q := by
  unfold wp_X0_isOpen
  rw [show nI m * (8 : Int32) = nI (m * 8) from pk_mul m 8, nI_add, Nat.mul_comm m 8, nI_clamp (n := 8 * m + p) (by omega)]
  refine ⟨vp_in_nI (by omega) (by decide), fun z => ⟨Or.inl rfl, h1 ?_⟩, fun z => ⟨Or.inr rfl, h0 ?_⟩⟩
  · unfold XS mkS; simp [z]
  · unfold XS mkS; simp [z]
theorem s_countCrossing {a : AT} {σ : Sg} {t y : Nat} {Q : Int32 → Sg → Prop} (hO : OKN a) (hC : RC σ a) (ht : t ≤ 40) (hy : y < 2 * aNR a) (h : Q (nI (CRw a t (XS (mkS σ)) y).toNat) σ) : wp_X0_countCrossing σ (nI y) (nI t) Q := by
  have h8 := hO.1
  have h12 := hO.2.1
  obtain ⟨w1, w2, w3, w4, w5⟩ := hO.way hy
  obtain ⟨c1, c2, c3, c4⟩ := hC.way hy
  have ed : nI y / (2 : Int32) = nI (y / 2) := pk_div (d := 2) (by omega) (by decide) (by decide)
  unfold wp_X0_countCrossing
  rw [ed, nI_clamp (n := y / 2) (by omega), c3]
  refine ⟨vp_in_nI (by omega) (by decide), fun x4 e4 => ?_⟩
  subst e4
  have hb := smb_le (fun m => XS (mkS σ) (wS a y) m && !XS (mkS σ) (wE a y) (m + wM a y))
  have key : ∀ d m, m + d = t + 1 - wM a y → ∀ n : Nat, (n : Int) = sm m (fun m => b2 (XS (mkS σ) (wS a y) m && !XS (mkS σ) (wE a y) (m + wM a y))) → wp_X0_countCrossing_18 Q (d + 1) (nI y) (nI t) (nI n) (nI (wM a y)) (nI m) σ := by
    intro d
    induction d with
    | zero =>
      intro m hm n hn
      rw [wp_X0_countCrossing_18, nI_add]
      refine ⟨fun _ => ?_, fun z => absurd (nI_lt (by omega) (by omega)) z⟩
      rw [CRw_off] at h
      have : m = t + 1 - wM a y := by omega
      subst this
      rw [← hn] at h
      simpa using h
    | succ d ih =>
      intro m hm n hn
      have hbm := hb m
      rw [wp_X0_countCrossing_18, nI_add]
      refine ⟨fun z => absurd z (nI_nlt (by omega) (by omega)), fun _ => ⟨vp_in_nI (by omega) (by decide), ?_⟩⟩
      rw [nI_clamp (n := y) (by omega), c1]
      have next : ∀ n' : Nat, (n' : Int) = sm (m + 1) (fun m => b2 (XS (mkS σ) (wS a y) m && !XS (mkS σ) (wE a y) (m + wM a y))) → wp_X0_countCrossing_71 Q (fun z1 z2 z3 z4 z5 σ => wp_X0_countCrossing_18 Q (d + 1) z1 z2 z3 z4 z5 σ) (nI y) (nI t) (nI n') (nI (wM a y)) (nI m) σ := by
        intro n' hn' x5 e5
        rw [nI_1] at e5
        subst e5
        exact ih (m + 1) (by omega) n' hn'
      refine s_isOpenM (by omega) (by omega) (fun h1 => ⟨fun _ => ⟨?_, ?_⟩, fun z => absurd rfl z⟩) (fun h0 => ⟨fun z => absurd z (by decide), fun _ => next n ?_⟩)
      · rw [e_xor (by omega)]; exact vp_in_nI (by unfold pr; split <;> omega) (by decide)
      · rw [e_xor (by omega), nI_clamp (n := pr y) (by unfold pr; split <;> omega), c2]
        refine s_isOpenM (by omega) (by omega) (fun h2 => ⟨fun _ => next n ?_, fun z => absurd rfl z⟩) (fun h2 => ⟨fun z => absurd z (by decide), fun _ x3 e3 => ?_⟩)
        · rw [sm, ← hn, h1, h2]; simp [b2]
        · rw [nI_1] at e3
          subst e3
          refine next (n + 1) ?_
          rw [sm, ← hn, h1, h2]; simp [b2]
      · rw [sm, ← hn, h0]; simp [b2]
  exact ⟨_, key (t + 1 - wM a y) 0 (by omega) 0 rfl⟩
theorem s_squeeze {a : AT} {σ : Sg} {t : Nat} {Q : Int32 → Sg → Prop} (hO : OKN a) (ht : t ≤ 40) (hC : RC σ a)
    (h : ∀ (τ : Sg) (V : Nat) (X : Nat → Nat → Bool), (∀ k, k ≠ 4 → (k < 19 ∨ 26 < k) → τ k = σ k) → MFV a t V → V ≤ TOTn a → (V < TOTn a → CAP a t X = V) → (∀ y, y < 2 * aNR a → τ 26 y = nI (CRw a t X y).toNat) → Q (nI (TOTn a - V)) τ) : wp_X0_squeeze σ (nI t) Q := by
  have h12 := hO.2.1
  unfold wp_X0_squeeze
  refine s_fillUpTo hO ht hC (fun τ E V f hS hM hX => ?_)
  have hV := hS.le hO ht
  have c0 := f.rc hC
  have key : ∀ d y, y + d = 2 * aNR a → ∀ υ, (∀ k, k ≠ 26 → υ k = τ k) → (∀ z, z < y → υ 26 z = nI (CRw a t (XS (mkS τ)) z).toNat) → wp_X0_squeeze_7 Q (d + 1) (nI t) (nI y) υ := by
    intro d
    induction d with
    | zero =>
      intro y hy υ g hz
      have : y = 2 * aNR a := by omega
      subst this
      rw [wp_X0_squeeze_7, g 1 (by decide), c0.2.1, e_2, g 4 (by decide), hS.2.2.2.1, hS.2.2.2.2, pk_sub hV]
      exact ⟨fun _ => h υ V _ (fun k k4 hk => by rw [g k (by omega)]; exact f k k4 (by omega)) hM hV hX hz, fun z => absurd (nI_le (Nat.le_refl _) (by omega)) z⟩
    | succ d ih =>
      intro y hy υ g hz
      have cυ : RC υ a := c0.keep (by rw [g 1 (by decide)]) (by rw [g 1 (by decide)]) (by rw [g 2 (by decide)]) (g 6 (by decide)) (g 7 (by decide)) (g 8 (by decide)) (g 9 (by decide)) (g 13 (by decide))
      have em : mkS υ = mkS τ := by funext u; unfold mkS; rw [g 23 (by decide)]
      rw [wp_X0_squeeze_7, g 1 (by decide), c0.2.1, e_2]
      refine ⟨fun z => absurd z (nI_ge (by omega) (by omega)), fun _ => s_countCrossing hO cυ ht (by omega) ⟨vp_in_nI (by omega) (by decide), fun σ6 e6 x2 e2 => ?_⟩⟩
      rw [nI_1] at e2
      subst e2
      rw [nI_clamp (n := y) (by omega), em] at e6
      refine ih (y + 1) (by omega) σ6 (fun k hk => by rw [e6, put_o hk, g k hk]) (fun z hz2 => ?_)
      rw [e6, put_at]
      by_cases q : z = y
      · subst q; rw [if_pos ⟨rfl, rfl⟩]
      · rw [if_neg (fun w => q w.2)]; exact hz z (by omega)
  exact ⟨_, key (2 * aNR a) 0 (by omega) τ (fun _ _ => rfl) (fun z hz => by omega)⟩
/-- what the narrow tells: q - 1 is not enough unless so many more can cross -/
def NRW (a : AT) (τ : Sg) (q : Nat) : Prop := ∀ q', q = q' + 1 → ∃ (X : Nat → Nat → Bool) (V : Nat), CAP a q' X = V ∧ V < TOTn a ∧ τ 5 6 = nI (TOTn a - V) ∧ (∀ y, y < 2 * aNR a → τ 26 y = nI (CRw a q' X y).toNat)
theorem NRW.wf {a : AT} {τ υ : Sg} {q : Nat} (h : NRW a τ q) (f : WF τ υ) : NRW a υ q := by
  intro q' e
  obtain ⟨X, V, h1, h2, h3, h4⟩ := h q' e
  exact ⟨X, V, h1, h2, by rw [f 5 (by decide) (by decide) (by decide) (by decide) (by decide)]; exact h3, fun y hy => by rw [f 26 (by decide) (by decide) (by decide) (by decide) (by decide)]; exact h4 y hy⟩
/-- what the search for turns leaves -/
def ZF (σ τ : Sg) : Prop := ∀ k, k ≠ 4 → k ≠ 5 → k ≠ 8 → k ≠ 9 → (k < 19 ∨ 26 < k) → k ≠ 27 → k ≠ 29 → τ k = σ k
theorem ZF.rf (σ : Sg) : ZF σ σ := fun _ _ _ _ _ _ _ _ => rfl
theorem ZF.tr {σ τ υ : Sg} (h : ZF σ τ) (g : ZF τ υ) : ZF σ υ := fun k a b c d e f i => (g k a b c d e f i).trans (h k a b c d e f i)
theorem WF.zf {σ τ : Sg} (f : WF σ τ) : ZF σ τ := fun k a _ c d e g _ => f k a c d (by omega) g
theorem ZF.fc {σ τ : Sg} (f : ZF σ τ) : FC σ τ := fun k hk => f k (by omega) (by omega) (by omega) (by omega) (by omega) (by omega) (by omega)
theorem ZF.tc {σ τ : Sg} (f : ZF σ τ) : TC σ τ := ⟨by rw [f 3 (by decide) (by decide) (by decide) (by decide) (by decide) (by decide) (by decide)], by rw [f 3 (by decide) (by decide) (by decide) (by decide) (by decide) (by decide) (by decide)], f 16 (by decide) (by decide) (by decide) (by decide) (by decide) (by decide) (by decide)⟩
theorem s_findNarrow {a : AT} {σ : Sg} {q : Nat} {Q : Sg → Prop} (hO : OKN a) (hC : RC σ a) (hq : σ 5 0 = nI q) (hqk : q ≤ qk a)
    (h : ∀ τ, ZF σ τ → (∀ j, j ≠ 6 → τ 5 j = σ 5 j) → RC τ a → NRW a τ q → Q τ) : wp_X4_findNarrow σ Q := by
  unfold wp_X4_findNarrow
  have h41 := qk_le a
  rw [hq]
  refine pk_le q 0 (fun hz => ?_) (fun hp => ?_) rfl rfl (by omega) (by omega)
  · intro σ2 e2
    have o : ∀ k, k ≠ 5 → σ2 k = σ k := fun k hk => by rw [e2, put_o hk]
    refine h σ2 (fun k _ b _ _ _ _ _ => o k b) (fun j hj => by rw [e2, put_n hj]) (hC.keep (by rw [o 1 (by decide)]) (by rw [o 1 (by decide)]) (by rw [o 2 (by decide)]) (o 6 (by decide)) (o 7 (by decide)) (o 8 (by decide)) (o 9 (by decide)) (o 13 (by decide))) (fun q' e => by omega)
  · obtain ⟨q', rfl⟩ : ∃ q', q = q' + 1 := ⟨q - 1, by omega⟩
    rw [nI_pred]
    refine s_squeeze hO (by omega) hC (fun τ V X f hM hV hX hcr => ?_)
    intro σ2 e2
    have o : ∀ k, k ≠ 4 → k ≠ 5 → (k < 19 ∨ 26 < k) → σ2 k = σ k := fun k a b c => by rw [e2, put_o b, f k a c]
    have hlt : V < TOTn a := by
      have c := CS.canI hM
      rcases Nat.lt_or_ge V (TOTn a) with z | z
      · exact z
      · exact absurd (c.mpr (by omega)) ((qk_is a).2.1 q' (by omega))
    refine h σ2 (fun k a b _ _ c _ _ => o k a b c) (fun j hj => by rw [e2, put_n hj, f 5 (by decide) (by decide)]) (hC.keep (by rw [o 1 (by decide) (by decide) (by decide)]) (by rw [o 1 (by decide) (by decide) (by decide)]) (by rw [o 2 (by decide) (by decide) (by decide)]) (o 6 (by decide) (by decide) (by decide)) (o 7 (by decide) (by decide) (by decide)) (o 8 (by decide) (by decide) (by decide)) (o 9 (by decide) (by decide) (by decide)) (o 13 (by decide) (by decide) (by decide))) (fun q'' e => ?_)
    have : q'' = q' := by omega
    subst this
    exact ⟨X, V, hX hlt, hlt, by rw [e2, put_s], fun y hy => by rw [e2, put_o (by decide)]; exact hcr y hy⟩
/-! a road's lanes turned: what that does to a cut -/
theorem aR_turn (a : AT) (r : Nat) (k : Int) (i j : Nat) : aR (turnRow a r k) i j = if i = r ∧ j = 4 then ((aR a r 4 : Int) - k).toNat else if i = r ∧ j = 3 then ((aR a r 3 : Int) + k).toNat else aR a i j := rfl
theorem CAP_turn {a : AT} {r t : Nat} {k : Int} (hr : r < aNR a) (h3 : 0 ≤ (aR a r 3 : Int) + k) (h4 : 0 ≤ (aR a r 4 : Int) - k) (X : Nat → Nat → Bool) : CAP (turnRow a r k) t X = CAP a t X + k * (CRw a t X (2 * r) - CRw a t X (2 * r + 1)) ∧ (∀ y, CRw (turnRow a r k) t X y = CRw a t X y) := by
  have eS : ∀ y, wS (turnRow a r k) y = wS a y := fun y => by unfold wS; rw [aR_turn, if_neg (by omega), if_neg (by omega)]
  have eE : ∀ y, wE (turnRow a r k) y = wE a y := fun y => by unfold wE; rw [aR_turn, if_neg (by omega), if_neg (by omega)]
  have eM : ∀ y, wM (turnRow a r k) y = wM a y := fun y => by unfold wM; rw [aR_turn, if_neg (by omega), if_neg (by omega)]
  have eC : ∀ y, CRw (turnRow a r k) t X y = CRw a t X y := fun y => by unfold CRw; rw [eS, eE, eM]
  refine ⟨?_, eC⟩
  have eL : ∀ y, (wL (turnRow a r k) y : Int) = (wL a y : Int) + (if y = 2 * r then k else 0) + (if y = 2 * r + 1 then -k else 0) := by
    intro y
    unfold wL
    rw [aR_turn]
    by_cases z1 : y = 2 * r
    · subst z1
      rw [if_neg (by omega), if_pos (by omega), if_pos rfl, if_neg (by omega), show 2 * r / 2 = r by omega, show 3 + 2 * r % 2 = 3 by omega]
      omega
    · by_cases z2 : y = 2 * r + 1
      · subst z2
        rw [if_pos (by omega), if_neg (by omega), if_pos rfl, show (2 * r + 1) / 2 = r by omega, show 3 + (2 * r + 1) % 2 = 4 by omega]
        omega
      · rw [if_neg (by omega), if_neg (by omega), if_neg z1, if_neg z2]
        omega
  unfold CAP
  show sm (aNP a) _ + sm (2 * aNR a) (fun y => (wL (turnRow a r k) y : Int) * CRw (turnRow a r k) t X y) = _
  have e1 : sm (2 * aNR a) (fun y => (wL (turnRow a r k) y : Int) * CRw (turnRow a r k) t X y) = sm (2 * aNR a) (fun y => ((wL a y : Int) * CRw a t X y + (if y = 2 * r then k * CRw a t X (2 * r) else 0)) + (if y = 2 * r + 1 then -(k * CRw a t X (2 * r + 1)) else 0)) := by
    refine sm_congr (fun y hy => ?_)
    rw [eC, eL, Int.add_mul, Int.add_mul]
    by_cases z1 : y = 2 * r
    · subst z1
      rw [if_pos rfl, if_pos rfl, if_neg (by omega), if_neg (by omega)]; simp
    · by_cases z2 : y = 2 * r + 1
      · subst z2
        rw [if_neg z1, if_neg z1, if_pos rfl, if_pos rfl, Int.neg_mul]; simp
      · rw [if_neg z1, if_neg z1, if_neg z2, if_neg z2]; simp
  have e2 : sm (2 * aNR a) (fun y => ((wL a y : Int) * CRw a t X y + (if y = 2 * r then k * CRw a t X (2 * r) else 0)) + (if y = 2 * r + 1 then -(k * CRw a t X (2 * r + 1)) else 0)) = sm (2 * aNR a) (fun y => (wL a y : Int) * CRw a t X y) + k * CRw a t X (2 * r) + -(k * CRw a t X (2 * r + 1)) := by
    rw [sm_add, sm_add, sm_one _ (by omega), sm_one _ (by omega)]
  rw [e1, e2, Int.mul_sub]
  show sm (aNP a) (fun p => (aP a p 0 : Int) * b2 (hX (aP a p 2) t (X p)) + (aP a p 1 : Int) * b2 (sX t (X p)) + (aP a p 3 : Int) * CRh t (X p)) + _ = _
  omega
theorem TOTn_turn (a : AT) (r : Nat) (k : Int) : TOTn (turnRow a r k) = TOTn a := rfl
theorem mulb {x y A B : Int} (hx : -A ≤ x ∧ x ≤ A) (hy : -B ≤ y ∧ y ≤ B) : -(A * B) ≤ x * y ∧ x * y ≤ A * B := by
  have h1 : (x * y).natAbs ≤ (A * B).natAbs := by
    rw [Int.natAbs_mul, Int.natAbs_mul]
    exact Nat.mul_le_mul (by omega) (by omega)
  have hAB : 0 ≤ A * B := Int.mul_nonneg (by omega) (by omega)
  omega
theorem i_mul {a b : Int32} (h1 : -2147483648 ≤ a.toInt * b.toInt) (h2 : a.toInt * b.toInt < 2147483648) : (a * b).toInt = a.toInt * b.toInt := by
  rw [Int32.toInt_mul]
  exact Int.bmod_eq_of_le (by omega) (by omega)
/-- how many more could cross, as an int -/
theorem s_crossingMore {a : AT} {σ : Sg} {r t : Nat} {k : Int32} {X : Nat → Nat → Bool} {Q : Int32 → Sg → Prop} (ht : t ≤ 40) (h12 : aNR a ≤ 12) (hr : r < aNR a) (hk : -100 ≤ k.toInt ∧ k.toInt ≤ 100) (hcr : ∀ y, y < 2 * aNR a → σ 26 y = nI (CRw a t X y).toNat)
    (h : ∀ x : Int32, x.toInt = k.toInt * (CRw a t X (2 * r) - CRw a t X (2 * r + 1)) → Q x σ) : wp_X0_crossingMore σ (nI r) k Q := by
  unfold wp_X0_crossingMore
  rw [e_2, e_21_of, nI_clamp (n := 2 * r) (by omega), nI_clamp (n := 2 * r + 1) (by omega), hcr _ (by omega), hcr _ (by omega)]
  refine ⟨vp_in_nI (by omega) (by decide), vp_in_nI (by omega) (by decide), h _ ?_⟩
  have b1 := CRw_le (a := a) ht X (2 * r)
  have b2 := CRw_le (a := a) ht X (2 * r + 1)
  have e : (nI (CRw a t X (2 * r)).toNat - nI (CRw a t X (2 * r + 1)).toNat).toInt = CRw a t X (2 * r) - CRw a t X (2 * r + 1) := by
    have t1 := nI_toInt (n := (CRw a t X (2 * r)).toNat) (by omega)
    have t2 := nI_toInt (n := (CRw a t X (2 * r + 1)).toNat) (by omega)
    rw [i_sub (by omega) (by omega), t1, t2]
    omega
  have mb := mulb (x := k.toInt) (y := CRw a t X (2 * r) - CRw a t X (2 * r + 1)) (A := 100) (B := 41) hk (by omega)
  rw [i_mul (by rw [e]; omega) (by rw [e]; omega), e]
/-- a turn that lets no more through than there are too many is no help -/
theorem no_turn {a a' : AT} {q' V : Nat} {X : Nat → Nat → Bool} (hX : CAP a' q' X < (TOTn a : Int)) (ht : TOTn a' = TOTn a) : q' + 1 ≤ qk a' ∨ 40 < q' := by
  rcases Nat.lt_or_ge 40 q' with z | z
  · exact Or.inr z
  · refine Or.inl ?_
    rcases Nat.lt_or_ge q' (qk a') with w | w
    · exact w
    · have c := ((qk_is a').can z).mpr w
      have := c X
      rw [TOT_n, ht] at this
      omega
