/-! the class's rows of turns -/
noncomputable def stR (a : AT) (s many row : Nat) (u : Nat × Nat) : Nat × Nat := if nz row 4 = many ∧ qk (lr s 12 row a) < u.1 then (qk (lr s 12 row a), row) else u
/-- before row n + 1 is tried -/
noncomputable def rin (a : AT) (s many : Nat) (u : Nat × Nat) : Nat → Nat × Nat
  | 0 => u
  | n + 1 => stR a s many (n + 1) (rin a s many u n)
noncomputable def rou (a : AT) (s rows : Nat) : Nat → Nat × Nat
  | 0 => (qk a, 0)
  | n + 1 => rin a s (n + 1) (rou a s rows n) (rows - 1)
theorem rin_le {a : AT} {s many : Nat} {u : Nat × Nat} : ∀ n, (rin a s many u n).1 ≤ u.1 := by
  intro n
  induction n with
  | zero => exact Nat.le_refl _
  | succ n ih =>
    rw [rin]
    unfold stR
    split
    · rename_i z; have := z.2; dsimp only; omega
    · exact ih
theorem rou_le {a : AT} {s rows : Nat} : ∀ n, (rou a s rows n).1 ≤ qk a := by
  intro n
  induction n with
  | zero => exact Nat.le_refl _
  | succ n ih => rw [rou]; exact Nat.le_trans (rin_le _) ih
theorem rin_zero {a : AT} {s many t : Nat} {u : Nat × Nat} (h : (rin a s many u t).1 = 0) : ∀ d, rin a s many u (t + d) = rin a s many u t := by
  intro d
  induction d with
  | zero => rfl
  | succ d ih =>
    rw [show t + (d + 1) = t + d + 1 by omega, rin, ih]
    unfold stR
    rw [if_neg (fun z => by have := z.2; omega)]
theorem rin_big {a : AT} {s many c : Nat} {u : Nat × Nat} (hc : c ≤ 4) (hm : c < many) : ∀ n, n < 3 ^ c → rin a s many u n = u := by
  intro n
  induction n with
  | zero => intro _; rfl
  | succ n ih =>
    intro hn
    rw [rin, ih (by omega)]
    unfold stR
    have h1 := nz_hi c (4 - c) (n + 1) hn
    rw [show c + (4 - c) = 4 by omega] at h1
    have h2 := nz_le c (n + 1)
    rw [if_neg (fun z => by have := z.1; omega)]
theorem rou_big {a : AT} {s c : Nat} (hc : c ≤ 4) : ∀ d, rou a s (3 ^ c) (c + d) = rou a s (3 ^ c) c := by
  intro d
  induction d with
  | zero => rfl
  | succ d ih =>
    rw [show c + (d + 1) = c + d + 1 by omega, rou, ih, rin_big hc (by omega)]
    have := Nat.pow_pos (n := c) (show 0 < 3 by decide)
    omega
theorem s_choose {a : AT} {σ : Sg} {s : Nat} {Q : Int32 → Sg → Prop} (h12 : aNR a ≤ 12) (hC : RC σ a) (hs : s < 2 ^ aNR a) (hc : cb s 12 ≤ 4)
    (h : ∀ τ, (∀ k, k ≠ 5 → k ≠ 28 → τ k = σ k) → τ 5 7 = nI (cb s 12) → (∀ r, r < aNR a → bt s r = 1 → τ 28 (cb s r) = nI r) → Q (nI (3 ^ cb s 12)) τ) : wp_X4_choose σ (nI s) Q := by
  have hs4 : s < 4096 := Nat.lt_of_lt_of_le hs (Nat.pow_le_pow_right (n := 2) (by decide) h12)
  have e12 : cb s 12 = cb s (aNR a) := by
    have := cb_hi hs (12 - aNR a)
    rwa [show aNR a + (12 - aNR a) = 12 by omega] at this
  have p3 : ∀ c, c ≤ 4 → 3 ^ c ≤ 81 := fun c h => Nat.pow_le_pow_right (n := 3) (by decide) h
  have key : ∀ d n, n + d = aNR a → ∀ τ, (∀ k, k ≠ 5 → k ≠ 28 → τ k = σ k) → τ 5 7 = nI (cb s n) → (∀ r, r < n → bt s r = 1 → τ 28 (cb s r) = nI r) → wp_X4_choose_9 Q (d + 1) (nI s) (nI (3 ^ cb s n)) (nI n) τ := by
    intro d
    induction d with
    | zero =>
      intro n hn τ f h7 h28
      have : n = aNR a := by omega
      subst this
      rw [wp_X4_choose_9, f 1 (by decide) (by decide), hC.2.1]
      refine ⟨fun _ => ?_, fun z => absurd (nI_le (Nat.le_refl _) (by omega)) z⟩
      rw [← e12]
      exact h τ f (by rw [e12]; exact h7) h28
    | succ d ih =>
      intro n hn τ f h7 h28
      have hle := cb_mono s n (12 - n)
      rw [show n + (12 - n) = 12 by omega] at hle
      have hb := bt_lt s n
      have h3 := p3 (cb s n) (by omega)
      rw [wp_X4_choose_9, f 1 (by decide) (by decide), hC.2.1, h7]
      refine ⟨fun z => absurd z (nI_ge (by omega) (by omega)), fun _ => ?_⟩
      refine pk_le 4 (cb s n) (fun h4 => ?_) (fun h4 => ?_) rfl rfl (by omega) (by omega)
      · have e : cb s 12 = cb s n := by omega
        rw [← e]
        refine h τ f (by rw [e]; exact h7) (fun r hr hbr => ?_)
        rcases Nat.lt_or_ge r n with z | z
        · exact h28 r z hbr
        · exfalso
          have h1 := cb_mono s n (r - n)
          rw [show n + (r - n) = r by omega] at h1
          have h2 := cb_mono s (r + 1) (12 - (r + 1))
          rw [show r + 1 + (12 - (r + 1)) = 12 by omega, cb] at h2
          omega
      · rw [bit_ok hs4 (by omega)]
        refine pk_eq (bt s n) 1 (fun hbn => ?_) (fun hbn => ?_) rfl rfl (by omega) (by omega)
        · refine ⟨vp_in_nI (by omega) (by decide), fun σ6 e6 σ7 e7 x2 e2 => ?_⟩
          rw [nI_clamp (n := cb s n) (by omega)] at e6
          have q6 : σ6 5 7 = nI (cb s n) := by rw [e6, put_o (by decide), h7]
          rw [q6, nI_1] at e7
          rw [show (3 : Int32) = nI 3 from rfl, pk_mul, ← Nat.pow_succ] at e2
          subst e2
          intro x3 e3
          rw [nI_1] at e3
          subst e3
          have ec : cb s (n + 1) = cb s n + 1 := by rw [cb, hbn]
          have nx := ih (n + 1) (by omega) σ7 (fun k a b => by rw [e7, put_o a, e6, put_o b, f k a b]) (by rw [e7, put_s, ec]) (fun r hr hbr => ?_)
          · rwa [ec] at nx
          · rw [e7, put_o (by decide), e6, put_at]
            by_cases z : r = n
            · subst z; rw [if_pos ⟨rfl, rfl⟩]
            · have h1 := cb_mono s (r + 1) (n - (r + 1))
              rw [show r + 1 + (n - (r + 1)) = n by omega, cb, hbr] at h1
              rw [if_neg (fun w => by have := w.2; omega)]
              exact h28 r (by omega) hbr
        · intro x3 e3
          rw [nI_1] at e3
          subst e3
          have ec : cb s (n + 1) = cb s n := by rw [cb]; omega
          have nx := ih (n + 1) (by omega) τ f (by rw [ec]; exact h7) (fun r hr hbr => ?_)
          · rwa [ec] at nx
          · by_cases z : r = n
            · subst z; exact absurd hbr hbn
            · exact h28 r (by omega) hbr
  unfold wp_X4_choose
  intro σ1 e1
  have := key (aNR a) 0 (by omega) σ1 (fun k a _ => by rw [e1, put_o a]) (by rw [e1, put_s]; rfl) (fun r hr => by omega)
  exact ⟨_, this⟩
theorem s_turnAll {a b : AT} {σ : Sg} {r d t : Nat} {X : Nat → Nat → Bool} {Q : Int32 → Sg → Prop} (hO : OKT b) (hq : LQ a b) (hC : RC σ b) (hr : r < aNR b) (hd : d < 3) (ht : t ≤ 40) (hX : ∀ y, CRw b t X y = CRw a t X y) (hcr : ∀ y, y < 2 * aNR a → σ 26 y = nI (CRw a t X y).toNat)
    (h : ∀ (x : Int32) (τ : Sg), WF σ τ → RC τ (tD b r d) → x.toInt = tk b r d * (CRw b t X (2 * r) - CRw b t X (2 * r + 1)) → Q x τ) : wp_X4_turnAll σ (nI r) (nI d) Q := by
  have h12 := hO.2.1
  have l3 := hO.lane hr (c := 0) (by decide)
  have l4 := hO.lane hr (c := 1) (by decide)
  rw [show (3 + 0 : Nat) = 3 from rfl] at l3
  rw [show (3 + 1 : Nat) = 4 from rfl] at l4
  obtain ⟨c1, c2, c3, c4, c5⟩ := hC.2.2.2.2.1 r hr
  unfold wp_X4_turnAll
  have go : ∀ k : Int32, d ≠ 0 → k.toInt = tk b r d → wp_X4_turnAll_39 Q (nI r) k σ := by
    intro k hd0 hk
    obtain ⟨t1, t2⟩ := tk_ok b r d
    have hb : -100 ≤ k.toInt ∧ k.toInt ≤ 100 := by omega
    unfold wp_X4_turnAll_39
    refine s_X3_shiftLanes hC h12 hr (hO.l100 r hr) (by rw [hk]; exact t1) (by rw [hk]; exact t2) (fun τ f rc => ?_)
    rw [hk] at rc
    have e : tD b r d = turnRow b r (tk b r d) := by unfold tD; rw [if_neg hd0]
    rw [← e] at rc
    refine s_crossingMore (a := a) (t := t) (X := X) ht (by rw [← hq.nr]; exact h12) (by rw [← hq.nr]; exact hr) hb (fun y hy => by rw [f 26 (by decide)]; exact hcr y hy) (fun x hx => ?_)
    refine h x τ (WF_8 f) rc ?_
    rw [hx, hk, hX, hX]
  rw [e_2, e_21_of, nI_clamp (n := 2 * r) (by omega), nI_clamp (n := 2 * r + 1) (by omega), c4, c5]
  refine pk_eq d 0 (fun z => ?_) (fun z => ?_) rfl rfl (by omega) (by omega)
  · refine h 0 σ (WF.rf σ) ?_ ?_
    · unfold tD; rw [if_pos z]; exact hC
    · unfold tk; rw [if_pos z]; simp
  · refine pk_eq d 1 (fun z1 => ⟨vp_in_nI (by omega) (by decide), go _ z ?_⟩) (fun z1 => ⟨vp_in_nI (by omega) (by decide), go _ z ?_⟩) rfl rfl (by omega) (by omega)
    · unfold tk; rw [if_neg z, if_pos z1, nI_toInt (by omega)]
    · unfold tk; rw [if_neg z, if_neg z1]; exact sb_negT (by omega)
def YF (σ τ : Sg) : Prop := ∀ k, k ≠ 4 → k ≠ 8 → k ≠ 9 → (k < 19 ∨ 25 < k) → k ≠ 27 → k ≠ 29 → τ k = σ k
theorem YF.zf {σ τ : Sg} (f : YF σ τ) : ZF σ τ := fun k a _ c d e g i => f k a c d (by omega) g i
theorem NRW.yf {a : AT} {τ υ : Sg} {q : Nat} (h : NRW a τ q) (f : YF τ υ) : NRW a υ q := by
  intro q' e
  obtain ⟨X, V, h1, h2, h3, h4⟩ := h q' e
  exact ⟨X, V, h1, h2, by rw [f 5 (by decide) (by decide) (by decide) (by decide) (by decide) (by decide)]; exact h3, fun y hy => by rw [f 26 (by decide) (by decide) (by decide) (by decide) (by decide) (by decide)]; exact h4 y hy⟩
theorem RC_lanes {υ τ : Sg} {a T : AT} (h : RC υ T) (hq : LQ a T) (f : ∀ k, k ≠ 8 → τ k = υ k) (hl : ∀ r, r < aNR a → τ 8 (2 * r) = nI (aR a r 3) ∧ τ 8 (2 * r + 1) = nI (aR a r 4)) : RC τ a := by
  obtain ⟨c1, c2, c3, c4, c5, c6⟩ := h
  rw [hq.np] at c1 c4
  rw [hq.nr] at c2 c5
  rw [hq.nm] at c3 c6
  rw [hq.2.1] at c4
  rw [hq.2.2.1] at c6
  refine ⟨by rw [f 1 (by decide)]; exact c1, by rw [f 1 (by decide)]; exact c2, by rw [f 2 (by decide)]; exact c3, fun p hp w hw => by rw [f 9 (by decide)]; exact c4 p hp w hw, fun r hr => ?_, fun k hk w hw => by rw [f 13 (by decide)]; exact c6 k hk w hw⟩
  obtain ⟨d1, d2, d3, d4, d5⟩ := c5 r hr
  rw [hq.2.2.2 r 0 (by decide)] at d1
  rw [hq.2.2.2 r 1 (by decide)] at d2
  rw [hq.2.2.2 r 2 (by decide)] at d3
  rw [f 7 (by decide), f 6 (by decide)]
  exact ⟨d1, d2, d3, (hl r hr).1, (hl r hr).2⟩
theorem s_tryRow {a : AT} {σ : Sg} {s row q : Nat} {Q : Int32 → Sg → Prop} (hO : OKT a) (hC : RC σ a) (hs : s < 2 ^ aNR a) (hc : cb s 12 ≤ 4) (hrow : row < 100) (h7 : σ 5 7 = nI (cb s 12)) (h28 : ∀ r, r < aNR a → bt s r = 1 → σ 28 (cb s r) = nI r) (hq : σ 5 0 = nI q) (hpos : 0 < q) (hle : q ≤ qk a) (hN : NRW a σ q)
    (h0 : ¬ qk (lr s 12 row a) < q → ∀ τ, YF σ τ → RC τ a → Q 0 τ)
    (h1 : qk (lr s 12 row a) < q → ∀ τ, ZF σ τ → RC τ a → τ 5 0 = nI (qk (lr s 12 row a)) → τ 5 3 = nI row → (∀ j, j ≠ 0 → j ≠ 3 → τ 5 j = σ 5 j) → Q 1 τ) : wp_X4_tryRow σ (nI row) Q := by
  have h12 := hO.2.1
  have h41 := qk_le a
  have h480 := TOTn_le hO.n
  obtain ⟨q', rfl⟩ : ∃ q', q = q' + 1 := ⟨q - 1, by omega⟩
  obtain ⟨X, V, n1, n2, n3, n4⟩ := hN q' rfl
  have cpz : ((0 : Int32)).toNatClampNeg = 0 := by decide
  have cp24 : ((24 : Int32)).toNatClampNeg = 24 := by decide
  unfold wp_X4_tryRow
  refine ⟨by unfold k_cpyok; decide, fun σ1 e1 => ?_⟩
  rw [cpz, cp24] at e1
  have o1 : ∀ k, k ≠ 29 → σ1 k = σ k := fun k hk => by rw [e1, setA_o hk]
  have a29 : ∀ j, j < 24 → σ1 29 j = σ 8 j := by
    intro j hj
    rw [e1, setA_k, pk_cpy_in (sp := 0) (dp := 0) (n := 24) (by omega) (by omega)]
    simp
  have c1 : RC σ1 a := hC.keep (by rw [o1 1 (by decide)]) (by rw [o1 1 (by decide)]) (by rw [o1 2 (by decide)]) (o1 6 (by decide)) (o1 7 (by decide)) (o1 8 (by decide)) (o1 9 (by decide)) (o1 13 (by decide))
  have wfx : ∀ {τ : Sg}, WF σ1 τ → τ 5 = σ 5 ∧ τ 26 = σ 26 ∧ τ 28 = σ 28 ∧ τ 29 = σ1 29 := by
    intro τ f
    exact ⟨by rw [f 5 (by decide) (by decide) (by decide) (by decide) (by decide), o1 5 (by decide)], by rw [f 26 (by decide) (by decide) (by decide) (by decide) (by decide), o1 26 (by decide)], by rw [f 28 (by decide) (by decide) (by decide) (by decide) (by decide), o1 28 (by decide)], f 29 (by decide) (by decide) (by decide) (by decide) (by decide)⟩
  -- the end: the lanes come back
  have fin : ∀ (τ : Sg) (y : Nat), WF σ1 τ → RC τ (lr s 12 row a) → y = (if qk (lr s 12 row a) < q' + 1 then qk (lr s 12 row a) else q' + 1) → wp_X4_tryRow_106 Q (nI row) (nI y) τ := by
    intro τ y f rc hy
    obtain ⟨f5, f26, f28, f29⟩ := wfx f
    unfold wp_X4_tryRow_106
    refine ⟨by unfold k_cpyok; decide, fun σ6 e6 => ?_⟩
    rw [cpz, cp24] at e6
    have o6 : ∀ k, k ≠ 8 → σ6 k = τ k := fun k hk => by rw [e6, setA_o hk]
    have a8 : ∀ j, j < 24 → σ6 8 j = σ 8 j := by
      intro j hj
      rw [e6, setA_k, pk_cpy_in (sp := 0) (dp := 0) (n := 24) (by omega) (by omega), f29]
      have := a29 j hj
      simpa using this
    have c6 : RC σ6 a := by
      refine RC_lanes rc (lr_lq s 12 row a (LQ.rf a)) o6 (fun r hr => ?_)
      obtain ⟨d1, d2, d3, d4, d5⟩ := hC.2.2.2.2.1 r hr
      rw [a8 _ (by omega), a8 _ (by omega)]
      exact ⟨d4, d5⟩
    have yf : YF σ σ6 := fun k b c d e g i => by rw [o6 k c, f k b c d e g, o1 k i]
    rw [o6 5 (by decide), f5, hq]
    refine pk_eq y (q' + 1) (fun e => ⟨Or.inl rfl, ?_⟩) (fun e => ?_) rfl rfl (by split at hy <;> omega) (by omega)
    · refine h0 ?_ σ6 yf c6
      intro w
      rw [if_pos w] at hy
      omega
    · have w : qk (lr s 12 row a) < q' + 1 := by
        by_cases w : qk (lr s 12 row a) < q' + 1
        · exact w
        · rw [if_neg w] at hy; exact absurd hy e
      rw [if_pos w] at hy
      intro σ8 e8 σ9 e9
      have o9 : ∀ k, k ≠ 5 → σ9 k = σ6 k := fun k hk => by rw [e9, put_o hk, e8, put_o hk]
      refine ⟨Or.inr rfl, h1 w σ9 (yf.zf.tr (fun k _ b _ _ _ _ _ => o9 k b)) (c6.keep (by rw [o9 1 (by decide)]) (by rw [o9 1 (by decide)]) (by rw [o9 2 (by decide)]) (o9 6 (by decide)) (o9 7 (by decide)) (o9 8 (by decide)) (o9 9 (by decide)) (o9 13 (by decide))) ?_ ?_ (fun j j0 j3 => ?_)⟩
      · rw [e9, put_n (by decide), e8, put_s, hy]
      · rw [e9, put_s]
      · rw [e9, put_n j3, e8, put_n j0, o6 5 (by decide), f5]
  have key : ∀ i n, n ≤ 12 → cb s n = i → ∀ (rest : Nat) (b : AT) (x2 : Int32) (τ : Sg), rest < 100 → WF σ1 τ → RC τ b → OKT b → LQ a b → lr s n rest b = lr s 12 row a → (∀ y, CRw b q' X y = CRw a q' X y) → CAP b q' X = CAP a q' X + x2.toInt → -(1000 * (4 - (i : Int))) ≤ x2.toInt → x2.toInt ≤ 1000 * (4 - (i : Int)) →
      wp_X4_tryRow_30 Q (i + 1) (nI row) x2 (nI rest) (nI i + (-1)) τ := by
    intro i
    induction i with
    | zero =>
      intro n hn hcb rest b x2 τ hrest f rc ok lq hlr hX hcap hx1 hx2
      rw [lr_none n rest b hcb] at hlr
      subst hlr
      obtain ⟨f5, f26, f28, f29⟩ := wfx f
      rw [wp_X4_tryRow_30]
      refine ⟨fun _ x4 e4 => ?_, fun z => absurd (by decide) z⟩
      rw [f5, hq] at e4
      subst e4
      rw [f5, n3, hq, nI_pred]
      have hT := nI_toInt (n := TOTn a - V) (by omega)
      refine ⟨fun zc => ?_, fun zc => ?_⟩
      · rw [Int32.lt_iff_toInt_lt, hT] at zc
        have nt := no_turn (a := a) (a' := lr s 12 row a) (q' := q') (V := V) (X := X) (by rw [hcap, n1]; omega) lq.tot
        refine fin τ (q' + 1) f rc ?_
        rw [if_neg (by omega)]
      · refine s_allSafeBy ok.n (by omega) rc (qk_is _) (fun σ10 f10 => ?_)
        have f10' := f.tr f10.wf
        by_cases w : qk (lr s 12 row a) ≤ q'
        · rw [if_pos w]
          refine ⟨fun z => absurd z (by decide), fun _ => ?_⟩
          rw [(wfx f10').1, hq]
          refine s_soonestWithin (lo := 0) ok.n (f10.rc rc) (by omega) (by omega) (qk_is _) (fun σ13 f13 => ?_)
          refine fin σ13 _ (f10'.tr f13.wf) ((f10.tr f13).rc rc) ?_
          rw [if_pos (by omega)]
          unfold qres
          split <;> omega
        · rw [if_neg w]
          refine ⟨fun _ => fin σ10 (q' + 1) f10' (f10.rc rc) ?_, fun z => absurd rfl z⟩
          rw [if_neg (by omega)]
    | succ i ih =>
      intro n hn hcb rest b x2 τ hrest f rc ok lq hlr hX hcap hx1 hx2
      obtain ⟨r, r1, r2, r3, r4⟩ := lr_top n hcb
      have hcm := cb_mono s n (12 - n)
      rw [show n + (12 - n) = 12 by omega] at hcm
      have hrn : r < aNR a := by
        rcases Nat.lt_or_ge r (aNR a) with z | z
        · exact z
        · rw [bt_hi hs z] at r2; cases r2
      obtain ⟨f5, f26, f28, f29⟩ := wfx f
      rw [pk_m1, wp_X4_tryRow_30]
      refine ⟨fun z => absurd z (nI_pos (by omega)), fun _ => ⟨vp_in_nI (by omega) (by decide), ?_⟩⟩
      have e28 : σ 28 i = nI r := by have := h28 r hrn r2; rwa [r3] at this
      rw [nI_clamp (n := i) (by omega), f28, e28, show (3 : Int32) = nI 3 from rfl, pk_rem (by omega) (by decide) (by decide), pk_div (by omega) (by decide) (by decide)]
      refine s_turnAll (a := a) (t := q') (X := X) ok lq rc (by rw [lq.nr]; exact hrn) (Nat.mod_lt _ (by decide)) (by omega) hX (fun y hy => by rw [f26]; exact n4 y hy) (fun x υ fυ rυ hx => ?_)
      intro x2' e2 x3 e3 x4 e4
      subst e3
      subst e4
      obtain ⟨cp1, cp2⟩ := CAP_tD (t := q') (d := rest % 3) (show r < aNR b by rw [lq.nr]; exact hrn) X
      have b1 := CRw_le (a := b) (t := q') (by omega) X (2 * r)
      have b2 := CRw_le (a := b) (t := q') (by omega) X (2 * r + 1)
      have hrb : r < aNR b := by rw [lq.nr]; exact hrn
      have l3 := ok.lane hrb (c := 0) (by decide)
      have l4 := ok.lane hrb (c := 1) (by decide)
      rw [show (3 + 0 : Nat) = 3 from rfl] at l3
      rw [show (3 + 1 : Nat) = 4 from rfl] at l4
      have tb : -18 ≤ tk b r (rest % 3) ∧ tk b r (rest % 3) ≤ 18 := by
        unfold tk
        split
        · omega
        · split <;> omega
      have mb := mulb (x := tk b r (rest % 3)) (y := CRw b q' X (2 * r) - CRw b q' X (2 * r + 1)) (A := 18) (B := 41) tb (by omega)
      rw [← hx] at mb cp1
      have hsum : x2'.toInt = x2.toInt + x.toInt := by rw [e2, i_add (by omega) (by omega)]
      refine ih r (by omega) r3 (rest / 3) (tD b r (rest % 3)) x2' υ (by omega) (f.tr fυ) rυ (tD_ok ok _ _) (lq.td _ _) (by rw [← hlr, r4]) (fun y => by rw [cp2, hX]) (by rw [cp1, hcap, hsum]; omega) (by omega) (by omega)
  intro x4 e4
  have e5 : x4 = nI (cb s 12) + (-1) := by
    rw [e4, o1 5 (by decide), h7]
    rcases Nat.eq_zero_or_pos (cb s 12) with z | z
    · rw [z]; decide
    · obtain ⟨c', hc'⟩ : ∃ c', cb s 12 = c' + 1 := ⟨cb s 12 - 1, by omega⟩
      rw [hc', pk_m1, nI_pred]
  rw [e5]
  exact ⟨_, key (cb s 12) 12 (Nat.le_refl _) rfl row a 0 σ1 hrow (WF.rf σ1) c1 hO (LQ.rf a) rfl (fun _ => rfl) (by simp) (by simp; omega) (by simp; omega)⟩
/-- the class's rows, some way on -/
def BR (a : AT) (s : Nat) (σ τ : Sg) (u : Nat × Nat) : Prop := ZF σ τ ∧ RC τ a ∧ τ 5 0 = nI u.1 ∧ τ 5 3 = nI u.2 ∧ NRW a τ u.1 ∧ u.1 ≤ qk a ∧ τ 5 7 = nI (cb s 12) ∧ (∀ r, r < aNR a → bt s r = 1 → τ 28 (cb s r) = nI r)
theorem s_findRow_39 {a : AT} {σ : Sg} {s many : Nat} {u0 : Nat × Nat} {Q : Sg → Prop} {K : Int32 → Int32 → Sg → Prop} (hO : OKT a) (hs : s < 2 ^ aNR a) (hc : cb s 12 ≤ 4) (hm : many ≤ 4)
    (hK : ∀ τ, BR a s σ τ (rin a s many u0 (3 ^ cb s 12 - 1)) → K (nI (3 ^ cb s 12)) (nI (many + 1)) τ) : ∀ d t, t + 1 + d = 3 ^ cb s 12 → ∀ τ, BR a s σ τ (rin a s many u0 t) → wp_X4_findRow_39 Q K (d + 1) (nI (3 ^ cb s 12)) (nI many) (nI (t + 1)) τ := by
  have h41 := qk_le a
  have h81 : 3 ^ cb s 12 ≤ 81 := Nat.pow_le_pow_right (n := 3) (by decide) hc
  intro d
  induction d with
  | zero =>
    intro t ht τ hB
    rw [wp_X4_findRow_39]
    refine ⟨fun _ x3 e3 => ?_, fun z => absurd (nI_le (by omega) (by omega)) z⟩
    rw [nI_1] at e3
    subst e3
    rw [show t = 3 ^ cb s 12 - 1 by omega] at hB
    exact hK τ hB
  | succ d ih =>
    intro t ht τ hB
    have hle := hB.2.2.2.2.2.1
    rw [wp_X4_findRow_39, hB.2.2.1]
    refine ⟨fun z => absurd z (nI_ge (by omega) (by omega)), fun _ => ?_⟩
    refine pk_le (rin a s many u0 t).1 0 (fun hz => ?_) (fun hpos => ?_) rfl rfl (by omega) (by omega)
    · intro x3 e3
      rw [nI_1] at e3
      subst e3
      have := rin_zero (a := a) (s := s) (many := many) (u := u0) (t := t) (by omega) (d + 1)
      rw [show t + (d + 1) = 3 ^ cb s 12 - 1 by omega] at this
      rw [← this] at hB
      exact hK τ hB
    · have nx := ih (t + 1) (by omega)
      rw [rin] at nx
      have n4 := nz_le 4 (t + 1)
      refine s_digits (by omega) ?_
      have skip : ∀ υ, stR a s many (t + 1) (rin a s many u0 t) = rin a s many u0 t → BR a s σ υ (rin a s many u0 t) → wp_X4_findRow_74 Q K (fun z2 z3 z4 σ => wp_X4_findRow_39 Q K (d + 1) z2 z3 z4 σ) (nI (3 ^ cb s 12)) (nI many) (nI (t + 1)) υ := by
        intro υ e hB' x4 e4
        rw [nI_1] at e4
        subst e4
        rw [e] at nx
        exact nx υ hB'
      refine pk_eq (nz (t + 1) 4) many (fun hnz => ?_) (fun hnz => skip τ ?_ hB) rfl rfl (by omega) (by omega)
      · obtain ⟨b1, b2, b3, b4, b5, b6, b7, b8⟩ := hB
        refine s_tryRow hO b2 hs hc (by omega) b7 b8 b3 hpos hle b5 (fun hno υ f rc => ⟨fun _ => ?_, fun z => absurd rfl z⟩) (fun hlt υ f rc a1 a2 a3 => ⟨fun z => absurd z (by decide), fun _ => ?_⟩)
        · have f5 : υ 5 = τ 5 := f 5 (by decide) (by decide) (by decide) (by decide) (by decide) (by decide)
          have f28 : υ 28 = τ 28 := f 28 (by decide) (by decide) (by decide) (by decide) (by decide) (by decide)
          refine skip υ ?_ ⟨b1.tr f.zf, rc, by rw [f5]; exact b3, by rw [f5]; exact b4, b5.yf f, b6, by rw [f5]; exact b7, fun r hr hb => by rw [f28]; exact b8 r hr hb⟩
          unfold stR
          rw [if_neg (fun z => hno z.2)]
        · refine s_findNarrow hO.n rc a1 (by omega) (fun ω f2 f5 r2 hN => ?_)
          intro x4 e4
          rw [nI_1] at e4
          subst e4
          have e : stR a s many (t + 1) (rin a s many u0 t) = (qk (lr s 12 (t + 1) a), t + 1) := by unfold stR; rw [if_pos ⟨hnz, hlt⟩]
          rw [e] at nx
          have f28 : ω 28 = τ 28 := by rw [f2 28 (by decide) (by decide) (by decide) (by decide) (by decide) (by decide) (by decide), f 28 (by decide) (by decide) (by decide) (by decide) (by decide) (by decide) (by decide)]
          exact nx ω ⟨b1.tr (f.tr f2), r2, by rw [f5 0 (by decide)]; exact a1, by rw [f5 3 (by decide)]; exact a2, hN, by dsimp only; omega, by rw [f5 7 (by decide), a3 7 (by decide) (by decide)]; exact b7, fun r hr hb => by rw [f28]; exact b8 r hr hb⟩
      · unfold stR
        rw [if_neg (fun z => hnz z.1)]
theorem s_findRow {a : AT} {σ : Sg} {s : Nat} {Q : Sg → Prop} (hO : OKT a) (hC : RC σ a) (hs : s < 2 ^ aNR a) (hc : cb s 12 ≤ 4)
    (h : ∀ τ, FC σ τ → TC σ τ → RC τ a → τ 5 0 = nI (rou a s (3 ^ cb s 12) (cb s 12)).1 → τ 5 3 = nI (rou a s (3 ^ cb s 12) (cb s 12)).2 → Q τ) : wp_X4_findRow σ (nI s) Q := by
  have h12 := hO.2.1
  unfold wp_X4_findRow
  refine s_choose h12 hC hs hc (fun σ1 f1 h7 h28 => ?_)
  have c1 : RC σ1 a := hC.keep (by rw [f1 1 (by decide) (by decide)]) (by rw [f1 1 (by decide) (by decide)]) (by rw [f1 2 (by decide) (by decide)]) (f1 6 (by decide) (by decide)) (f1 7 (by decide) (by decide)) (f1 8 (by decide) (by decide)) (f1 9 (by decide) (by decide)) (f1 13 (by decide) (by decide))
  intro σ3 e3
  have o3 : ∀ k, k ≠ 5 → σ3 k = σ1 k := fun k hk => by rw [e3, put_o hk]
  have c3 : RC σ3 a := c1.keep (by rw [o3 1 (by decide)]) (by rw [o3 1 (by decide)]) (by rw [o3 2 (by decide)]) (o3 6 (by decide)) (o3 7 (by decide)) (o3 8 (by decide)) (o3 9 (by decide)) (o3 13 (by decide))
  refine s_soonest hO.n c3 (qk_is a) (fun σ4 f4 => ?_)
  intro σ6 e6
  have c4 := f4.rc c3
  have o6 : ∀ k, k ≠ 5 → σ6 k = σ4 k := fun k hk => by rw [e6, put_o hk]
  have c6 : RC σ6 a := c4.keep (by rw [o6 1 (by decide)]) (by rw [o6 1 (by decide)]) (by rw [o6 2 (by decide)]) (o6 6 (by decide)) (o6 7 (by decide)) (o6 8 (by decide)) (o6 9 (by decide)) (o6 13 (by decide))
  have q6 : σ6 5 0 = nI (qk a) := by rw [e6, put_s]
  have f45 : σ4 5 = σ3 5 := f4 5 (by decide) (by decide) (by decide)
  refine s_findNarrow hO.n c6 q6 (Nat.le_refl _) (fun σ7 f7 f5 c7 hN => ⟨cb s 12 + 1, ?_⟩)
  have z7 : ZF σ1 σ7 := (show ZF σ1 σ3 from fun k _ b _ _ _ _ _ => o3 k b).tr ((f4.wf.zf.tr (fun k _ b _ _ _ _ _ => o6 k b)).tr f7)
  have zc : ∀ {τ : Sg}, ZF σ1 τ → FC σ τ ∧ TC σ τ := by
    intro τ z
    refine ⟨fun k hk => by rw [z.fc k hk, f1 k (by omega) (by omega)], ?_, ?_, ?_⟩
    · rw [z.tc.1, f1 3 (by decide) (by decide)]
    · rw [z.tc.2.1, f1 3 (by decide) (by decide)]
    · rw [z.tc.2.2, f1 16 (by decide) (by decide)]
  have hB0 : BR a s σ1 σ7 (rou a s (3 ^ cb s 12) 0) := by
    refine ⟨z7, c7, by rw [f5 0 (by decide)]; exact q6, ?_, hN, Nat.le_refl _, ?_, fun r hr hb => ?_⟩
    · rw [f5 3 (by decide), e6, put_n (by decide), f45, e3, put_s]; rfl
    · rw [f5 7 (by decide), e6, put_n (by decide), f45, e3, put_n (by decide), h7]
    · rw [z7 28 (by decide) (by decide) (by decide) (by decide) (by decide) (by decide) (by decide)]; exact h28 r hr hb
  have h81 : 3 ^ cb s 12 ≤ 81 := Nat.pow_le_pow_right (n := 3) (by decide) hc
  have hp : 0 < 3 ^ cb s 12 := Nat.pow_pos (by decide)
  have key : ∀ d n, n + d = cb s 12 → ∀ τ, BR a s σ1 τ (rou a s (3 ^ cb s 12) n) → wp_X4_findRow_28 Q (d + 1) (nI (3 ^ cb s 12)) (nI (n + 1)) τ := by
    intro d
    induction d with
    | zero =>
      intro n hn τ hB
      have : n = cb s 12 := by omega
      subst this
      rw [wp_X4_findRow_28, hB.2.2.2.2.2.2.1]
      obtain ⟨g1, g2⟩ := zc hB.1
      exact ⟨fun _ => h τ g1 g2 hB.2.1 hB.2.2.1 hB.2.2.2.1, fun z => absurd (nI_lt (by omega) (by omega)) z⟩
    | succ d ih =>
      intro n hn τ hB
      rw [wp_X4_findRow_28, hB.2.2.2.2.2.2.1]
      refine ⟨fun z => absurd z (nI_nlt (by omega) (by omega)), fun _ => ⟨3 ^ cb s 12 - 1 + 1, ?_⟩⟩
      exact s_findRow_39 (σ := σ1) (u0 := rou a s (3 ^ cb s 12) n) hO hs hc (by omega) (fun υ hB' => ih (n + 1) (by omega) υ hB') (3 ^ cb s 12 - 1) 0 (by omega) τ hB
  exact key (cb s 12) 0 (by omega) σ7 hB0
