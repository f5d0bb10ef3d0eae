/-! bestTurn -/
def kkk (size t : Nat) : Int32 := if t % 2 = 0 then nI size else -(nI size)
theorem kkk_int {size t : Nat} (h : size ≤ 99) : (kkk size t).toInt = (if t % 2 = 0 then (size : Int) else -(size : Int)) := by
  unfold kkk
  split
  · exact nI_toInt (by omega)
  · exact sb_negT (by omega)
theorem kkk_b {size t : Nat} (h : size ≤ 99) : -99 ≤ (kkk size t).toInt ∧ (kkk size t).toInt ≤ 99 := by
  rw [kkk_int h]
  split <;> omega
noncomputable def stp (a : AT) (size t : Nat) (s : Nat × Int32 × Int32) : Nat × Int32 × Int32 :=
  if tOK a (nI (t / 2)) (kkk size t) ∧ qk (turnRow a (t / 2) (kkk size t).toInt) < s.1 then (qk (turnRow a (t / 2) (kkk size t).toInt), nI (t / 2), kkk size t) else s
noncomputable def tin (a : AT) (size : Nat) (s : Nat × Int32 × Int32) : Nat → Nat × Int32 × Int32
  | 0 => s
  | n + 1 => stp a size n (tin a size s n)
noncomputable def outs (a : AT) : Nat → Nat × Int32 × Int32
  | 0 => (qk a, -1, 0)
  | n + 1 => tin a (n + 1) (outs a n) (2 * aNR a)
def SI (a : AT) (s : Nat × Int32 × Int32) : Prop := s.1 ≤ qk a ∧ (s.2.1 = -1 → s.1 = qk a) ∧ (¬ s.2.1 = -1 → s.1 < qk a)
theorem stp_si {a : AT} {size t : Nat} {s : Nat × Int32 × Int32} (ht : t < 100) (h : SI a s) : SI a (stp a size t s) := by
  unfold stp
  split
  · rename_i z
    have h1 := h.1
    exact ⟨by dsimp only; omega, fun q => absurd q (nI_nm1 (by omega)), fun _ => by dsimp only; omega⟩
  · exact h
theorem tin_si {a : AT} {size : Nat} {s : Nat × Int32 × Int32} (h : SI a s) : ∀ n, n ≤ 100 → SI a (tin a size s n) := by
  intro n
  induction n with
  | zero => intro _; exact h
  | succ n ih => intro hn; exact stp_si (by omega) (ih (by omega))
theorem outs_si {a : AT} (h12 : aNR a ≤ 12) : ∀ n, SI a (outs a n) := by
  intro n
  induction n with
  | zero => exact ⟨Nat.le_refl _, fun _ => rfl, fun z => absurd rfl z⟩
  | succ n ih => exact tin_si ih _ (by omega)
theorem tin_zero {a : AT} {size t : Nat} {s : Nat × Int32 × Int32} (h : (tin a size s t).1 = 0) : ∀ d, tin a size s (t + d) = tin a size s t := by
  intro d
  induction d with
  | zero => rfl
  | succ d ih =>
    rw [show t + (d + 1) = t + d + 1 by omega, tin, ih]
    unfold stp
    rw [if_neg (fun z => by have := z.2; omega)]
theorem stp_big {a : AT} {size t : Nat} {s : Nat × Int32 × Int32} (hO : OKT a) (ht : t < 2 * aNR a) (hs : 18 < size) (hs2 : size ≤ 99) : stp a size t s = s := by
  unfold stp
  rw [if_neg]
  rintro ⟨⟨-, -, h3, h4⟩, -⟩
  have h12 := hO.2.1
  have l3 := hO.lane (r := t / 2) (by omega) (c := 0) (by decide)
  have l4 := hO.lane (r := t / 2) (by omega) (c := 1) (by decide)
  rw [nI_clamp (by omega), kkk_int hs2] at h3 h4
  rw [show (3 + 0 : Nat) = 3 from rfl] at l3
  rw [show (3 + 1 : Nat) = 4 from rfl] at l4
  split at h3 <;> omega
theorem tin_big {a : AT} {size : Nat} {s : Nat × Int32 × Int32} (hO : OKT a) (hs : 18 < size) (hs2 : size ≤ 99) : ∀ n, n ≤ 2 * aNR a → tin a size s n = s := by
  intro n
  induction n with
  | zero => intro _; rfl
  | succ n ih => intro hn; rw [tin, ih (by omega), stp_big hO (by omega) hs hs2]
theorem outs_big {a : AT} (hO : OKT a) : ∀ d, 18 + d ≤ 98 → outs a (18 + d) = outs a 18 := by
  intro d
  induction d with
  | zero => intro _; rfl
  | succ d ih => intro hd; rw [show 18 + (d + 1) = 18 + d + 1 by omega, outs, ih (by omega), tin_big hO (by omega) (by omega) _ (Nat.le_refl _)]
theorem s_tryTurn_74 {a : AT} {σ : Sg} {r q y : Nat} {k : Int32} {Q : Int32 → Sg → Prop} (hO : OKT a) (hr : r < aNR a) (hk3 : -(aR a r 3 : Int) ≤ k.toInt) (hk4 : k.toInt ≤ (aR a r 4 : Int)) (hC : RC σ (turnRow a r k.toInt)) (hq : σ 5 0 = nI q) (hq41 : q ≤ 41) (hy : y ≤ 41)
    (h0 : y = q → ∀ τ, WF σ τ → RC τ a → Q 0 τ) (h1 : y ≠ q → ∀ τ, ZF σ τ → RC τ a → τ 5 0 = nI y → τ 5 1 = nI r → τ 5 2 = k → Q 1 τ) : wp_X4_tryTurn_74 Q (nI r) k (nI y) σ := by
  have h12 := hO.2.1
  have l3 := hO.lane hr (c := 0) (by decide)
  have l4 := hO.lane hr (c := 1) (by decide)
  rw [show (3 + 0 : Nat) = 3 from rfl] at l3
  rw [show (3 + 1 : Nat) = 4 from rfl] at l4
  have l34 := (hO.2.2.2.2.1 r hr).2.2.2.2.2.2
  have kn := neg_toInt (k := k) (by omega) (by omega)
  unfold wp_X4_tryTurn_74
  have e3 : aR (turnRow a r k.toInt) r 3 = ((aR a r 3 : Int) + k.toInt).toNat := by rw [aR_turn, if_neg (by omega), if_pos ⟨rfl, rfl⟩]
  have e4 : aR (turnRow a r k.toInt) r 4 = ((aR a r 4 : Int) - k.toInt).toNat := by rw [aR_turn, if_pos ⟨rfl, rfl⟩]
  refine s_X3_shiftLanes hC h12 hr (by rw [e3, e4]; omega) (by rw [e3, kn]; omega) (by rw [e4, kn]; omega) (fun σ8 f8 r8 => ?_)
  rw [kn, turnRow_back a (by omega) (by omega)] at r8
  rw [f8 5 (by decide), hq]
  refine pk_eq y q (fun e => ⟨Or.inl rfl, h0 e σ8 (WF_8 f8) r8⟩) (fun e => ?_) rfl rfl (by omega) (by omega)
  intro σ15 e15 σ16 e16 σ17 e17
  have o : ∀ j, j ≠ 5 → σ17 j = σ8 j := fun j hj => by rw [e17, put_o hj, e16, put_o hj, e15, put_o hj]
  refine ⟨Or.inr rfl, h1 e σ17 ((WF_8 f8).zf.tr (fun k _ b _ _ _ _ _ => o k b)) (r8.keep (by rw [o 1 (by decide)]) (by rw [o 1 (by decide)]) (by rw [o 2 (by decide)]) (o 6 (by decide)) (o 7 (by decide)) (o 8 (by decide)) (o 9 (by decide)) (o 13 (by decide))) ?_ ?_ ?_⟩
  · rw [e17, put_n (by decide), e16, put_n (by decide), e15, put_s]
  · rw [e17, put_n (by decide), e16, put_s]
  · rw [e17, put_s]
theorem s_tryTurn {a : AT} {σ : Sg} {size t : Nat} {s : Nat × Int32 × Int32} {Q : Int32 → Sg → Prop} (hO : OKT a) (hC : RC σ a) (ht : t < 2 * aNR a) (hs : size ≤ 99) (hq : σ 5 0 = nI s.1) (hpos : 0 < s.1) (hle : s.1 ≤ qk a) (hN : NRW a σ s.1)
    (h0 : stp a size t s = s → ∀ τ, WF σ τ → RC τ a → Q 0 τ)
    (h1 : stp a size t s = (qk (turnRow a (t / 2) (kkk size t).toInt), nI (t / 2), kkk size t) → qk (turnRow a (t / 2) (kkk size t).toInt) < s.1 → ∀ τ, ZF σ τ → RC τ a → τ 5 0 = nI (qk (turnRow a (t / 2) (kkk size t).toInt)) → τ 5 1 = nI (t / 2) → τ 5 2 = kkk size t → Q 1 τ) : wp_X4_tryTurn σ (nI (t / 2)) (kkk size t) Q := by
  have h12 := hO.2.1
  have h41 := qk_le a
  have hr : t / 2 < aNR a := by omega
  unfold wp_X4_tryTurn
  refine s_X3_turnFits hC h12 hO.l100 ?_
  by_cases z : tOK a (nI (t / 2)) (kkk size t)
  · rw [if_pos z]
    refine ⟨fun q => absurd q (by decide), fun _ => ?_⟩
    obtain ⟨z0, z1, z3, z4⟩ := z
    have zz : tOK a (nI (t / 2)) (kkk size t) := ⟨z0, z1, z3, z4⟩
    rw [nI_clamp (by omega)] at z3 z4
    obtain ⟨q', hq'⟩ : ∃ q', s.1 = q' + 1 := ⟨s.1 - 1, by omega⟩
    obtain ⟨X, V, n1, n2, n3, n4⟩ := hN q' hq'
    have hkb := kkk_b (t := t) hs
    have ok := turnRow_ok hO (r := t / 2) (k := (kkk size t).toInt) (by omega) (by omega)
    have h480 := TOTn_le hO.n
    refine s_crossingMore (X := X) (t := q') (by omega) h12 hr (by omega) n4 (fun x hx => ?_)
    rw [n3]
    have hT := nI_toInt (n := TOTn a - V) (by omega)
    refine ⟨fun zc => ?_, fun zc => ⟨Or.inl rfl, ?_⟩⟩
    · refine s_X3_shiftLanes hC h12 hr (hO.l100 _ hr) (by omega) (by omega) (fun σ7 f7 r7 => ?_)
      rw [f7 5 (by decide), hq, hq', nI_pred]
      refine s_allSafeBy ok.n (by omega) r7 (qk_is _) (fun σ9 f9 => ?_)
      have q9 : σ9 5 0 = nI (q' + 1) := by rw [f9 5 (by decide) (by decide) (by decide), f7 5 (by decide), hq, hq']
      by_cases w : qk (turnRow a (t / 2) (kkk size t).toInt) ≤ q'
      · rw [if_pos w]
        refine ⟨fun q => absurd q (by decide), fun _ => ?_⟩
        rw [q9]
        refine s_soonestWithin (lo := 0) ok.n (f9.rc r7) (by omega) (by omega) (qk_is _) (fun σ18 f18 => ?_)
        have er : qres 0 (q' + 1) (qk (turnRow a (t / 2) (kkk size t).toInt)) = qk (turnRow a (t / 2) (kkk size t).toInt) := by unfold qres; split <;> omega
        rw [er]
        have q18 : σ18 5 0 = nI (q' + 1) := by rw [f18 5 (by decide) (by decide) (by decide), q9]
        refine s_tryTurn_74 hO hr z3 z4 ((f9.tr f18).rc r7) q18 (by omega) (by omega) (fun e => by omega) (fun _ τ fτ rτ a1 a2 a3 => ?_)
        refine h1 ?_ (by omega) τ ((WF_8 f7).zf.tr ((f9.tr f18).wf.zf.tr fτ)) rτ a1 a2 a3
        unfold stp
        rw [if_pos ⟨zz, by omega⟩]
      · rw [if_neg w]
        refine ⟨fun _ => ?_, fun q => absurd rfl q⟩
        rw [q9]
        refine s_tryTurn_74 hO hr z3 z4 (f9.rc r7) q9 (by omega) (by omega) (fun _ τ fτ rτ => ?_) (fun e => absurd rfl e)
        refine h0 ?_ τ ((WF_8 f7).tr (f9.wf.tr fτ)) rτ
        unfold stp
        rw [if_neg (fun v => by have := v.2; omega)]
    · refine h0 ?_ σ (WF.rf σ) hC
      rw [Int32.le_iff_toInt_le, hT] at zc
      have hcap := (CAP_turn (t := q') hr (k := (kkk size t).toInt) (by omega) (by omega) X).1
      have nt := no_turn (a := a) (a' := turnRow a (t / 2) (kkk size t).toInt) (q' := q') (V := V) (X := X) (by rw [hcap, n1]; omega) (TOTn_turn _ _ _)
      unfold stp
      rw [if_neg (fun v => by have := v.2; omega)]
  · rw [if_neg z]
    refine ⟨fun _ => ⟨Or.inl rfl, h0 ?_ σ (WF.rf σ) hC⟩, fun q => absurd rfl q⟩
    unfold stp
    rw [if_neg (fun v => z v.1)]
/-- the class's search, some way on -/
def BT (a : AT) (σ τ : Sg) (s : Nat × Int32 × Int32) : Prop := ZF σ τ ∧ RC τ a ∧ τ 5 0 = nI s.1 ∧ (¬ s.2.1 = -1 → τ 5 1 = s.2.1 ∧ τ 5 2 = s.2.2) ∧ NRW a τ s.1 ∧ SI a s
theorem BT.wf {a : AT} {σ τ υ : Sg} {s : Nat × Int32 × Int32} (h : BT a σ τ s) (f : WF τ υ) (hC : RC υ a) : BT a σ υ s := by
  have f5 : υ 5 = τ 5 := f 5 (by decide) (by decide) (by decide) (by decide) (by decide)
  exact ⟨h.1.tr f.zf, hC, by rw [f5]; exact h.2.2.1, fun z => by rw [f5]; exact h.2.2.2.1 z, h.2.2.2.2.1.wf f, h.2.2.2.2.2⟩
theorem s_findTurn_27 {a : AT} {σ : Sg} {size : Nat} {x1 : Int32} {s0 : Nat × Int32 × Int32} {Q : Int32 → Sg → Prop} {K : Int32 → Int32 → Sg → Prop} (hO : OKT a) (hs : size ≤ 99)
    (hK : ∀ τ, BT a σ τ (tin a size s0 (2 * aNR a)) → K x1 (nI (size + 1)) τ) : ∀ d t, t + d = 2 * aNR a → ∀ τ, BT a σ τ (tin a size s0 t) → wp_X4_findTurn_27 Q K (d + 1) x1 (nI size) (nI t) τ := by
  have h12 := hO.2.1
  have h41 := qk_le a
  intro d
  induction d with
  | zero =>
    intro t ht τ hB
    have : t = 2 * aNR a := by omega
    subst this
    rw [wp_X4_findTurn_27, hB.2.1.2.1, e_2]
    refine ⟨fun _ x2 e2 => ?_, fun z => absurd (nI_le (Nat.le_refl _) (by omega)) z⟩
    rw [nI_1] at e2
    subst e2
    exact hK τ hB
  | succ d ih =>
    intro t ht τ hB
    have hle := hB.2.2.2.2.2.1
    rw [wp_X4_findTurn_27, hB.2.1.2.1, e_2, hB.2.2.1]
    refine ⟨fun z => absurd z (nI_ge (by omega) (by omega)), fun _ => ?_⟩
    refine pk_le (tin a size s0 t).1 0 (fun hz => ?_) (fun hpos => ?_) rfl rfl (by omega) (by omega)
    · intro x2 e2
      rw [nI_1] at e2
      subst e2
      have := tin_zero (a := a) (size := size) (s := s0) (t := t) (by omega) (d + 1)
      rw [ht] at this
      rw [← this] at hB
      exact hK τ hB
    · rw [show (2 : Int32) = nI 2 from rfl, pk_rem (by omega) (by decide) (by decide), pk_div (by omega) (by decide) (by decide)]
      have go : wp_X4_findTurn_63 Q K (fun z1 z2 z3 σ => wp_X4_findTurn_27 Q K (d + 1) z1 z2 z3 σ) x1 (nI size) (nI t) (nI (t / 2)) (kkk size t) τ := by
        unfold wp_X4_findTurn_63
        have nx := ih (t + 1) (by omega)
        rw [tin] at nx
        refine s_tryTurn hO hB.2.1 (by omega) hs hB.2.2.1 hpos hle hB.2.2.2.2.1 (fun e υ f r => ⟨fun _ => ?_, fun q => absurd rfl q⟩) (fun e hlt υ f r a1 a2 a3 => ⟨fun q => absurd q (by decide), fun _ => ?_⟩)
        · intro x3 e3
          rw [nI_1] at e3
          subst e3
          rw [e] at nx
          exact nx υ (hB.wf f r)
        · rw [e] at nx
          have si := stp_si (size := size) (t := t) (by omega) hB.2.2.2.2.2
          rw [e] at si
          refine s_findNarrow hO.n r a1 (by omega) (fun ω f2 f5 r2 hN => ?_)
          intro x3 e3
          rw [nI_1] at e3
          subst e3
          refine nx ω ⟨hB.1.tr (f.tr f2), r2, by rw [f5 0 (by decide)]; exact a1, fun _ => ⟨by rw [f5 1 (by decide)]; exact a2, by rw [f5 2 (by decide)]; exact a3⟩, hN, si⟩
      refine pk_eq (t % 2) 0 (fun z => ?_) (fun z => ?_) rfl rfl (by omega) (by omega)
      · unfold kkk at go; rwa [if_pos z] at go
      · unfold kkk at go; rwa [if_neg z] at go
theorem s_findTurn {a : AT} {σ : Sg} {Q : Int32 → Sg → Prop} (hO : OKT a) (hC : RC σ a)
    (h0 : (outs a 18).2.1 = -1 → ∀ τ, ZF σ τ → RC τ a → Q 0 τ) (h1 : ¬ (outs a 18).2.1 = -1 → ∀ τ, ZF σ τ → RC τ a → τ 5 0 = nI (outs a 18).1 → τ 5 1 = (outs a 18).2.1 → τ 5 2 = (outs a 18).2.2 → Q 1 τ) : wp_X4_findTurn σ Q := by
  have h41 := qk_le a
  have h12 := hO.2.1
  unfold wp_X4_findTurn
  refine s_soonest hO.n hC (qk_is a) (fun σ1 f1 => ?_)
  intro σ3 e3
  have r1 := f1.rc hC
  have o : ∀ k, k ≠ 5 → σ3 k = σ1 k := fun k hk => by rw [e3, put_o hk]
  have r3 : RC σ3 a := r1.keep (by rw [o 1 (by decide)]) (by rw [o 1 (by decide)]) (by rw [o 2 (by decide)]) (o 6 (by decide)) (o 7 (by decide)) (o 8 (by decide)) (o 9 (by decide)) (o 13 (by decide))
  have q3 : σ3 5 0 = nI (qk a) := by rw [e3, put_s]
  have z3 : ZF σ σ3 := f1.wf.zf.tr (fun k _ b _ _ _ _ _ => o k b)
  have key : ∀ d n, n + d = 18 → ∀ τ, BT a σ τ (outs a n) → wp_X4_findTurn_19 Q (d + 1) (nI (qk a)) (nI (n + 1)) τ := by
    intro d
    induction d with
    | zero =>
      intro n hn τ hB
      have : n = 18 := by omega
      subst this
      rw [wp_X4_findTurn_19, hB.2.2.1]
      have si := hB.2.2.2.2.2
      refine ⟨fun _ => ?_, fun z => absurd (nI_lt (a := 18) (by omega) (by omega)) z⟩
      refine pk_le (qk a) (outs a 18).1 (fun hle => ⟨Or.inl rfl, ?_⟩) (fun hgt => ⟨Or.inr rfl, ?_⟩) rfl rfl (by omega) (by have := si.1; omega)
      · refine h0 ?_ τ hB.1 hB.2.1
        by_cases w : (outs a 18).2.1 = -1
        · exact w
        · have := si.2.2 w; omega
      · have w : ¬ (outs a 18).2.1 = -1 := fun w => by have := si.2.1 w; omega
        obtain ⟨a1, a2⟩ := hB.2.2.2.1 w
        exact h1 w τ hB.1 hB.2.1 hB.2.2.1 a1 a2
    | succ d ih =>
      intro n hn τ hB
      rw [wp_X4_findTurn_19]
      refine ⟨fun z => absurd z (nI_nlt (a := 18) (by omega) (by omega)), fun _ => ⟨2 * aNR a + 1, ?_⟩⟩
      exact s_findTurn_27 (σ := σ) (s0 := outs a n) hO (by omega) (fun υ hB' => ih (n + 1) (by omega) υ hB') (2 * aNR a) 0 (by omega) τ hB
  refine s_findNarrow hO.n r3 q3 (Nat.le_refl _) (fun σ4 f4 f5 r4 hN => ⟨19, ?_⟩)
  exact key 18 0 (by omega) σ4 ⟨z3.tr f4, r4, by rw [f5 0 (by decide)]; exact q3, fun z => absurd rfl z, hN, outs_si h12 0⟩
noncomputable def btA (w : Int32) (a : AT) : Int32 := if inr 0 2 w = 0 then -2 else if (outs a 18).2.1 = -1 then -2 else if w = 0 then nI (outs a 18).1 else if w = 1 then (outs a 18).2.1 else (outs a 18).2.2
theorem KP.fm {σ τ : Sg} (h : KP σ τ) : FM σ τ := fun k hk => h.1 k (by omega) (by omega) (by omega) (by omega)
theorem KP.tm {σ τ : Sg} (h : KP σ τ) : TM σ τ := ⟨h.2.1 4 (by decide), h.2.1 5 (by decide), h.1 33 (by decide) (by decide) (by decide) (by decide)⟩
theorem s_cb2 {a : AT} {σ τ : Sg} {Q : Sg → Prop} (hO : OKN a) (hM : RM σ a) (h : KP σ τ) (hQ : ∀ υ, KP σ υ → RM υ a → Q υ) : wp_X6_comesBack τ Q :=
  s_comesBack (fun υ h1 h2 => hQ υ (h.p31 h1) ((h.back h1 h2).rm hO hM))
theorem s_bt_57 {a : AT} {σ : Sg} {size : Nat} {x1 : Int32} {s0 : Nat × Int32 × Int32} {Q : Int32 → Sg → Prop} {K : Int32 → Int32 → Int32 → Int32 → Int32 → Sg → Prop} (hO : OKT a) (hM : RM σ a) (hs : size ≤ 99) (hs0 : SI a s0)
    (hK : ∀ τ, KP σ τ → RM τ a → K x1 (nI (tin a size s0 (2 * aNR a)).1) (tin a size s0 (2 * aNR a)).2.1 (tin a size s0 (2 * aNR a)).2.2 (nI (size + 1)) τ) : ∀ d t, t + d = 2 * aNR a → ∀ τ, KP σ τ → RM τ a → wp_X6_bestTurn_57 Q K (d + 1) x1 (nI (tin a size s0 t).1) (tin a size s0 t).2.1 (tin a size s0 t).2.2 (nI size) (nI t) τ := by
  have h12 := hO.2.1
  have h41 := qk_le a
  intro d
  induction d with
  | zero =>
    intro t ht τ kp rm
    have : t = 2 * aNR a := by omega
    subst this
    rw [wp_X6_bestTurn_57]
    refine s_X6_roads ?_
    rw [rm.2.1, e_2]
    refine ⟨fun _ x6 e6 => ?_, fun z => absurd (nI_le (Nat.le_refl _) (by omega)) z⟩
    rw [nI_1] at e6
    subst e6
    exact hK τ kp rm
  | succ d ih =>
    intro t ht τ kp rm
    have si := tin_si (size := size) hs0 t (by omega)
    have hle := si.1
    rw [wp_X6_bestTurn_57]
    refine s_X6_roads ?_
    rw [rm.2.1, e_2]
    refine ⟨fun z => absurd z (nI_ge (by omega) (by omega)), fun _ => ?_⟩
    rw [show (2 : Int32) = nI 2 from rfl, pk_rem (by omega) (by decide) (by decide)]
    have nx := ih (t + 1) (by omega)
    rw [tin] at nx
    have go : wp_X6_bestTurn_83 Q K (fun z1 z3 z4 z5 z6 z7 σ => wp_X6_bestTurn_57 Q K (d + 1) z1 z3 z4 z5 z6 z7 σ) x1 (nI (tin a size s0 t).1) (tin a size s0 t).2.1 (tin a size s0 t).2.2 (nI size) (nI t) (kkk size t) τ := by
      unfold wp_X6_bestTurn_83
      rw [show (2 : Int32) = nI 2 from rfl, pk_div (by omega) (by decide) (by decide)]
      have same : stp a size t (tin a size s0 t) = tin a size s0 t → ∀ υ, KP σ υ → RM υ a → wp_X6_bestTurn_144 Q K (fun z1 z3 z4 z5 z6 z7 σ => wp_X6_bestTurn_57 Q K (d + 1) z1 z3 z4 z5 z6 z7 σ) x1 (nI (tin a size s0 t).1) (tin a size s0 t).2.1 (tin a size s0 t).2.2 (nI size) (nI t) υ := by
        intro e υ kp rm x7 e7
        rw [nI_1] at e7
        subst e7
        rw [e] at nx
        exact nx υ kp rm
      refine s_X6_mayTurn rm h12 hO.l100 ?_
      by_cases z : tOK a (nI (t / 2)) (kkk size t)
      · rw [if_pos z]
        refine ⟨fun q => absurd q (by decide), fun _ => ?_⟩
        obtain ⟨z0, z1, z3, z4⟩ := z
        have zz : tOK a (nI (t / 2)) (kkk size t) := ⟨z0, z1, z3, z4⟩
        rw [nI_clamp (by omega)] at z3 z4
        have hr : t / 2 < aNR a := by omega
        have ok := turnRow_ok hO (r := t / 2) (k := (kkk size t).toInt) (by omega) (by omega)
        refine s_X6_turnsRoad rm hO.1 h12 hr (hO.l100 _ hr) (by omega) (by omega) (fun σ7 f7 r7 => ?_)
        refine s_quickestBelow ok.n (by omega) r7 (qk_is _) (fun υ lf => s_cb2 hO.n hM ((kp.p31 f7).lf lf) (fun ω kω rω => ?_))
        unfold tq
        by_cases w : qk (turnRow a (t / 2) (kkk size t).toInt) < (tin a size s0 t).1
        · rw [if_pos w]
          refine ⟨fun q => absurd q (nI_nm1 (by omega)), fun _ x4 e4 => ?_⟩
          subst e4
          intro x7 e7
          rw [nI_1] at e7
          subst e7
          have e : stp a size t (tin a size s0 t) = (qk (turnRow a (t / 2) (kkk size t).toInt), nI (t / 2), kkk size t) := by unfold stp; rw [if_pos ⟨zz, w⟩]
          rw [e] at nx
          exact nx ω kω rω
        · rw [if_neg w]
          refine ⟨fun _ => same ?_ ω kω rω, fun q => absurd rfl q⟩
          unfold stp
          rw [if_neg (fun v => w v.2)]
      · rw [if_neg z]
        refine ⟨fun _ => same ?_ τ kp rm, fun q => absurd rfl q⟩
        unfold stp
        rw [if_neg (fun v => z v.1)]
    refine pk_eq (t % 2) 0 (fun z => ?_) (fun z => ?_) rfl rfl (by omega) (by omega)
    · unfold kkk at go; rwa [if_pos z] at go
    · unfold kkk at go; rwa [if_neg z] at go
theorem L_bestTurn {σ : Sg} (hI : INV σ) (p1 : Int32) {K : Sg → Prop} (hK : ∀ τ, INV τ → K τ) {C : Int32 → Sg → Prop} (hw : ∀ r1 σ1, wp_X6_bestTurn σ1 p1 (fun r2 σ2 => (r1 = r2 → K σ2) ∧ (¬ (r1 = r2) → False)) → C r1 σ1) : wp_X5_bestTurn σ p1 C := by
  refine L_ask hI (wpC := fun σ C => wp_X5_bestTurn σ p1 C) (wpM := fun σ C => wp_X6_bestTurn σ p1 C) (btA p1) (fun a hO τ hC Q h => ?_) (fun a hO τ hM Q h => ?_) hK hw
  · show wp_X5_bestTurn τ p1 Q
    unfold wp_X5_bestTurn
    have no : inr 0 2 p1 = 0 → Q (-2) τ := fun w => by
      have := h τ (FC.rf τ) (TC.rf τ) hC
      unfold btA at this
      rwa [if_pos w] at this
    refine ⟨fun z => no (by unfold inr; rw [if_pos z]), fun z => ⟨fun z1 => no (by unfold inr; rw [if_neg z, if_pos z1]), fun z1 => ?_⟩⟩
    have zi : ¬ inr 0 2 p1 = 0 := by unfold inr; rw [if_neg z, if_neg z1]; decide
    refine s_findTurn hO hC (fun e υ f r => ⟨fun _ => ?_, fun q => absurd rfl q⟩) (fun e υ f r a1 a2 a3 => ⟨fun q => absurd q (by decide), fun _ => ?_⟩)
    · have := h υ f.fc f.tc r
      unfold btA at this
      rwa [if_neg zi, if_pos e] at this
    · have := h υ f.fc f.tc r
      unfold btA at this
      rw [if_neg zi, if_neg e] at this
      rw [a1, a2, a3]
      refine ⟨fun w => ?_, fun w => ⟨fun w1 => ?_, fun w1 => ?_⟩⟩
      · rwa [if_pos w] at this
      · rwa [if_neg w, if_pos w1] at this
      · rwa [if_neg w, if_neg w1] at this
  · show wp_X6_bestTurn τ p1 Q
    unfold wp_X6_bestTurn
    have h12 := hO.2.1
    have h41 := qk_le a
    intro σ1 e1
    have k1 : KF τ σ1 := KF.t0 e1
    have hM1 : RM σ1 a := k1.rm hO.n hM
    refine s_X6_isIn ⟨fun z => ?_, fun zi => s_quickestNow hO.n hM1 (qk_is a) (fun σ5 lf5 => ?_)⟩
    · have := h σ1 k1.1 k1.2.1 hM1
      unfold btA at this
      rwa [if_pos z] at this
    · have k5 := k1.tr lf5.kf
      have m5 := k5.rm hO.n hM
      have go : wp_X6_bestTurn_33 Q p1 (nI (qk a)) σ5 := by
        unfold wp_X6_bestTurn_33
        refine s_keep hO.n m5 (fun σ8 kp8 m8 => ⟨99, ?_⟩)
        have key : ∀ d n, n + d = 98 → ∀ υ, KP σ5 υ → RM υ a → wp_X6_bestTurn_47 Q (d + 1) p1 (nI (outs a n).1) (outs a n).2.1 (outs a n).2.2 (nI (n + 1)) υ := by
          intro d
          induction d with
          | zero =>
            intro n hn υ kp rm
            have : n = 98 := by omega
            subst this
            rw [wp_X6_bestTurn_47, show outs a 98 = outs a 18 from outs_big hO 80 (by omega)]
            have kk : FM τ υ := k5.1.tr kp.fm
            have := h υ kk (k5.2.1.tr kp.tm) rm
            unfold btA at this
            rw [if_neg zi] at this
            refine ⟨fun _ => ⟨fun e => ?_, fun e => ⟨fun w => ?_, fun w => ⟨fun w1 => ?_, fun w1 => ?_⟩⟩⟩, fun q => absurd (nI_le (a := 99) (by omega) (by omega)) q⟩
            · rwa [if_pos e] at this
            · rwa [if_neg e, if_pos w] at this
            · rwa [if_neg e, if_neg w, if_pos w1] at this
            · rwa [if_neg e, if_neg w, if_neg w1] at this
          | succ d ih =>
            intro n hn υ kp rm
            rw [wp_X6_bestTurn_47]
            refine ⟨fun q => absurd q (nI_ge (b := 99) (by omega) (by omega)), fun _ => ⟨2 * aNR a + 1, ?_⟩⟩
            exact s_bt_57 (s0 := outs a n) hO m5 (by omega) (outs_si h12 n) (fun ω kω rω => ih (n + 1) (by omega) ω kω rω) (2 * aNR a) 0 (by omega) υ kp rm
        exact key 98 0 (by omega) σ8 kp8 m8
      unfold tq
      by_cases w : qk a < 41
      · rw [if_pos w]
        exact ⟨fun q => absurd q (nI_nm1 (by omega)), fun _ => go⟩
      · rw [if_neg w]
        have : qk a = 41 := by omega
        rw [this] at go
        exact ⟨fun _ => go, fun q => absurd rfl q⟩
