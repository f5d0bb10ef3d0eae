/-! What a text says: fault (0: none), the town after, the place on the tape after -/
abbrev RS : Type := Nat × AT × Nat
def one (T : Nat → Int32) (n : Nat) (a : AT) (b : Nat) (fit : Int32 → Int32) (k : Int32 → Nat → RS) : RS :=
  if tKi T n (tI T n b) = 2 then (if fit (tVi T n (tI T n b)) = 0 then (2 + 8 * tI T n b, a, 0) else k (tVi T n (tI T n b)) (tEi T n (tI T n b))) else (1 + 8 * tI T n b, a, 0)
def placeS (T : Nat → Int32) (n : Nat) (a : AT) (b : Nat) : RS :=
  one T n a b (inr 0 60) fun v0 b0 => one T n a b0 (inr 0 300) fun v1 b1 => one T n a b1 (inr 0 20) fun v2 b2 => one T n a b2 (inr 0 300) fun v3 b3 => (0, (placeA v0 v1 v2 v3 a).2, b3)
def roadS (T : Nat → Int32) (n : Nat) (a : AT) (b : Nat) : RS :=
  one T n a b (inp (nI (aNP a))) fun v0 b0 => one T n a b0 (fun v => if inp (nI (aNP a)) v = 0 ∨ v = v0 then 0 else 1) fun v1 b1 => one T n a b1 (inr 1 9) fun v2 b2 => one T n a b2 (inr 0 9) fun v3 b3 => one T n a b3 (fun v => if inr 0 9 v = 0 ∨ (v3 = 0 ∧ v = 0) then 0 else 1) fun v4 b4 => (0, (roadA v0 v1 v2 v3 v4 a).2, b4)
def turnS (T : Nat → Int32) (n : Nat) (a : AT) (b : Nat) : RS :=
  one T n a b (inp (nI (aNR a))) fun v0 b0 => one T n a b0 (fun v => if tOK a v0 v then 1 else 0) fun v1 b1 => (0, (turnA v0 v1 a).2, b1)
def moveS (T : Nat → Int32) (n : Nat) (a : AT) (b : Nat) : RS :=
  one T n a b (inr 0 40) fun v0 b0 => one T n a b0 (inp (nI (aNR a))) fun v1 b1 =>
    if isW T n (tI T n b1) 4 then one T n a (tEi T n (tI T n b1)) (inr 1 60) fun v3 b3 => (0, (moveA v0 v1 1 v3 a).2, b3)
    else if isW T n (tI T n b1) 5 then one T n a (tEi T n (tI T n b1)) (inr 1 60) fun v3 b3 => (0, (moveA v0 v1 0 v3 a).2, b3)
    else (1 + 8 * tI T n b1, a, 0)
def stS (T : Nat → Int32) (n : Nat) (a : AT) (i : Nat) : RS :=
  if isW T n i 0 then (if aNP a < 8 then placeS T n a (tEi T n i) else (3 + 8 * i, a, 0))
  else if isW T n i 1 then (if aNR a < 12 then roadS T n a (tEi T n i) else (3 + 8 * i, a, 0))
  else if isW T n i 2 then turnS T n a (tEi T n i)
  else if isW T n i 3 then (if aNM a < 40 then moveS T n a (tEi T n i) else (3 + 8 * i, a, 0))
  else (1 + 8 * i, a, 0)
def smS (T : Nat → Int32) (n : Nat) (a : AT) (i : Nat) : RS :=
  if (stS T n a i).1 = 0 then (if tI T n (stS T n a i).2.2 < n ∧ T (tI T n (stS T n a i).2.2) = 59 then (0, (stS T n a i).2.1, tI T n (stS T n a i).2.2 + 1) else (1 + 8 * tI T n (stS T n a i).2.2, a, 0)) else ((stS T n a i).1, a, 0)
def tlS (T : Nat → Int32) (n : Nat) : Nat → AT → Nat → Nat → Nat × AT × Nat
  | 0, a, _, c => (0, a, c)
  | k + 1, a, b, c => if n ≤ tI T n b then (0, a, c) else if (smS T n a (tI T n b)).1 = 0 then tlS T n k (smS T n a (tI T n b)).2.1 (smS T n a (tI T n b)).2.2 (c + 1) else ((smS T n a (tI T n b)).1, a, c)
/-- a good end: the place on the tape has grown, the town may stand -/
def GR (n : Nat) (a : AT) (b : Nat) (r : RS) : Prop := r.1 = 0 → b ≤ r.2.2 ∧ r.2.2 ≤ n ∧ OKT r.2.1 ∧ EXT a r.2.1
theorem G_one {T : Nat → Int32} {n : Nat} {a : AT} {b : Nat} {fit : Int32 → Int32} {k : Int32 → Nat → RS} (hb : b ≤ n) (h : ∀ v e, b ≤ e → e ≤ n → GR n a e (k v e)) : GR n a b (one T n a b fit k) := by
  unfold one
  have h1 := tI_p T n b
  have h2 := tE_p T n (tI T n b) (h1.2 hb)
  split
  · split
    · intro z; exact absurd z (by show ¬ 2 + 8 * tI T n b = 0; omega)
    · intro z
      obtain ⟨g1, g2, g3, g4⟩ := h _ (tEi T n (tI T n b)) (by omega) h2.2.1 z
      exact ⟨by omega, g2, g3, g4⟩
  · intro z; exact absurd z (by show ¬ 1 + 8 * tI T n b = 0; omega)
theorem G_place {T : Nat → Int32} {n : Nat} {a : AT} {b : Nat} (hO : OKT a) (hb : b ≤ n) : GR n a b (placeS T n a b) :=
  G_one hb fun _ _ _ h1 => G_one h1 fun _ _ _ h2 => G_one h2 fun _ _ _ h3 => G_one h3 fun _ e h4 h5 => fun _ => ⟨Nat.le_refl _, h5, O_place _ _ _ _ a hO, X_place _ _ _ _ a⟩
theorem G_road {T : Nat → Int32} {n : Nat} {a : AT} {b : Nat} (hO : OKT a) (hb : b ≤ n) : GR n a b (roadS T n a b) :=
  G_one hb fun _ _ _ h1 => G_one h1 fun _ _ _ h2 => G_one h2 fun _ _ _ h3 => G_one h3 fun _ _ _ h4 => G_one h4 fun _ e h4 h5 => fun _ => ⟨Nat.le_refl _, h5, O_road _ _ _ _ _ a hO, X_road _ _ _ _ _ a⟩
theorem G_turn {T : Nat → Int32} {n : Nat} {a : AT} {b : Nat} (hO : OKT a) (hb : b ≤ n) : GR n a b (turnS T n a b) :=
  G_one hb fun _ _ _ h1 => G_one h1 fun _ e h4 h5 => fun _ => ⟨Nat.le_refl _, h5, O_turn _ _ a hO, X_turn _ _ a⟩
theorem G_move {T : Nat → Int32} {n : Nat} {a : AT} {b : Nat} (hO : OKT a) (hb : b ≤ n) : GR n a b (moveS T n a b) :=
  G_one hb fun _ _ _ h1 => G_one h1 fun _ e _ h2 => by
    have q1 := tI_p T n e
    have q2 := tE_p T n (tI T n e) (q1.2 h2)
    have key : ∀ (x : Int32) (v0 v1 : Int32), GR n a e (one T n a (tEi T n (tI T n e)) (inr 1 60) fun v3 b3 => (0, (moveA v0 v1 x v3 a).2, b3)) := by
      intro x v0 v1 z
      obtain ⟨g1, g2, g3, g4⟩ := G_one (fit := inr 1 60) (k := fun v3 b3 => (0, (moveA v0 v1 x v3 a).2, b3)) q2.2.1 (fun v3 e h4 h5 => fun _ => ⟨Nat.le_refl _, h5, O_move _ _ _ _ a hO, X_move _ _ _ _ a⟩) z
      exact ⟨by omega, g2, g3, g4⟩
    split
    · exact key _ _ _
    · split
      · exact key _ _ _
      · intro z; exact absurd z (by show ¬ 1 + 8 * tI T n e = 0; omega)
theorem G_st {T : Nat → Int32} {n : Nat} {a : AT} {i : Nat} (hO : OKT a) (hi : i ≤ n) : GR n a i (stS T n a i) := by
  have q2 := tE_p T n i hi
  have up : ∀ r, GR n a (tEi T n i) r → GR n a i r := fun r h z => by
    obtain ⟨g1, g2, g3, g4⟩ := h z
    exact ⟨by omega, g2, g3, g4⟩
  have no : ∀ c, c ≠ 0 → GR n a i (c + 8 * i, a, 0) := fun c hc z => absurd z (by show ¬ c + 8 * i = 0; omega)
  unfold stS
  split
  · split
    · exact up _ (G_place hO q2.2.1)
    · exact no 3 (by decide)
  split
  · split
    · exact up _ (G_road hO q2.2.1)
    · exact no 3 (by decide)
  split
  · exact up _ (G_turn hO q2.2.1)
  split
  · split
    · exact up _ (G_move hO q2.2.1)
    · exact no 3 (by decide)
  · exact no 1 (by decide)
theorem G_sm {T : Nat → Int32} {n : Nat} {a : AT} {i : Nat} (hO : OKT a) (hi : i ≤ n) (h : (smS T n a i).1 = 0) : i < (smS T n a i).2.2 ∧ (smS T n a i).2.2 ≤ n ∧ OKT (smS T n a i).2.1 ∧ EXT a (smS T n a i).2.1 := by
  unfold smS at h ⊢
  by_cases z : (stS T n a i).1 = 0
  · obtain ⟨g1, g2, g3, g4⟩ := G_st (T := T) hO hi z
    rw [if_pos z] at h ⊢
    by_cases y : tI T n (stS T n a i).2.2 < n ∧ T (tI T n (stS T n a i).2.2) = 59
    · rw [if_pos y]
      have q1 := tI_p T n (stS T n a i).2.2
      exact ⟨by show i < tI T n (stS T n a i).2.2 + 1; omega, by show tI T n (stS T n a i).2.2 + 1 ≤ n; omega, g3, g4⟩
    · rw [if_neg y] at h; exact absurd h (by show ¬ 1 + 8 * tI T n (stS T n a i).2.2 = 0; omega)
  · rw [if_neg z] at h; exact absurd h z
/-! the class -/
def CT (T : Nat → Int32) (n : Nat) (a : AT) (b : Nat) (σ0 σ : Sg) : Prop := CB T n b σ ∧ RC σ a ∧ σ 3 1 = 0 ∧ FC σ0 σ ∧ σ 18 = σ0 18
/-- it was refused -/
def CF (a : AT) (f : Nat) (σ0 σ : Sg) : Prop := RC σ a ∧ σ 3 1 = nI f ∧ FC σ0 σ ∧ σ 18 = σ0 18
theorem RC.k3 {σ τ : Sg} {a : AT} (h : RC σ a) (k : K3 σ τ) : RC τ a := h.keep (by rw [k.1 1 (by decide)]) (by rw [k.1 1 (by decide)]) (by rw [k.1 2 (by decide)]) (k.1 6 (by decide)) (k.1 7 (by decide)) (k.1 8 (by decide)) (k.1 9 (by decide)) (k.1 13 (by decide))
theorem CT.k3 {T : Nat → Int32} {n : Nat} {a : AT} {b b' : Nat} {σ0 σ τ : Sg} (h : CT T n a b σ0 σ) (k : K3 σ τ) (c : CB T n b' τ) : CT T n a b' σ0 τ :=
  ⟨c, h.2.1.k3 k, by rw [k.2 1 (by decide) (by decide) (by decide) (by decide)]; exact h.2.2.1, h.2.2.2.1.tr (fun j hj => k.1 j (by omega)), by rw [k.1 18 (by decide)]; exact h.2.2.2.2⟩
theorem s_refuse {a : AT} {σ0 σ : Sg} {c i : Nat} {Q : Int32 → Sg → Prop} (hC : RC σ a) (fc : FC σ0 σ) (h18 : σ 18 = σ0 18) (h7 : σ 3 7 = nI i) (h : ∀ τ, CF a (c + 8 * i) σ0 τ → Q 0 τ) : wp_X2_refuse σ (nI c) Q := by
  intro τ e
  refine ⟨Or.inl rfl, h τ ?_⟩
  have k : ∀ b, b ≠ 3 → τ b = σ b := fun b hb => by rw [e, put_o hb]
  exact ⟨hC.keep (by rw [k 1 (by decide)]) (by rw [k 1 (by decide)]) (by rw [k 2 (by decide)]) (k 6 (by decide)) (k 7 (by decide)) (k 8 (by decide)) (k 9 (by decide)) (k 13 (by decide)), by rw [e, put_s, h7]; exact e_8 c i, fc.tr (fun b hb => k b (by omega)), by rw [k 18 (by decide)]; exact h18⟩
theorem tK_le (T : Nat → Int32) (n i : Nat) : tKi T n i ≤ 4 := by unfold tKi; split <;> (try split) <;> (try split) <;> (try split) <;> omega
theorem c_one {T : Nat → Int32} {n : Nat} {a : AT} {b S idx : Nat} {x2 : Int32} {σ0 σ : Sg} {fit : Int32 → Int32} {Q : Int32 → Sg → Prop} {K7 : Int32 → Int32 → Int32 → Sg → Prop} (hc : CT T n a b σ0 σ) (hidx : idx < 5)
    (hf : ∀ τ (Q' : Int32 → Sg → Prop), K3 σ τ → RC τ a → Q' (fit (τ 3 8)) τ → wp_X2_intFits τ (nI S) (nI idx) Q')
    (h1 : ¬ tKi T n (tI T n b) = 2 → ∀ τ, CF a (1 + 8 * tI T n b) σ0 τ → Q 0 τ)
    (h2 : tKi T n (tI T n b) = 2 → fit (tVi T n (tI T n b)) = 0 → ∀ τ, CF a (2 + 8 * tI T n b) σ0 τ → Q 0 τ)
    (h3 : tKi T n (tI T n b) = 2 → ¬ fit (tVi T n (tI T n b)) = 0 → ∀ τ, CT T n a (tEi T n (tI T n b)) σ0 τ → τ 17 idx = tVi T n (tI T n b) → (∀ j, j ≠ idx → τ 17 j = σ 17 j) → τ 3 10 = σ 3 10 → K7 (nI S) x2 (nI (idx + 1)) τ) : wp_X2_readInts_31 Q K7 (nI S) x2 (nI idx) σ := by
  unfold wp_X2_readInts_31
  refine s_readToken hc.1 (fun τ k c e6 e7 e8 => ?_)
  have ct := hc.k3 k c
  rw [e6]
  refine ⟨fun g => ?_, fun g => ?_⟩
  · have gk : tKi T n (tI T n b) = 2 := (nI_eq (b := 2) (by have := tK_le T n (tI T n b); omega) (by omega)).mp g
    have e8 := e8 (Or.inl gk)
    refine hf τ _ k ct.2.1 ⟨fun g2 => s_refuse ct.2.1 ct.2.2.2.1 ct.2.2.2.2 e7 (fun υ cf => ⟨Or.inl rfl, h2 gk (by rw [← e8]; exact g2) υ cf⟩), fun g2 => ⟨vp_in_nI hidx (by decide), ?_⟩⟩
    rw [nI_clamp (n := idx) (by omega), e8]
    intro σ11 e11 x3 e3
    rw [nI_1] at e3
    subst e3
    have kk : ∀ j, j ≠ 17 → σ11 j = τ j := fun j hj => by rw [e11, put_o hj]
    refine h3 gk (by rw [← e8]; exact g2) σ11 ⟨⟨c.1, fun j hj => by rw [kk 16 (by decide)]; exact c.2.1 j hj, by rw [kk 3 (by decide)]; exact c.2.2.1, by rw [kk 3 (by decide)]; exact c.2.2.2.1, c.2.2.2.2⟩, ct.2.1.keep (by rw [kk 1 (by decide)]) (by rw [kk 1 (by decide)]) (by rw [kk 2 (by decide)]) (kk 6 (by decide)) (kk 7 (by decide)) (kk 8 (by decide)) (kk 9 (by decide)) (kk 13 (by decide)), by rw [kk 3 (by decide)]; exact ct.2.2.1, ct.2.2.2.1.tr (fun j hj => kk j (by omega)), by rw [kk 18 (by decide)]; exact ct.2.2.2.2⟩ (by rw [e11, put_s]) (fun j hj => by rw [e11, put_n hj, k.1 17 (by decide)]) (by rw [kk 3 (by decide), k.2 10 (by decide) (by decide) (by decide) (by decide)])
  · have gk : ¬ tKi T n (tI T n b) = 2 := fun z => g (by rw [z]; rfl)
    exact s_refuse ct.2.1 ct.2.2.2.1 ct.2.2.2.2 e7 (fun υ cf => ⟨Or.inl rfl, h1 gk υ cf⟩)
/-- what can be carried out later, and makes the town a' of the town a -/
def RDY (S : Nat) (a a' : AT) (σ : Sg) : Prop := ∀ τ (Q : Sg → Prop), K3 σ τ → RC τ a → (∀ υ, (∀ k, ¬ CTW k → υ k = τ k) → RC υ a' → Q υ) → wp_X2_carryOut τ (nI S) Q
/-- how the reading of ints answers to what the text says -/
def ANS (T : Nat → Int32) (n S : Nat) (a : AT) (σ0 : Sg) (Q : Int32 → Sg → Prop) (r : RS) : Prop := (¬ r.1 = 0 → ∀ τ, CF a r.1 σ0 τ → Q 0 τ) ∧ (r.1 = 0 → ∀ τ, CT T n a r.2.2 σ0 τ → RDY S a r.2.1 τ → Q 1 τ)
/-- one int, and what follows -/
theorem c_one' {T : Nat → Int32} {n : Nat} {a : AT} {b S idx : Nat} {x2 : Int32} {σ0 σ : Sg} {fit : Int32 → Int32} {k : Int32 → Nat → RS} {Q : Int32 → Sg → Prop} {K7 : Int32 → Int32 → Int32 → Sg → Prop} (hc : CT T n a b σ0 σ) (hidx : idx < 5)
    (hf : ∀ τ (Q' : Int32 → Sg → Prop), K3 σ τ → RC τ a → Q' (fit (τ 3 8)) τ → wp_X2_intFits τ (nI S) (nI idx) Q')
    (hA : ANS T n S a σ0 Q (one T n a b fit k))
    (h3 : ∀ v e, ¬ fit v = 0 → ANS T n S a σ0 Q (k v e) → ∀ τ, CT T n a e σ0 τ → τ 17 idx = v → (∀ j, j ≠ idx → τ 17 j = σ 17 j) → τ 3 10 = σ 3 10 → K7 (nI S) x2 (nI (idx + 1)) τ) : wp_X2_readInts_31 Q K7 (nI S) x2 (nI idx) σ := by
  unfold one at hA
  refine c_one (fit := fit) hc hidx hf (fun g τ cf => ?_) (fun g g2 τ cf => ?_) (fun g g2 τ ct e1 e2 e3 => ?_)
  · rw [if_neg g] at hA
    exact hA.1 (by show ¬ 1 + 8 * tI T n b = 0; omega) τ cf
  · rw [if_pos g, if_pos g2] at hA
    exact hA.1 (by show ¬ 2 + 8 * tI T n b = 0; omega) τ cf
  · rw [if_pos g, if_neg g2] at hA
    exact h3 _ _ g2 hA τ ct e1 e2 e3
theorem s_if0 {σ : Sg} {S idx : Nat} {Q : Int32 → Sg → Prop} (hidx : idx < 5) (h0 : idx = 0 → wp_X2_intFits_16 Q (nI S) (nI idx) 0 σ) (h1 : 0 < idx → wp_X2_intFits_16 Q (nI S) (nI idx) (σ 17 (idx - 1)) σ) : wp_X2_intFits σ (nI S) (nI idx) Q := by
  unfold wp_X2_intFits
  refine pk_le idx 0 (fun g => h0 (by omega)) (fun g => ?_) rfl rfl (by omega) (by omega)
  rw [show nI idx - 1 = nI (idx - 1) from pk_sub (b := 1) (by omega), nI_clamp (n := idx - 1) (by omega)]
  exact ⟨vp_in_nI (by omega) (by decide), h1 g⟩
