theorem s_keeps {σ : Sg} {Q : Sg → Prop} (h : ∀ τ : Sg, (∀ k, k ≠ 32 → τ k = σ k) → (∀ j, j < 256 → τ 32 j = σ 31 j) → Q τ) : wp_X6_keeps σ Q := by
  have key : ∀ d i, i + d = 256 → ∀ τ : Sg, (∀ k, k ≠ 32 → τ k = σ k) → (∀ j, j < i → τ 32 j = σ 31 j) → wp_X6_keeps_2 Q (d + 1) (nI i) τ := by
    intro d
    induction d with
    | zero =>
      intro i hi τ f1 f2
      rw [wp_X6_keeps_2]
      exact ⟨fun _ => h τ f1 (fun j hj => f2 j (by omega)), fun z => absurd (nI_le (a := 256) (by omega) (by omega)) z⟩
    | succ d ih =>
      intro i hi τ f1 f2
      rw [wp_X6_keeps_2, nI_clamp (n := i) (by omega)]
      have v : vp_in (nI i) 256 := vp_in_nI (by omega) (by decide)
      refine ⟨fun z => absurd z (nI_ge (b := 256) (by omega) (by omega)), fun _ => ⟨v, v, fun σ2 e2 x1 e1 => ?_⟩⟩
      rw [nI_1] at e1
      subst e1
      refine ih (i + 1) (by omega) σ2 (fun k hk => by rw [e2, put_o hk, f1 k hk]) (fun j hj => ?_)
      rw [e2, put_at]
      by_cases e : j = i
      · subst e; rw [if_pos ⟨rfl, rfl⟩, f1 31 (by decide)]
      · rw [if_neg (fun z => e z.2)]; exact f2 j (by omega)
  exact ⟨257, key 256 0 (by omega) σ (fun _ _ => rfl) (fun j hj => by omega)⟩
theorem s_comesBack {σ : Sg} {Q : Sg → Prop} (h : ∀ τ : Sg, (∀ k, k ≠ 31 → τ k = σ k) → (∀ j, j < 256 → τ 31 j = σ 32 j) → Q τ) : wp_X6_comesBack σ Q := by
  have key : ∀ d i, i + d = 256 → ∀ τ : Sg, (∀ k, k ≠ 31 → τ k = σ k) → (∀ j, j < i → τ 31 j = σ 32 j) → wp_X6_comesBack_2 Q (d + 1) (nI i) τ := by
    intro d
    induction d with
    | zero =>
      intro i hi τ f1 f2
      rw [wp_X6_comesBack_2]
      exact ⟨fun _ => h τ f1 (fun j hj => f2 j (by omega)), fun z => absurd (nI_le (a := 256) (by omega) (by omega)) z⟩
    | succ d ih =>
      intro i hi τ f1 f2
      rw [wp_X6_comesBack_2, nI_clamp (n := i) (by omega)]
      have v : vp_in (nI i) 256 := vp_in_nI (by omega) (by decide)
      refine ⟨fun z => absurd z (nI_ge (b := 256) (by omega) (by omega)), fun _ => ⟨v, v, fun σ2 e2 x1 e1 => ?_⟩⟩
      rw [nI_1] at e1
      subst e1
      refine ih (i + 1) (by omega) σ2 (fun k hk => by rw [e2, put_o hk, f1 k hk]) (fun j hj => ?_)
      rw [e2, put_at]
      by_cases e : j = i
      · subst e; rw [if_pos ⟨rfl, rfl⟩, f1 32 (by decide)]
      · rw [if_neg (fun z => e z.2)]; exact f2 j (by omega)
  exact ⟨257, key 256 0 (by omega) σ (fun _ _ => rfl) (fun j hj => by omega)⟩
theorem RM_eq {σ τ : Sg} {a : AT} (hM : RM σ a) (h8 : aNP a ≤ 8) (h12 : aNR a ≤ 12) (h40 : aNM a ≤ 40) (h : ∀ j, j < 256 → τ 31 j = σ 31 j) : RM τ a := by
  obtain ⟨c1, c2, c3, c4, c5, c6⟩ := hM
  exact ⟨by rw [h 0 (by omega)]; exact c1, by rw [h 1 (by omega)]; exact c2, by rw [h 2 (by omega)]; exact c3, fun p hp w hw => by rw [h _ (by omega)]; exact c4 p hp w hw, fun r hr w hw => by rw [h _ (by omega)]; exact c5 r hr w hw, fun k hk w hw => by rw [h _ (by omega)]; exact c6 k hk w hw⟩
/-! the reference's tell -/
def MK (σ0 σ : Sg) : Prop := FM σ0 σ ∧ σ 32 = σ0 32 ∧ σ 30 4 = σ0 30 4
def MT (T : Nat → Int32) (n : Nat) (a : AT) (b : Nat) (σ0 σ : Sg) : Prop := MB T n b σ ∧ RM σ a ∧ σ 30 5 = 0 ∧ MK σ0 σ
def MF (f : Nat) (σ0 σ : Sg) : Prop := σ 30 5 = nI f ∧ MK σ0 σ
def ANM (T : Nat → Int32) (n : Nat) (σ0 : Sg) (Q : Sg → Prop) (r : RS) : Prop := (¬ r.1 = 0 → ∀ τ, MF r.1 σ0 τ → Q τ) ∧ (r.1 = 0 → ∀ τ, MT T n r.2.1 r.2.2 σ0 τ → Q τ)
theorem MK.k {σ0 σ τ : Sg} (h : MK σ0 σ) (k : K30 σ τ) : MK σ0 τ := ⟨h.1.tr (fun j hj => k.1 j (by omega)), by rw [k.1 32 (by decide)]; exact h.2.1, by rw [k.2 4 (by decide) (by decide) (by decide)]; exact h.2.2⟩
theorem RM.k {σ τ : Sg} {a : AT} (h : RM σ a) (k : K30 σ τ) : RM τ a := h.keep (k.1 31 (by decide))
theorem m_one {T : Nat → Int32} {n : Nat} {a : AT} {b : Nat} {lo hi : Int32} {σ0 σ : Sg} {k : Int32 → Nat → RS} {Q : Sg → Prop} {G : Int32 → Sg → Prop} (hT : ∀ j, j < n → (T j).toInt8.toInt32 = T j) (hc : MT T n a b σ0 σ) (hF : ∀ v τ, ¬ τ 30 5 = 0 → Q τ → G v τ) (hA : ANM T n σ0 Q (one T n a b (inr lo hi) k))
    (h3 : ∀ v e, ¬ inr lo hi v = 0 → ANM T n σ0 Q (k v e) → ∀ τ, MT T n a e σ0 τ → G v τ) : wp_X6_number_ σ lo hi G := by
  obtain ⟨mb, rm, m5, mk⟩ := hc
  have hi' := (tI_p T n b).2 mb.2.2.2.2
  have h400 := mb.1
  unfold one at hA
  refine s_numbr hT mb m5 (fun g g2 τ kτ c e5 e8 => ?_) (fun g v τ kτ e5 => ?_) (fun g g2 v τ kτ e5 => ?_)
  · rw [if_pos g, if_neg g2] at hA
    exact h3 _ _ g2 hA τ ⟨c, rm.k kτ, e5, mk.k kτ⟩
  · rw [if_neg g] at hA
    exact hF v τ (by rw [e5]; exact nI_ne0 (by omega) (by omega)) (hA.1 (by show ¬ 1 + 8 * tI T n b = 0; omega) τ ⟨e5, mk.k kτ⟩)
  · rw [if_pos g, if_pos g2] at hA
    exact hF v τ (by rw [e5]; exact nI_ne0 (by omega) (by omega)) (hA.1 (by show ¬ 2 + 8 * tI T n b = 0; omega) τ ⟨e5, mk.k kτ⟩)
theorem MK.t {σ0 σ τ : Sg} (h : MK σ0 σ) (k : ∀ j, j ≠ 31 → τ j = σ j) : MK σ0 τ := ⟨h.1.tr (fun j hj => k j (by omega)), by rw [k 32 (by decide)]; exact h.2.1, by rw [k 30 (by decide)]; exact h.2.2⟩
theorem MT.t {T : Nat → Int32} {n : Nat} {a a' : AT} {b : Nat} {σ0 σ τ : Sg} (h : MT T n a b σ0 σ) (k : ∀ j, j ≠ 31 → τ j = σ j) (r : RM τ a') : MT T n a' b σ0 τ := by
  obtain ⟨⟨x1, x2, x3, x4, x5⟩, rm, m5, mk⟩ := h
  exact ⟨⟨x1, fun j hj => by rw [k 33 (by decide)]; exact x2 j hj, by rw [k 30 (by decide)]; exact x3, by rw [k 30 (by decide)]; exact x4, x5⟩, r, by rw [k 30 (by decide)]; exact m5, mk.t k⟩
theorem J_placeF {σ : Sg} {Q : Sg → Prop} (h5 : ¬ σ 30 5 = 0) (h : Q σ) : wp_X6_placeTold_18 Q σ := s_numbr_n h5 (s_numbr_n h5 (s_numbr_n h5 (s_numbr_n h5 ⟨fun z => absurd z h5, fun _ => h⟩)))
theorem J_place {T : Nat → Int32} {n : Nat} {a : AT} {b : Nat} {σ0 σ : Sg} {Q : Sg → Prop} (hT : ∀ j, j < n → (T j).toInt8.toInt32 = T j) (h12 : aNR a ≤ 12) (hc : MT T n a b σ0 σ) (hlt : aNP a < 8) (hA : ANM T n σ0 Q (placeS T n a b)) : wp_X6_placeTold_18 Q σ := by
  unfold wp_X6_placeTold_18
  refine m_one hT hc (fun v τ h5 h => s_numbr_n h5 (s_numbr_n h5 (s_numbr_n h5 ⟨fun z => absurd z h5, fun _ => h⟩))) hA (fun v0 e0 f0 hA τ0 c0 => ?_)
  refine m_one hT c0 (fun v τ h5 h => s_numbr_n h5 (s_numbr_n h5 ⟨fun z => absurd z h5, fun _ => h⟩)) hA (fun v1 e1 f1 hA τ1 c1 => ?_)
  refine m_one hT c1 (fun v τ h5 h => s_numbr_n h5 ⟨fun z => absurd z h5, fun _ => h⟩) hA (fun v2 e2 f2 hA τ2 c2 => ?_)
  refine m_one hT c2 (fun v τ h5 h => ⟨fun z => absurd z h5, fun _ => h⟩) hA (fun v3 e3 f3 hA τ3 c3 => ?_)
  refine ⟨fun _ => B_place c3.2.1 h12 f0 f1 f2 f3 hlt (fun υ kυ rυ => hA.2 rfl υ (c3.t kυ rυ)), fun z => absurd c3.2.2.1 z⟩
theorem inr19 {v v3 : Int32} (h : v3 = 0) : inr 1 9 v = 0 ↔ (inr 0 9 v = 0 ∨ (v3 = 0 ∧ v = 0)) := by
  have x0 : (0 : Int32).toInt = 0 := by decide
  have x1 : (1 : Int32).toInt = 1 := by decide
  unfold inr
  by_cases g1 : v < 1
  · rw [if_pos g1]
    refine ⟨fun _ => ?_, fun _ => rfl⟩
    by_cases g0 : v < 0
    · exact Or.inl (by rw [if_pos g0])
    · refine Or.inr ⟨h, ?_⟩
      apply Int32.toInt_inj.mp
      rw [Int32.lt_iff_toInt_lt] at g0 g1
      omega
  · rw [if_neg g1]
    have g0 : ¬ v < 0 := fun z => g1 (by rw [Int32.lt_iff_toInt_lt] at z ⊢; omega)
    rw [if_neg g0]
    refine ⟨fun z => Or.inl z, fun z => ?_⟩
    rcases z with z | ⟨-, z⟩
    · exact z
    · exact absurd (by rw [z]; decide) g1
theorem one_def (T : Nat → Int32) (n : Nat) (a : AT) (b : Nat) (fit : Int32 → Int32) (k : Int32 → Nat → RS) : one T n a b fit k = if tKi T n (tI T n b) = 2 then (if fit (tVi T n (tI T n b)) = 0 then (2 + 8 * tI T n b, a, 0) else k (tVi T n (tI T n b)) (tEi T n (tI T n b))) else (1 + 8 * tI T n b, a, 0) := rfl
theorem J_road {T : Nat → Int32} {n : Nat} {a : AT} {b : Nat} {σ0 σ : Sg} {Q : Sg → Prop} (hT : ∀ j, j < n → (T j).toInt8.toInt32 = T j) (h8 : aNP a ≤ 8) (hc : MT T n a b σ0 σ) (hlt : aNR a < 12) (hA : ANM T n σ0 Q (roadS T n a b)) : wp_X6_roadTold_18 Q σ := by
  have e84 : ∀ x1 x2 x3 x4 y1 τ, ¬ τ 30 5 = 0 → Q τ → wp_X6_roadTold_84 Q x1 x2 x3 x4 y1 τ := fun x1 x2 x3 x4 y1 τ h5 h => s_numbr_n h5 ⟨fun z => absurd z h5, fun _ => h⟩
  have e56 : ∀ x1 x2 τ, ¬ τ 30 5 = 0 → Q τ → wp_X6_roadTold_56 Q x1 x2 τ := fun x1 x2 τ h5 h => s_numbr_n h5 (s_numbr_n h5 ⟨fun _ => e84 _ _ _ _ _ τ h5 h, fun _ => e84 _ _ _ _ _ τ h5 h⟩)
  unfold wp_X6_roadTold_18
  refine s_X6_places ?_
  rw [hc.2.1.1]
  have ip : inr 0 (nI (aNP a) - 1) = inp (nI (aNP a)) := funext (fun x => inr_inp (by omega) x)
  refine m_one hT hc (fun v τ h5 h => s_X6_places (s_numbr_n h5 ⟨fun _ => s_fails1 h5 (e56 _ _ τ h5 h), fun _ => e56 _ _ τ h5 h⟩)) (by rw [ip]; exact hA) (fun v0 e0 f0 hA τ0 c0 => s_X6_places ?_)
  rw [ip] at f0
  rw [c0.2.1.1]
  obtain ⟨mb, rm, m5, mk⟩ := c0
  have hi' := (tI_p T n e0).2 mb.2.2.2.2
  have h400 := mb.1
  rw [one_def] at hA
  refine s_numbr hT mb m5 (fun g g2 τ kτ c e5 e8 => ?_) (fun g v τ kτ e5 => ?_) (fun g g2 v τ kτ e5 => ?_)
  · rw [ip] at g2
    rw [if_pos g] at hA
    refine ⟨fun q => s_fails0 e5 (fun υ eυ => ?_), fun q => ?_⟩
    · have kυ : K30 τ υ := by rw [eυ]; exact K30_p _ _ (by decide)
      have r5 : υ 30 5 = nI (2 + 8 * tI T n e0) := by rw [eυ, put_s, e8]; exact e_8 2 _
      rw [if_pos (show (if inp (nI (aNP a)) (tVi T n (tI T n e0)) = 0 ∨ (tVi T n (tI T n e0)) = v0 then (0 : Int32) else 1) = 0 by rw [if_pos (Or.inr q.symm)])] at hA
      exact e56 _ _ υ (by rw [r5]; exact nI_ne0 (by omega) (by omega)) (hA.1 (by show ¬ 2 + 8 * tI T n e0 = 0; omega) υ ⟨r5, (mk.k kτ).k kυ⟩)
    · have f1 : ¬ (if inp (nI (aNP a)) (tVi T n (tI T n e0)) = 0 ∨ (tVi T n (tI T n e0)) = v0 then (0 : Int32) else 1) = 0 := by rw [if_neg (by rintro (z | z); exact g2 z; exact q z.symm)]; decide
      rw [if_neg f1] at hA
      generalize tVi T n (tI T n e0) = v1 at *
      have c1 : MT T n a (tEi T n (tI T n e0)) σ0 τ := ⟨c, rm.k kτ, e5, mk.k kτ⟩
      unfold wp_X6_roadTold_56
      refine m_one hT c1 (fun v τ h5 h => s_numbr_n h5 ⟨fun _ => e84 _ _ _ _ _ τ h5 h, fun _ => e84 _ _ _ _ _ τ h5 h⟩) hA (fun v2 e2 f2 hA τ2 c2 => ?_)
      refine m_one hT c2 (fun v τ h5 h => ⟨fun _ => e84 _ _ _ _ _ τ h5 h, fun _ => e84 _ _ _ _ _ τ h5 h⟩) hA (fun v3 e3 f3 hA τ3 c3 => ?_)
      have last : ∀ lo : Int32, (∀ v, inr lo 9 v = 0 ↔ (inr 0 9 v = 0 ∨ (v3 = 0 ∧ v = 0))) → wp_X6_roadTold_84 Q v0 v1 v2 v3 lo τ3 := by
        intro lo hlo
        have hA' : ANM T n σ0 Q (one T n a e3 (inr lo 9) fun v4 b4 => (0, (roadA v0 v1 v2 v3 v4 a).2, b4)) := by
          have : one T n a e3 (inr lo 9) (fun v4 b4 => (0, (roadA v0 v1 v2 v3 v4 a).2, b4)) = one T n a e3 (fun v => if inr 0 9 v = 0 ∨ (v3 = 0 ∧ v = 0) then 0 else 1) (fun v4 b4 => (0, (roadA v0 v1 v2 v3 v4 a).2, b4)) := by
            unfold one
            by_cases w : inr 0 9 (tVi T n (tI T n e3)) = 0 ∨ (v3 = 0 ∧ tVi T n (tI T n e3) = 0)
            · simp only [if_pos w, (hlo _).mpr w]
            · have w2 : ¬ inr lo 9 (tVi T n (tI T n e3)) = 0 := fun z => w ((hlo _).mp z)
              have w3 : ¬ ((1 : Int32) = 0) := by decide
              simp only [if_neg w, if_neg w2, if_neg w3]
          rw [this]; exact hA
        refine m_one hT c3 (fun v τ h5 h => ⟨fun z => absurd z h5, fun _ => h⟩) hA' (fun v4 e4 f4 hA τ4 c4 => ?_)
        have w := fun z => f4 ((hlo v4).mpr z)
        exact ⟨fun _ => B_road h8 c4.2.1 ⟨f0, g2, q, f2, f3, fun z => w (Or.inl z), fun z => w (Or.inr z)⟩ hlt (fun υ kυ rυ => hA.2 rfl υ (c4.t kυ rυ)), fun z => absurd c4.2.2.1 z⟩
      refine ⟨fun z => last 1 (fun v => inr19 z), fun z => last 0 (fun v => ⟨fun w => Or.inl w, fun w => ?_⟩)⟩
      rcases w with w | w
      · exact w
      · exact absurd w.1 z
  · rw [if_neg g] at hA
    have n5 : ¬ τ 30 5 = 0 := by rw [e5]; exact nI_ne0 (by omega) (by omega)
    have q := hA.1 (by show ¬ 1 + 8 * tI T n e0 = 0; omega) τ ⟨e5, mk.k kτ⟩
    exact ⟨fun _ => s_fails1 n5 (e56 _ _ τ n5 q), fun _ => e56 _ _ τ n5 q⟩
  · rw [ip] at g2
    rw [if_pos g, if_pos (show (if inp (nI (aNP a)) (tVi T n (tI T n e0)) = 0 ∨ (tVi T n (tI T n e0)) = v0 then (0 : Int32) else 1) = 0 by rw [if_pos (Or.inl g2)])] at hA
    have n5 : ¬ τ 30 5 = 0 := by rw [e5]; exact nI_ne0 (by omega) (by omega)
    have q := hA.1 (by show ¬ 2 + 8 * tI T n e0 = 0; omega) τ ⟨e5, mk.k kτ⟩
    exact ⟨fun _ => s_fails1 n5 (e56 _ _ τ n5 q), fun _ => e56 _ _ τ n5 q⟩
theorem J_roadF {σ : Sg} {Q : Sg → Prop} (h5 : ¬ σ 30 5 = 0) (h : Q σ) : wp_X6_roadTold_18 Q σ := by
  have e84 : ∀ x1 x2 x3 x4 y1, wp_X6_roadTold_84 Q x1 x2 x3 x4 y1 σ := fun x1 x2 x3 x4 y1 => s_numbr_n h5 ⟨fun z => absurd z h5, fun _ => h⟩
  have e56 : ∀ x1 x2, wp_X6_roadTold_56 Q x1 x2 σ := fun x1 x2 => s_numbr_n h5 (s_numbr_n h5 ⟨fun _ => e84 _ _ _ _ _, fun _ => e84 _ _ _ _ _⟩)
  exact s_X6_places (s_numbr_n h5 (s_X6_places (s_numbr_n h5 ⟨fun _ => s_fails1 h5 (e56 _ _), fun _ => e56 _ _⟩)))
theorem J_turn {T : Nat → Int32} {n : Nat} {a : AT} {b : Nat} {σ0 σ : Sg} {Q : Sg → Prop} (hT : ∀ j, j < n → (T j).toInt8.toInt32 = T j) (hO : OKT a) (hc : MT T n a b σ0 σ) (hA : ANM T n σ0 Q (turnS T n a b)) : wp_X6_turnTold σ Q := by
  have h12 := hO.2.1
  have h8 := hO.1
  have e42 : ∀ x1 x2 τ, ¬ τ 30 5 = 0 → Q τ → wp_X6_turnTold_42 Q x1 x2 τ := fun x1 x2 τ h5 h => ⟨fun z => absurd z h5, fun _ => h⟩
  unfold wp_X6_turnTold
  refine s_X6_roads ?_
  rw [hc.2.1.2.1]
  have ip : inr 0 (nI (aNR a) - 1) = inp (nI (aNR a)) := funext (fun x => inr_inp (by omega) x)
  refine m_one hT hc (fun v τ h5 h => s_number_n h5 ⟨fun z => absurd z h5, fun _ => e42 _ _ τ h5 h⟩) (by rw [ip]; exact hA) (fun v0 e0 f0 hA τ0 c0 => ?_)
  rw [ip] at f0
  obtain ⟨mb, rm, m5, mk⟩ := c0
  have hi' := (tI_p T n e0).2 mb.2.2.2.2
  have h400 := mb.1
  rw [one_def] at hA
  refine s_number hT mb m5 (fun g τ kτ c e5 e8 => ⟨fun _ => s_X6_mayTurn (rm.k kτ) h12 (O_b100 hO) ?_, fun z => absurd e5 z⟩) (fun g v τ kτ e5 => ?_)
  · rw [if_pos g] at hA
    generalize tVi T n (tI T n e0) = v1 at *
    by_cases ok : tOK a v0 v1
    · rw [if_pos ok]
      rw [if_neg (show ¬ (if tOK a v0 v1 then (1 : Int32) else 0) = 0 by rw [if_pos ok]; decide)] at hA
      refine ⟨fun z => absurd z (by decide), fun _ => ⟨fun _ => ?_, fun z => absurd e5 z⟩⟩
      have ha : (turnA v0 v1 a).2 = turnRow a v0.toNatClampNeg v1.toInt := by unfold turnA; rw [if_pos ok]
      obtain ⟨q, hq, rfl⟩ := inp_yes (by omega) ok.1
      rw [nI_clamp (n := q) (by omega)] at ha
      have ok3 := ok.2.2.1
      have ok4 := ok.2.2.2
      rw [nI_clamp (n := q) (by omega)] at ok3 ok4
      refine s_X6_turnsRoad (rm.k kτ) h8 h12 hq (O_b100 hO q hq) (by omega) (by omega) (fun ω kω rω => ?_)
      rw [← ha] at rω
      have c1 : MT T n a (tEi T n (tI T n e0)) σ0 τ := ⟨c, rm.k kτ, e5, mk.k kτ⟩
      exact hA.2 rfl ω (c1.t kω rω)
    · rw [if_neg ok]
      rw [if_pos (show (if tOK a v0 v1 then (1 : Int32) else 0) = 0 by rw [if_neg ok])] at hA
      refine ⟨fun _ => s_fails0 e5 (fun υ eυ => ?_), fun z => absurd rfl z⟩
      have kυ : K30 τ υ := by rw [eυ]; exact K30_p _ _ (by decide)
      have r5 : υ 30 5 = nI (2 + 8 * tI T n e0) := by rw [eυ, put_s, e8]; exact e_8 2 _
      exact e42 _ _ υ (by rw [r5]; exact nI_ne0 (by omega) (by omega)) (hA.1 (by show ¬ 2 + 8 * tI T n e0 = 0; omega) υ ⟨r5, (mk.k kτ).k kυ⟩)
  · rw [if_neg g] at hA
    have n5 : ¬ τ 30 5 = 0 := by rw [e5]; exact nI_ne0 (by omega) (by omega)
    exact ⟨fun z => absurd z n5, fun _ => e42 _ _ τ n5 (hA.1 (by show ¬ 1 + 8 * tI T n e0 = 0; omega) τ ⟨e5, mk.k kτ⟩)⟩
theorem isW_E {T : Nat → Int32} {n i w : Nat} (h : isW T n i w) : sc (cL T n) n i = tEi T n i := by
  have h1 := h.1
  unfold tKi at h1
  unfold tEi
  by_cases g : n ≤ i
  · rw [if_pos g] at h1; omega
  · rw [if_neg g] at h1 ⊢
    cases hL : cL T n i
    · rw [if_neg (by rw [hL]; decide)] at h1
      split at h1
      · split at h1 <;> omega
      · omega
    · rw [if_pos rfl]
theorem J_move {T : Nat → Int32} {n : Nat} {a : AT} {b : Nat} {σ0 σ : Sg} {Q : Sg → Prop} (hT : ∀ j, j < n → (T j).toInt8.toInt32 = T j) (hO : OKT a) (hc : MT T n a b σ0 σ) (hlt : aNM a < 40) (hA : ANM T n σ0 Q (moveS T n a b)) : wp_X6_moveTold_18 Q σ := by
  have h12 := hO.2.1
  have h8 := hO.1
  unfold wp_X6_moveTold_18
  refine m_one hT hc (fun v τ h5 h => s_X6_roads (s_numbr_n h5 ⟨fun z => absurd z h5, fun _ => h⟩)) hA (fun v0 e0 f0 hA τ0 c0 => s_X6_roads ?_)
  rw [c0.2.1.2.1]
  have ip : inr 0 (nI (aNR a) - 1) = inp (nI (aNR a)) := funext (fun x => inr_inp (by omega) x)
  refine m_one hT c0 (fun v τ h5 h => ⟨fun z => absurd z h5, fun _ => h⟩) (by rw [ip]; exact hA) (fun v1 e1 f1 hA τ1 c1 => ⟨fun _ => s_word c1.1 ?_, fun z => absurd c1.2.2.1 z⟩)
  rw [ip] at f1
  obtain ⟨mb, rm, m5, mk⟩ := c1
  have hi' := (tI_p T n e1).2 mb.2.2.2.2
  have h400 := mb.1
  intro τ2 k2 c2 e5 e8
  rw [m5] at e5
  have h105 : ∀ (x y : Int32) e, y = nI (b01 x) → MT T n a e σ0 τ2 → ANM T n σ0 Q (one T n a e (inr 1 60) fun v3 b3 => (0, (moveA v0 v1 x v3 a).2, b3)) → wp_X6_moveTold_105 Q v0 v1 y τ2 := by
    intro x y e hy c hA
    refine m_one hT c (fun v τ h5 h => ⟨fun z => absurd z h5, fun _ => h⟩) hA (fun v3 e3 f3 hA τ3 c3 => ?_)
    exact ⟨fun _ => B_move h8 h12 c3.2.1 ⟨f0, f1, f3⟩ hlt hy (fun υ kυ rυ => hA.2 rfl υ (c3.t kυ rυ)), fun z => absurd c3.2.2.1 z⟩
  have w4 := word_eq (T := T) (w := 4) hi' (by decide)
  have w5 := word_eq (T := T) (w := 5) hi' (by decide)
  have d4 : nI (cdW.getD 4 0) = (((((0 : Int32) * 32 + 2) * 32 + 1) * 32 + 3) * 32 + 11) := by decide
  have d5 : nI (cdW.getD 5 0) = (((((20 : Int32) * 32 + 8) * 32 + 5) * 32 + 18) * 32 + 5) := by decide
  rw [d4] at w4
  rw [d5] at w5
  have no45 : isW T n (tI T n e1) 5 → ¬ isW T n (tI T n e1) 4 := fun x y => by
    have q1 := x.2.1
    have q2 := y.2.1
    rw [q1] at q2
    exact absurd q2 (by decide)
  refine ⟨fun g => ?_, fun g => ⟨fun g2 => ?_, fun g2 => ?_⟩⟩
  · have g' := w5.mp g
    rw [if_neg (no45 g'), if_pos g'] at hA
    rw [isW_E g'] at c2
    exact ⟨fun z => absurd z (by decide), fun _ => h105 0 0 _ rfl ⟨c2, rm.k k2, e5, mk.k k2⟩ hA⟩
  · have g' := w4.mp g2
    rw [if_pos g'] at hA
    rw [isW_E g'] at c2
    exact ⟨fun z => absurd z (by decide), fun _ => h105 1 1 _ rfl ⟨c2, rm.k k2, e5, mk.k k2⟩ hA⟩
  · rw [if_neg (fun z => g2 (w4.mpr z)), if_neg (fun z => g (w5.mpr z))] at hA
    refine ⟨fun _ => s_fails0 e5 (fun υ eυ => ?_), fun z => absurd rfl z⟩
    have kυ : K30 τ2 υ := by rw [eυ]; exact K30_p _ _ (by decide)
    have r5 : υ 30 5 = nI (1 + 8 * tI T n e1) := by rw [eυ, put_s, e8]; exact e_8 1 _
    have n5 : ¬ υ 30 5 = 0 := by rw [r5]; exact nI_ne0 (by omega) (by omega)
    exact s_numbr_n n5 ⟨fun z => absurd z n5, fun _ => hA.1 (by show ¬ 1 + 8 * tI T n e1 = 0; omega) υ ⟨r5, (mk.k k2).k kυ⟩⟩
