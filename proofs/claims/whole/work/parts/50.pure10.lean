/-! drop -/
def kc (M : Nat → Nat → Nat) (r : Nat) : Nat → Nat
  | 0 => 0
  | i + 1 => if M i 1 = r then kc M r i else kc M r i + 1
def km (M : Nat → Nat → Nat) (r : Nat) : Nat → Nat → Nat → Nat
  | 0 => M
  | i + 1 => if M i 1 = r then km M r i else fun k w => if k = kc M r i then M i w else km M r i k w
theorem kc_le (M : Nat → Nat → Nat) (r i : Nat) : kc M r i ≤ i := by
  induction i with
  | zero => exact Nat.le_refl _
  | succ i ih => rw [kc]; split <;> omega
theorem km_ge (M : Nat → Nat → Nat) (r i j : Nat) (h : kc M r i ≤ j) : km M r i j = M j := by
  induction i with
  | zero => rfl
  | succ i ih =>
    rw [km]
    rw [kc] at h
    split
    · rename_i e; rw [if_pos e] at h; exact ih h
    · rename_i e; rw [if_neg e] at h; funext w; show (if j = kc M r i then _ else _) = _; rw [if_neg (by omega), ih (by omega)]
theorem km_lt (M : Nat → Nat → Nat) (r i j : Nat) (h : j < kc M r i) : ∃ q, q < i ∧ km M r i j = M q ∧ M q 1 ≠ r := by
  induction i with
  | zero => rw [kc] at h; omega
  | succ i ih =>
    rw [km]
    rw [kc] at h
    split
    · rename_i e; rw [if_pos e] at h; obtain ⟨q, h1, h2, h3⟩ := ih h; exact ⟨q, by omega, h2, h3⟩
    · rename_i e
      rw [if_neg e] at h
      by_cases hj : j = kc M r i
      · exact ⟨i, by omega, by funext w; show (if j = kc M r i then _ else _) = _; rw [if_pos hj], e⟩
      · obtain ⟨q, h1, h2, h3⟩ := ih (by omega)
        exact ⟨q, by omega, by funext w; show (if j = kc M r i then _ else _) = _; rw [if_neg hj, h2], h3⟩
def gd (M : Nat → Nat → Nat) (r n : Nat) : Nat → Nat → Nat → Nat
  | 0 => M
  | d + 1 => if M (n - 1 - d) 1 = r then (fun j w => if j < n - 1 - d then gd M r n d j w else gd M r n d (j + 1) w) else gd M r n d
def gc (M : Nat → Nat → Nat) (r n : Nat) : Nat → Nat
  | 0 => n
  | d + 1 => if M (n - 1 - d) 1 = r then gc M r n d - 1 else gc M r n d
theorem gd_lo (M : Nat → Nat → Nat) (r n d j : Nat) (h : j < n - d) : gd M r n d j = M j := by
  induction d with
  | zero => rfl
  | succ d ih =>
    rw [gd]
    split
    · funext w; show (if j < n - 1 - d then _ else _) = _; rw [if_pos (by omega), ih (by omega)]
    · exact ih (by omega)
theorem gc_eq (M : Nat → Nat → Nat) (r n d : Nat) (h : d ≤ n) : gc M r n d + kc M r (n - d) = n - d + kc M r n ∧ n - d ≤ gc M r n d := by
  induction d with
  | zero => exact ⟨rfl, Nat.le_refl _⟩
  | succ d ih =>
    obtain ⟨h1, h2⟩ := ih (by omega)
    rw [gc]
    rw [show n - d = n - 1 - d + 1 by omega, kc] at h1
    rw [show n - (d + 1) = n - 1 - d by omega]
    split
    · rename_i e; rw [if_pos e] at h1; omega
    · rename_i e; rw [if_neg e] at h1; omega
theorem gd_km (M : Nat → Nat → Nat) (r n d j w : Nat) (h : d ≤ n) : (if j < kc M r (n - d) then km M r (n - d) j w else gd M r n d (j - kc M r (n - d) + (n - d)) w) = if j < kc M r n then km M r n j w else gd M r n 0 (j - kc M r n + n) w := by
  induction d with
  | zero => rfl
  | succ d ih =>
    rw [← ih (by omega)]
    have e0 : n - d = n - 1 - d + 1 := by omega
    rw [e0, kc, km, show n - (d + 1) = n - 1 - d by omega, gd]
    generalize n - 1 - d = k at *
    by_cases e : M k 1 = r
    · simp only [if_pos e]
      by_cases hj : j < kc M r k
      · rw [if_pos hj, if_pos hj]
      · rw [if_neg hj, if_neg hj, if_neg (by omega)]; congr 1
    · simp only [if_neg e]
      by_cases hj : j < kc M r k
      · rw [if_pos hj, if_pos (by omega), if_neg (by omega)]
      · rw [if_neg hj]
        by_cases hk : j = kc M r k
        · subst hk
          rw [if_pos (by omega), if_pos rfl, show kc M r k - kc M r k + k = k by omega, gd_lo M r n d k (by omega)]
        · rw [if_neg (by omega), show j - (kc M r k + 1) + (k + 1) = j - kc M r k + k by omega]
theorem gd_end (M : Nat → Nat → Nat) (r n j : Nat) (h : j < kc M r n) : gd M r n n j = km M r n j := by
  funext w
  have := gd_km M r n n j w (Nat.le_refl _)
  rw [Nat.sub_self, kc, if_neg (by omega), if_pos h] at this
  rw [← this]
  rfl
def dropA (a : AT) : Int32 × AT := if aNR a = 0 then (-1, a) else (nI (aNR a - 1), ((aNP a, aNR a - 1, kc (aM a) (aNR a - 1) (aNM a)), aP a, aR a, km (aM a) (aNR a - 1) (aNM a)))
theorem O_drop : ∀ a, OKT a → OKT (dropA a).2 := by
  intro a hO
  unfold dropA
  split
  · exact hO
  · obtain ⟨o1, o2, o3, o4, o5, o6⟩ := hO
    refine ⟨o1, show aNR a - 1 ≤ 12 by omega, Nat.le_trans (kc_le _ _ _) o3, o4, fun r hr => o5 r (Nat.lt_of_lt_of_le hr (Nat.sub_le _ _)), ?_⟩
    intro k hk
    obtain ⟨q, h1, h2, h3⟩ := km_lt _ _ _ k hk
    have h4 := o6 q h1
    show km (aM a) (aNR a - 1) (aNM a) k 0 ≤ 40 ∧ km (aM a) (aNR a - 1) (aNM a) k 1 < aNR a - 1 ∧ km (aM a) (aNR a - 1) (aNM a) k 2 ≤ 1 ∧ 1 ≤ km (aM a) (aNR a - 1) (aNM a) k 3 ∧ km (aM a) (aNR a - 1) (aNM a) k 3 ≤ 60
    rw [h2]
    omega
theorem s_X1_forget {σ : Sg} {n r : Nat} {M : Nat → Nat → Nat} {Q : Sg → Prop} (hn : n ≤ 40) (hr : r < 1000) (h0 : σ 2 0 = nI n) (hM : ∀ k, k < n → ∀ w, w < 4 → σ 13 (4 * k + w) = nI (M k w)) (hb : ∀ k, k < n → M k 1 < 1000)
    (h : ∀ τ : Sg, (∀ k, k ≠ 2 → k ≠ 13 → τ k = σ k) → τ 2 0 = nI (kc M r n) → (∀ k, k < n → ∀ w, w < 4 → τ 13 (4 * k + w) = nI (km M r n k w)) → Q τ) : wp_X1_forgetRoad σ (nI r) Q := by
  have key : ∀ d i, i + d = n → ∀ τ : Sg, (∀ k, k ≠ 13 → τ k = σ k) → (∀ k, k < n → ∀ w, w < 4 → τ 13 (4 * k + w) = nI (km M r i k w)) → wp_X1_forgetRoad_4 Q (d + 1) (nI r) (nI (kc M r i)) (nI i) τ := by
    intro d
    induction d with
    | zero =>
      intro i hi τ f1 f2
      rw [wp_X1_forgetRoad_4, f1 2 (by decide), h0]
      have : i = n := by omega
      subst this
      refine ⟨fun _ υ e => h υ (fun k k2 k13 => by rw [e, put_o k2, f1 k k13]) (by rw [e, put_s]) (fun k hk w hw => by rw [e, put_o (by decide)]; exact f2 k hk w hw), fun z => absurd (nI_le (Nat.le_refl _) (by omega)) z⟩
    | succ d ih =>
      intro i hi τ f1 f2
      rw [wp_X1_forgetRoad_4, f1 2 (by decide), h0]
      refine ⟨fun z => absurd z (nI_ge (by omega) (by omega)), fun _ => s_X1_part (w := 1) (by omega) (by decide) ?_⟩
      have hci := kc_le M r i
      rw [f2 i (by omega) 1 (by decide), km_ge M r i i hci]
      have hb' := hb i (by omega)
      refine ⟨fun e => ?_, fun e => ?_⟩
      · rw [nI_eq (by omega) (by omega)] at e
        intro x3 e3
        rw [nI_1] at e3
        subst e3
        have := ih (i + 1) (by omega) τ f1
        rw [kc, if_pos e, km, if_pos e] at this
        exact this f2
      · rw [nI_eq (by omega) (by omega)] at e
        rw [e_4, e_4]
        refine ⟨⟨nI_pos (by omega), nI_pos (by omega), by decide, ?_, ?_⟩, ?_⟩
        · rw [nI_clamp (by omega)]; show 4 * i + 4 ≤ 160; omega
        · rw [nI_clamp (by omega)]; show 4 * kc M r i + 4 ≤ 160; omega
        · rw [nI_clamp (n := 4 * i) (by omega), nI_clamp (n := 4 * kc M r i) (by omega)]
          intro υ eυ x2 e2 x3 e3
          rw [nI_1] at e2 e3
          subst e2 e3
          have := ih (i + 1) (by omega) υ (fun k hk => by rw [eυ, setA_o hk, f1 k hk])
          rw [kc, if_neg e, km, if_neg e] at this
          refine this (fun k hk w hw => ?_)
          rw [eυ, setA_k]
          show va_cpy (τ 13) (τ 13) (4 * i) (4 * kc M r i) 4 (4 * k + w) = nI (if k = kc M r i then M i w else km M r i k w)
          by_cases hk2 : k = kc M r i
          · subst hk2
            rw [if_pos rfl, pk_cpy_in (by omega) (by omega), show 4 * i + (4 * kc M r i + w - 4 * kc M r i) = 4 * i + w by omega, f2 i (by omega) w hw, km_ge M r i i hci]
          · rw [if_neg hk2, pk_cpy_out (by omega), f2 k hk w hw]
  exact ⟨n + 1, key n 0 (by omega) σ (fun _ _ => rfl) hM⟩
theorem C_drop : ∀ a, OKT a → ∀ τ, RC τ a → ∀ Q : Int32 → Sg → Prop, (∀ υ, FC τ υ → TC τ υ → RC υ (dropA a).2 → Q (dropA a).1 υ) → wp_X5_drop τ Q := by
  intro a hO τ hC Q h
  unfold wp_X5_drop
  unfold dropA at h
  obtain ⟨o1, o2, o3, o4, o5, o6⟩ := hO
  rw [hC.2.1]
  refine pk_eq (aNR a) 0 (fun hz => ?_) (fun hz => ?_) rfl rfl (by omega) (by omega)
  · rw [if_pos hz] at h; exact h τ (FC.rf τ) (TC.rf τ) hC
  · rw [if_neg hz] at h
    intro σ2 e2
    rw [show nI (aNR a) - 1 = nI (aNR a - 1) from pk_sub (b := 1) (by omega)] at e2
    have r1 : σ2 1 1 = nI (aNR a - 1) := by rw [e2, put_s]
    rw [r1]
    obtain ⟨c1, c2, c3, c4, c5, c6⟩ := hC
    refine s_X1_forget (n := aNM a) (M := aM a) o3 (by omega) (by rw [e2, put_o (by decide)]; exact c3) (fun k hk w hw => by rw [e2, put_o (by decide)]; exact c6 k hk w hw) (fun k hk => by have := o6 k hk; omega) (fun υ f1 f2 f3 => ?_)
    have g : ∀ k, k ≠ 1 → k ≠ 2 → k ≠ 13 → υ k = τ k := fun k k1 k2 k13 => by rw [f1 k k2 k13, e2, put_o k1]
    have r2 : υ 1 1 = nI (aNR a - 1) := by rw [f1 1 (by decide) (by decide), r1]
    rw [r2]
    refine h υ (fun k hk => g k (by omega) (by omega) (by omega)) ⟨by rw [g 3 (by decide) (by decide) (by decide)], by rw [g 3 (by decide) (by decide) (by decide)], g 16 (by decide) (by decide) (by decide)⟩ ?_
    refine ⟨?_, r2, f2, fun p hp w hw => by rw [g 9 (by decide) (by decide) (by decide)]; exact c4 p hp w hw, fun q hq => ?_, fun k hk w hw => f3 k (Nat.lt_of_lt_of_le hk (kc_le _ _ _)) w hw⟩
    · rw [f1 1 (by decide) (by decide), e2, put_n (by decide)]; exact c1
    · rw [g 6 (by decide) (by decide) (by decide), g 7 (by decide) (by decide) (by decide), g 8 (by decide) (by decide) (by decide)]; exact c5 q (Nat.lt_of_lt_of_le hq (Nat.sub_le _ _))
theorem s_X6_moveGoes {σ : Sg} {k c : Nat} {Q : Sg → Prop} (hk : k < c) (hc : c ≤ 40) (h0 : σ 31 2 = nI c)
    (h : ∀ τ : Sg, (∀ b, b ≠ 31 → τ b = σ b) → τ 31 2 = nI (c - 1) → (∀ i, i < 95 → i ≠ 2 → τ 31 i = σ 31 i) → (∀ i, 95 ≤ i → i < 95 + 4 * (c - 1) → τ 31 i = if i < 95 + 4 * k then σ 31 i else σ 31 (i + 4)) → Q τ) : wp_X6_moveGoes σ (nI k) Q := by
  intro x ex
  have ex : x = nI (95 + 4 * k) := by rw [ex]; exact e_k0 k
  subst ex
  have key : ∀ d i, i + d = 95 + 4 * (c - 1) → 95 + 4 * k ≤ i → ∀ τ : Sg, (∀ b, b ≠ 31 → τ b = σ b) → (∀ j, τ 31 j = if 95 + 4 * k ≤ j ∧ j < i then σ 31 (j + 4) else σ 31 j) → wp_X6_moveGoes_7 Q (d + 1) (nI i) τ := by
    intro d
    induction d with
    | zero =>
      intro i hi hik τ f1 f2
      rw [wp_X6_moveGoes_7]
      refine s_X6_moves ?_
      have r2 : τ 31 2 = nI c := by rw [f2, if_neg (by omega), h0]
      rw [r2, show (95 : Int32) + 4 * (nI c - 1) = nI (95 + 4 * (c - 1)) by rw [show nI c - 1 = nI (c - 1) from pk_sub (b := 1) (by omega)]; exact e_k0 _]
      refine ⟨fun _ => ⟨by unfold vp_in; decide, by unfold vp_in; decide, fun υ e => ?_⟩, fun z => absurd (nI_le (by omega) (by omega)) z⟩
      have e : υ = put τ 31 2 (τ 31 2 - 1) := e
      rw [r2, show nI c - 1 = nI (c - 1) from pk_sub (b := 1) (by omega)] at e
      refine h υ (fun b hb => by rw [e, put_o hb, f1 b hb]) (by rw [e, put_s]) (fun j j1 j2 => by rw [e, put_n j2, f2, if_neg (by omega)]) (fun j j1 j2 => ?_)
      rw [e, put_n (by omega), f2]
      by_cases hj : j < 95 + 4 * k
      · rw [if_neg (by omega), if_pos hj]
      · rw [if_pos (by omega), if_neg hj]
    | succ d ih =>
      intro i hi hik τ f1 f2
      rw [wp_X6_moveGoes_7]
      refine s_X6_moves ?_
      have r2 : τ 31 2 = nI c := by rw [f2, if_neg (by omega), h0]
      rw [r2, show (95 : Int32) + 4 * (nI c - 1) = nI (95 + 4 * (c - 1)) by rw [show nI c - 1 = nI (c - 1) from pk_sub (b := 1) (by omega)]; exact e_k0 _]
      have e4 : nI i + 4 = nI (i + 4) := nI_add i 4
      refine ⟨fun z => absurd z (nI_ge (by omega) (by omega)), fun _ => ⟨inn e4 (by omega) (by decide), vp_in_nI (by omega) (by decide), ?_⟩⟩
      rw [ixn e4 (by omega), nI_clamp (n := i) (by omega)]
      intro υ e x3 e3
      rw [nI_1] at e3
      subst e3
      refine ih (i + 1) (by omega) (by omega) υ (fun b hb => by rw [e, put_o hb, f1 b hb]) (fun j => ?_)
      rw [e, put_at]
      by_cases hj : j = i
      · subst hj
        rw [if_pos ⟨rfl, rfl⟩, if_pos (by omega), f2, if_neg (by omega)]
      · rw [if_neg (by omega), f2]
        by_cases hj2 : 95 + 4 * k ≤ j ∧ j < i
        · rw [if_pos hj2, if_pos (by omega)]
        · rw [if_neg hj2, if_neg (by omega)]
  exact ⟨_, key (95 + 4 * (c - 1) - (95 + 4 * k)) (95 + 4 * k) (by omega) (Nat.le_refl _) σ (fun _ _ => rfl) (fun j => by rw [if_neg (by omega)])⟩
theorem m1_sub (x : Int32) : x + (-1) = x - 1 := by rw [Int32.sub_eq_add_neg]
theorem M_drop : ∀ a, OKT a → ∀ τ, RM τ a → ∀ Q : Int32 → Sg → Prop, (∀ υ, FM τ υ → TM τ υ → RM υ (dropA a).2 → Q (dropA a).1 υ) → wp_X6_drop τ Q := by
  intro a hO τ0 hM0 Q h
  unfold wp_X6_drop
  intro τ e0
  have f0 : FM τ0 τ := by rw [e0]; exact FM_p τ0 (by decide)
  have t0 : TM τ0 τ := by rw [e0]; exact TM_t τ0 _
  have hM : RM τ a := hM0.keep (by rw [e0]; exact put_o (by decide))
  unfold dropA at h
  obtain ⟨o1, o2, o3, o4, o5, o6⟩ := hO
  refine s_X6_roads ?_
  rw [hM.2.1]
  refine pk_eq (aNR a) 0 (fun hz => ?_) (fun hz => ?_) rfl rfl (by omega) (by omega)
  · rw [if_pos hz] at h; exact h τ f0 t0 hM
  · rw [if_neg hz] at h
    refine ⟨by unfold vp_in; decide, by unfold vp_in; decide, fun σ5 e5 => s_X6_moves ?_⟩
    have e5 : σ5 = put τ 31 1 (τ 31 1 - 1) := e5
    obtain ⟨c1, c2, c3, c4, c5, c6⟩ := hM
    rw [c2, show nI (aNR a) - 1 = nI (aNR a - 1) from pk_sub (b := 1) (by omega)] at e5
    have r1 : σ5 31 1 = nI (aNR a - 1) := by rw [e5, put_s]
    have r2 : σ5 31 2 = nI (aNM a) := by rw [e5, put_n (by decide)]; exact c3
    rw [r2]
    generalize hr : aNR a - 1 = r at *
    have key : ∀ k d, k + d = aNM a → ∀ υ : Sg, (∀ b, b ≠ 31 → υ b = τ b) → (∀ i, i < 95 → i ≠ 2 → υ 31 i = σ5 31 i) → υ 31 2 = nI (gc (aM a) r (aNM a) d) → (∀ j, j < gc (aM a) r (aNM a) d → ∀ w, w < 4 → υ 31 (95 + 4 * j + w) = nI (gd (aM a) r (aNM a) d j w)) → wp_X6_drop_31 Q (k + 1) (nI k - 1) υ := by
      intro k
      induction k with
      | zero =>
        intro d hd υ f1 f2 f3 f4
        rw [wp_X6_drop_31]
        refine ⟨fun _ => s_X6_roads ?_, fun z => absurd (by decide) z⟩
        rw [f2 1 (by decide) (by decide), r1]
        have hd' : d = aNM a := by omega
        subst hd'
        have hg := gc_eq (aM a) r (aNM a) (aNM a) (Nat.le_refl _)
        rw [Nat.sub_self, kc] at hg
        have hg1 : gc (aM a) r (aNM a) (aNM a) = kc (aM a) r (aNM a) := by omega
        rw [hg1] at f3 f4
        refine h υ (f0.tr (fun b hb => f1 b (by omega))) (t0.tr ⟨by rw [f1 30 (by decide)], by rw [f1 30 (by decide)], f1 33 (by decide)⟩) ?_
        refine ⟨?_, ?_, f3, ?_, ?_, ?_⟩
        · rw [f2 0 (by decide) (by decide), e5, put_n (by decide)]; exact c1
        · rw [f2 1 (by decide) (by decide)]; exact r1
        · intro p hp w hw
          have hp : p < aNP a := hp
          rw [f2 _ (by omega) (by omega), e5, put_n (by omega)]; exact c4 p hp w hw
        · intro q hq w hw
          have hq : q < r := hq
          rw [f2 _ (by omega) (by omega), e5, put_n (by omega)]; exact c5 q (by omega) w hw
        · intro j hj w hw
          have hj : j < kc (aM a) r (aNM a) := hj
          rw [f4 j hj w hw, gd_end _ _ _ _ hj]
          rfl
      | succ k ih =>
        intro d hd υ f1 f2 f3 f4
        rw [wp_X6_drop_31, nI_pred]
        obtain ⟨g1, g2⟩ := gc_eq (aM a) r (aNM a) d (by omega)
        have g3 := kc_le (aM a) r (aNM a)
        have g4 : gc (aM a) r (aNM a) d ≤ 40 := by
          clear ih f1 f2 f3 f4
          have : ∀ d, gc (aM a) r (aNM a) d ≤ aNM a := by
            intro d
            induction d with
            | zero => exact Nat.le_refl _
            | succ d ih => rw [gc]; split <;> omega
          exact Nat.le_trans (this d) o3
        refine ⟨fun z => absurd z (nI_pos (by omega)), fun _ => s_X6_ofMove (w := 1) (by omega) (by decide) (s_X6_roads ?_)⟩
        rw [f4 k (by omega) 1 (by decide), gd_lo _ _ _ _ _ (by omega), f2 1 (by decide) (by decide), r1]
        have hb := o6 k (by omega)
        have ek : aNM a - 1 - d = k := by omega
        refine pk_eq (aM a k 1) r (fun e => ?_) (fun e => ?_) rfl rfl (by omega) (by omega)
        · refine s_X6_moveGoes (c := gc (aM a) r (aNM a) d) (by omega) g4 f3 (fun υ2 u1 u2 u3 u4 => ?_)
          intro x ex
          have ex : x = nI k - 1 := by rw [ex, m1_sub]
          subst ex
          refine ih (d + 1) (by omega) υ2 (fun b hb => by rw [u1 b hb, f1 b hb]) (fun i i1 i2 => by rw [u3 i i1 i2, f2 i i1 i2]) ?_ ?_
          · rw [u2, gc, ek, if_pos e]
          · intro j hj w hw
            rw [gc, ek, if_pos e] at hj
            rw [u4 _ (by omega) (by omega), gd, ek, if_pos e]
            by_cases hjk : j < k
            · rw [if_pos (by omega), if_pos hjk]
              exact f4 j (by omega) w hw
            · rw [if_neg (by omega), if_neg hjk, show 95 + 4 * j + w + 4 = 95 + 4 * (j + 1) + w by omega]
              exact f4 (j + 1) (by omega) w hw
        · intro x ex
          have ex : x = nI k - 1 := by rw [ex, m1_sub]
          subst ex
          refine ih (d + 1) (by omega) υ f1 f2 ?_ ?_
          · rw [f3, gc, ek, if_neg e]
          · intro j hj w hw
            rw [gc, ek, if_neg e] at hj
            rw [gd, ek, if_neg e]
            exact f4 j hj w hw
    intro x ex
    subst ex
    exact ⟨_, key (aNM a) 0 (by omega) σ5 (fun b hb => by rw [e5, put_o hb]) (fun _ _ _ => rfl) r2 (fun j hj w hw => by rw [e5, put_n (by omega)]; exact c6 j hj w hw)⟩
theorem L_drop {σ : Sg} (hI : INV σ) {K : Sg → Prop} (hK : ∀ τ, INV τ → K τ) {C : Int32 → Sg → Prop} (hw : ∀ r1 σ1, wp_X6_drop σ1 (fun r2 σ2 => (r1 = r2 → K σ2) ∧ (¬ (r1 = r2) → False)) → C r1 σ1) : wp_X5_drop σ C :=
  L_gen hI (wpC := fun τ Q => wp_X5_drop τ Q) (wpM := fun τ Q => wp_X6_drop τ Q) dropA C_drop M_drop O_drop hK hw
