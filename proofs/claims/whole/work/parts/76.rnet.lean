/-! the reference's net -/
def RN (a : AT) (σ : Sg) (E : Nat) (cap : (Nat → Nat → Int) → Int) (fl : (Nat → Int) → Int) : Prop :=
  (GG (σ 34) (σ 35) (σ 36) (σ 37) E ∧ σ 30 16 = nI (2 * E)) ∧ RM σ a ∧ (∀ g, Cp E (ltf (σ 36)) (spf (σ 37)) g = cap g) ∧ (∀ χ, Fl E (ltf (σ 36)) (spf (σ 37)) χ = fl χ)
/-- what the reference's flows leave -/
def LF (σ τ : Sg) : Prop := (∀ k, k ≠ 30 → (k < 34 ∨ 40 < k) → τ k = σ k) ∧ (∀ j, j ≠ 16 → τ 30 j = σ 30 j)
theorem LF.rf (σ : Sg) : LF σ σ := ⟨fun _ _ _ => rfl, fun _ _ => rfl⟩
theorem LF.tr {σ τ υ : Sg} (h : LF σ τ) (g : LF τ υ) : LF σ υ := ⟨fun k h1 h2 => (g.1 k h1 h2).trans (h.1 k h1 h2), fun j hj => (g.2 j hj).trans (h.2 j hj)⟩
theorem LF.rm {σ τ : Sg} {a : AT} (h : LF σ τ) (hM : RM σ a) : RM τ a := hM.keep (h.1 31 (by decide) (by decide))
theorem LF.fm {σ τ : Sg} (h : LF σ τ) : FM σ τ := fun k hk => h.1 k (by omega) (by omega)
theorem LF.tm {σ τ : Sg} (h : LF σ τ) : TM σ τ := ⟨h.2 4 (by decide), h.2 5 (by decide), h.1 33 (by decide) (by decide)⟩
theorem RN.cap {a : AT} {σ : Sg} {E : Nat} {cap cap' : (Nat → Nat → Int) → Int} {fl : (Nat → Int) → Int} (h : RN a σ E cap fl) (e : ∀ g, cap g = cap' g) : RN a σ E cap' fl := ⟨h.1, h.2.1, fun g => by rw [h.2.2.1, e], h.2.2.2⟩
theorem s_joins {a : AT} {σ : Sg} {E u w c : Nat} {cap : (Nat → Nat → Int) → Int} {fl : (Nat → Int) → Int} {Q : Sg → Prop} (hN : RN a σ E cap fl) (hE : E < 1984) (hu : u < 346) (hw : w < 346) (hc : c ≤ 1000000)
    (h : ∀ (τ : Sg) (E' : Nat), LF σ τ → E' ≤ E + 1 → RN a τ E' (fun g => cap g + c * g u w) fl → Q τ) : wp_X6_joins σ (nI u) (nI w) (nI c) Q := by
  unfold wp_X6_joins
  obtain ⟨⟨g1, g2⟩, g3, g4, g5⟩ := hN
  refine pk_eq c 0 (fun h0 => ?_) (fun h0 => ?_) rfl rfl (by omega) (by omega)
  · subst h0
    refine h σ E (LF.rf σ) (by omega) ⟨⟨g1, g2⟩, g3, fun g => ?_, g5⟩
    rw [g4]; simp
  · have vk : vp_in (nI (2 * E)) 4000 := vp_in_nI (by omega) (by decide)
    have vk1 : vp_in (nI (2 * E + 1)) 4000 := vp_in_nI (by omega) (by decide)
    have vu : vp_in (nI u) 346 := vp_in_nI hu (by decide)
    have vw : vp_in (nI w) 346 := vp_in_nI hw (by decide)
    have ck : (nI (2 * E)).toNatClampNeg = 2 * E := nI_clamp (by omega)
    have ck1 : (nI (2 * E + 1)).toNatClampNeg = 2 * E + 1 := nI_clamp (by omega)
    have cu : (nI u).toNatClampNeg = u := nI_clamp (by omega)
    have cw : (nI w).toNatClampNeg = w := nI_clamp (by omega)
    rw [g2, ck, cu, cw]
    refine ⟨vk, fun σ2 e2 => ?_⟩
    have k2 : σ2 30 16 = nI (2 * E) := by rw [e2, put_o (by decide), g2]
    rw [k2, ck]
    refine ⟨vk, fun σ3 e3 => ?_⟩
    have k3 : σ3 30 16 = nI (2 * E) := by rw [e3, put_o (by decide), k2]
    have f3 : σ3 34 u = σ 34 u := by rw [e3, put_o (by decide), e2, put_o (by decide)]
    rw [k3, ck, f3]
    refine ⟨vu, vk, fun σ4 e4 => ⟨vu, fun σ5 e5 σ6 e6 => ?_⟩⟩
    have k4 : σ4 30 16 = nI (2 * E) := by rw [e4, put_o (by decide), k3]
    rw [k4] at e5
    have k5 : σ5 30 16 = nI (2 * E) := by rw [e5, put_o (by decide), k4]
    rw [k5, nI_1] at e6
    have k6 : σ6 30 16 = nI (2 * E + 1) := by rw [e6, put_s]
    rw [k6, ck1]
    refine ⟨vk1, fun σ7 e7 => ?_⟩
    have k7 : σ7 30 16 = nI (2 * E + 1) := by rw [e7, put_o (by decide), k6]
    rw [k7, ck1]
    refine ⟨vk1, fun σ8 e8 => ?_⟩
    have k8 : σ8 30 16 = nI (2 * E + 1) := by rw [e8, put_o (by decide), k7]
    rw [k8, ck1]
    refine ⟨vw, vk1, fun σ9 e9 => ⟨vw, fun σ10 e10 σ11 e11 => ?_⟩⟩
    have k9 : σ9 30 16 = nI (2 * E + 1) := by rw [e9, put_o (by decide), k8]
    rw [k9] at e10
    have k10 : σ10 30 16 = nI (2 * E + 1) := by rw [e10, put_o (by decide), k9]
    rw [k10, nI_1] at e11
    have h6 : ∀ b i, σ6 b i = if b = 30 ∧ i = 16 then nI (2 * E + 1) else if b = 34 ∧ i = u then nI (2 * E) else if b = 35 ∧ i = 2 * E then σ 34 u else if b = 37 ∧ i = 2 * E then nI c else if b = 36 ∧ i = 2 * E then nI w else σ b i := by
      intro b i
      rw [e6, put_at, e5, put_at, e4, put_at, e3, put_at, e2, put_at]
    have fw : σ8 34 w = if w = u then nI (2 * E) else σ 34 w := by
      rw [e8, put_o (by decide), e7, put_o (by decide), h6]; simp
    rw [fw] at e9
    have h11 : ∀ b i, σ11 b i = if b = 30 ∧ i = 16 then nI (2 * E + 1 + 1) else if b = 34 ∧ i = w then nI (2 * E + 1) else if b = 35 ∧ i = 2 * E + 1 then (if w = u then nI (2 * E) else σ 34 w) else if b = 37 ∧ i = 2 * E + 1 then 0 else if b = 36 ∧ i = 2 * E + 1 then nI u else σ6 b i := by
      intro b i
      rw [e11, put_at, e10, put_at, e9, put_at, e8, put_at, e7, put_at]
    have e36 : ∀ i, σ11 36 i = if i = 2 * E + 1 then nI u else if i = 2 * E then nI w else σ 36 i := by intro i; rw [h11]; simp; rw [h6]; simp
    have e37 : ∀ i, σ11 37 i = if i = 2 * E + 1 then nI 0 else if i = 2 * E then nI c else σ 37 i := by intro i; rw [h11, show nI 0 = (0 : Int32) from rfl]; simp; rw [h6]; simp
    have e34 : ∀ i, σ11 34 i = if i = w then nI (2 * E + 1) else if i = u then nI (2 * E) else σ 34 i := by intro i; rw [h11]; simp; rw [h6]; simp
    have e35 : ∀ i, σ11 35 i = if i = 2 * E + 1 then (if w = u then nI (2 * E) else σ 34 w) else if i = 2 * E then σ 34 u else σ 35 i := by intro i; rw [h11, h6]; simp
    obtain ⟨j1, j2, j3⟩ := gg_join g1 hE hu hw hc e36 e37 e34 e35
    have lf : LF σ σ11 := by
      refine ⟨fun k h4 hk => ?_, fun j hj => ?_⟩
      · funext i
        have n1 : k ≠ 34 := by omega
        have n2 : k ≠ 35 := by omega
        have n3 : k ≠ 36 := by omega
        have n4 : k ≠ 37 := by omega
        rw [h11]; simp [h4, n1, n2, n3, n4]; rw [h6]; simp [h4, n1, n2, n3, n4]
      · rw [h11]; simp [hj]; rw [h6]; simp [hj]
    refine h σ11 (E + 1) lf (by omega) ⟨⟨j1, ?_⟩, lf.rm g3, fun g => by rw [j2, g4], fun χ => by rw [j3, g5]⟩
    rw [h11]; simp
    rfl
def rP (a : AT) (t : Nat) (g : Nat → Nat → Int) (p m : Nat) : Int := (if aP a p 2 ≤ m then 1000000 * g (2 + p) (18 + 8 * m + p) else 0) + 1000000 * g (18 + 8 * m + p) (10 + p) + (if m < t then (aP a p 3 : Int) * g (18 + 8 * m + p) (18 + 8 * (m + 1) + p) else 0)
def rQ (a : AT) (t : Nat) (g : Nat → Nat → Int) (p : Nat) : Int := (aP a p 0 : Int) * g 0 (2 + p) + (aP a p 1 : Int) * g (10 + p) 1 + sm (t + 1) (rP a t g p)
def rR (a : AT) (g : Nat → Nat → Int) (r m : Nat) : Int := (aR a r 3 : Int) * g (18 + 8 * m + aR a r 0) (18 + 8 * (m + aR a r 2) + aR a r 1) + (aR a r 4 : Int) * g (18 + 8 * m + aR a r 1) (18 + 8 * (m + aR a r 2) + aR a r 0)
def NR (a : AT) (t : Nat) (g : Nat → Nat → Int) : Int := sm (aNP a) (rQ a t g) + sm (aNR a) (fun r => sm (t + 1 - aR a r 2) (rR a g r))
/-- the reference's numbers of nodes as the class's -/
def nu (k : Nat) : Nat := if k = 0 then 344 else if k = 1 then 345 else if k < 18 then k + 326 else k - 18
theorem nu_nd (m p : Nat) : nu (18 + 8 * m + p) = 8 * m + p := by unfold nu; rw [if_neg (by omega), if_neg (by omega), if_neg (by omega)]; omega
theorem nu_ho {p : Nat} (h : p < 8) : nu (2 + p) = 328 + p := by unfold nu; rw [if_neg (by omega), if_neg (by omega), if_pos (by omega)]; omega
theorem nu_sh {p : Nat} (h : p < 8) : nu (10 + p) = 336 + p := by unfold nu; rw [if_neg (by omega), if_neg (by omega), if_pos (by omega)]; omega
theorem sm_off (d : Nat) (F : Nat → Int) : ∀ n, sm n (fun m => if d ≤ m then F (m - d) else 0) = sm (n - d) F := by
  intro n
  induction n with
  | zero => simp [sm]
  | succ n ih =>
    rw [sm, ih]
    by_cases h : d ≤ n
    · rw [if_pos h, show n + 1 - d = n - d + 1 by omega, sm]
    · rw [if_neg h, show n + 1 - d = n - d by omega, Int.add_zero]
theorem sm_cut (F : Nat → Int) (t : Nat) : ∀ n, sm (t + n) (fun m => if m < t then F m else 0) = sm t F := by
  intro n
  induction n with
  | zero => exact sm_congr (fun m hm => by rw [if_pos (by omega)])
  | succ n ih =>
    have : sm (t + (n + 1)) (fun m => if m < t then F m else 0) = sm (t + n) (fun m => if m < t then F m else 0) + (if t + n < t then F (t + n) else 0) := rfl
    rw [this, ih, if_neg (by omega), Int.add_zero]
theorem sm_two (f : Nat → Int) : ∀ n, sm (2 * n) f = sm n (fun r => f (2 * r) + f (2 * r + 1)) := by
  intro n
  induction n with
  | zero => rfl
  | succ n ih =>
    rw [show 2 * (n + 1) = 2 * n + 1 + 1 by omega, sm, sm, sm, ih]
    omega
theorem NR_NET {a : AT} {t : Nat} (hO : OKN a) (g : Nat → Nat → Int) : NR a t (fun u w => g (nu u) (nu w)) = NET (fun _ => 1000000) (fun _ => 1000000) a t g := by
  unfold NR NET
  have h8 := hO.1
  congr 1
  · refine sm_congr (fun p hp => ?_)
    unfold rQ rP
    rw [sm_add, sm_add]
    have e1 : sm (t + 1) (fun m => if m < t then (aP a p 3 : Int) * g (nu (18 + 8 * m + p)) (nu (18 + 8 * (m + 1) + p)) else 0) = sm (t + 1) (fun m => if 1 ≤ m then (aP a p 3 : Int) * g (8 * (m - 1) + p) (8 * m + p) else 0) := by
      rw [sm_cut (fun m => (aP a p 3 : Int) * g (nu (18 + 8 * m + p)) (nu (18 + 8 * (m + 1) + p))) t 1]
      have := sm_off 1 (fun m => (aP a p 3 : Int) * g (8 * m + p) (8 * (m + 1) + p)) (t + 1)
      rw [show t + 1 - 1 = t by omega] at this
      rw [sm_congr (g := fun m => (aP a p 3 : Int) * g (8 * m + p) (8 * (m + 1) + p)) (fun m hm => by rw [nu_nd, nu_nd]), ← this]
      refine sm_congr (fun m hm => ?_)
      by_cases z : 1 ≤ m
      · rw [if_pos z, if_pos z, show m - 1 + 1 = m by omega]
      · rw [if_neg z, if_neg z]
    have e2 : sm (t + 1) (fun m => if aP a p 2 ≤ m then 1000000 * g (nu (2 + p)) (nu (18 + 8 * m + p)) else 0) = sm (t + 1) (fun m => if aP a p 2 ≤ m then 1000000 * g (328 + p) (8 * m + p) else 0) :=
      sm_congr (fun m hm => by rw [nu_nd, nu_ho (by omega)])
    have e3 : sm (t + 1) (fun m => 1000000 * g (nu (18 + 8 * m + p)) (nu (10 + p))) = sm (t + 1) (fun m => 1000000 * g (8 * m + p) (336 + p)) :=
      sm_congr (fun m hm => by rw [nu_nd, nu_sh (by omega)])
    rw [e1, e2, e3]
    dsimp only
    rw [nu_ho (by omega), nu_sh (by omega), show nu 0 = 344 from by unfold nu; rw [if_pos rfl], show nu 1 = 345 from by unfold nu; rw [if_neg (by omega), if_pos rfl]]
    omega
  · rw [sm_two]
    refine sm_congr (fun r hr => ?_)
    have y0 : ∀ q, q = 2 * r → wM a q = aR a r 2 ∧ wL a q = aR a r 3 ∧ wS a q = aR a r 0 ∧ wE a q = aR a r 1 := by
      intro q e
      subst e
      unfold wM wL wS wE
      rw [show 2 * r / 2 = r by omega, show 2 * r % 2 = 0 by omega]
      exact ⟨rfl, rfl, rfl, rfl⟩
    have y1 : ∀ q, q = 2 * r + 1 → wM a q = aR a r 2 ∧ wL a q = aR a r 4 ∧ wS a q = aR a r 1 ∧ wE a q = aR a r 0 := by
      intro q e
      subst e
      unfold wM wL wS wE
      rw [show (2 * r + 1) / 2 = r by omega, show (2 * r + 1) % 2 = 1 by omega]
      exact ⟨rfl, rfl, rfl, rfl⟩
    obtain ⟨a1, a2, a3, a4⟩ := y0 _ rfl
    obtain ⟨b1, b2, b3, b4⟩ := y1 _ rfl
    rw [a1, a2, a3, a4, b1, b2, b3, b4]
    unfold rR
    rw [sm_add]
    have k1 := sm_off (aR a r 2) (fun m => (aR a r 3 : Int) * g (8 * m + aR a r 0) (8 * (m + aR a r 2) + aR a r 1)) (t + 1)
    have k2 := sm_off (aR a r 2) (fun m => (aR a r 4 : Int) * g (8 * m + aR a r 1) (8 * (m + aR a r 2) + aR a r 0)) (t + 1)
    have l1 : sm (t + 1 - aR a r 2) (fun m => (aR a r 3 : Int) * g (nu (18 + 8 * m + aR a r 0)) (nu (18 + 8 * (m + aR a r 2) + aR a r 1))) = sm (t + 1 - aR a r 2) (fun m => (aR a r 3 : Int) * g (8 * m + aR a r 0) (8 * (m + aR a r 2) + aR a r 1)) := sm_congr (fun m hm => by rw [nu_nd, nu_nd])
    have l2 : sm (t + 1 - aR a r 2) (fun m => (aR a r 4 : Int) * g (nu (18 + 8 * m + aR a r 1)) (nu (18 + 8 * (m + aR a r 2) + aR a r 0))) = sm (t + 1 - aR a r 2) (fun m => (aR a r 4 : Int) * g (8 * m + aR a r 1) (8 * (m + aR a r 2) + aR a r 0)) := sm_congr (fun m hm => by rw [nu_nd, nu_nd])
    rw [l1, l2, ← k1, ← k2]
    congr 1
    · refine sm_congr (fun m hm => ?_)
      by_cases z : aR a r 2 ≤ m
      · rw [if_pos z, if_pos z, show m - aR a r 2 + aR a r 2 = m by omega]
      · rw [if_neg z, if_neg z]
    · refine sm_congr (fun m hm => ?_)
      by_cases z : aR a r 2 ≤ m
      · rw [if_pos z, if_pos z, show m - aR a r 2 + aR a r 2 = m by omega]
      · rw [if_neg z, if_neg z]
