/-! the class's search from the sink back -/
def RLV (σ τ : Sg) (E n : Nat) : Prop := ∀ u, u < 346 → τ 23 u ≠ -1 → ∃ l, τ 23 u = nI l ∧ l < n ∧ (l = 0 → u = 345) ∧ (0 < l → ∃ a, a < 2 * E ∧ ltf (σ 21) (pr a) = u ∧ 0 < spf (σ 22) a ∧ τ 23 (ltf (σ 21) a) = nI (l - 1))
def RCL (σ τ : Sg) (E : Nat) : Prop := ∀ S : Nat → Bool, S 345 = false → (∀ b, b < 2 * E → S (ltf (σ 21) (pr b)) = true → 0 < spf (σ 22) b → S (ltf (σ 21) b) = true) → ∀ u, u < 346 → τ 23 u ≠ -1 → S u = false
def Mk (τ : Sg) (u : Nat) : Bool := !decide (τ 23 u = -1)
theorem Mk_t {τ : Sg} {u : Nat} : Mk τ u = true ↔ τ 23 u ≠ -1 := by unfold Mk; simp
def RI (σ τ : Sg) (E n i : Nat) : Prop := (∀ k, k ≠ 23 → k ≠ 25 → τ k = σ k) ∧ BF (σ 21) E (fun e => 0 < spf (σ 22) (pr e)) (Mk τ) (τ 25) n i ∧ RLV σ τ E n ∧ RCL σ τ E ∧ τ 23 345 = 0 ∧ i ≤ n
theorem RI.mark {σ τ υ : Sg} {E n i e l : Nat} (hG : GG (σ 19) (σ 20) (σ 21) (σ 22) E) (h : RI σ τ E n i) (hi : i < n) (he : e < 2 * E) (hx : ltf (σ 21) (pr e) = ltf (τ 25) i) (hs : 0 < spf (σ 22) (pr e)) (hy : τ 23 (ltf (σ 21) e) = -1)
    (hl : τ 23 (ltf (τ 25) i) = nI l) (hln : l < n) (hυ : ∀ b j, υ b j = if b = 25 ∧ j = n then nI (ltf (σ 21) e) else if b = 23 ∧ j = ltf (σ 21) e then nI (l + 1) else τ b j) : RI σ υ E (n + 1) i ∧ υ 23 (ltf (σ 21) e) ≠ -1 := by
  obtain ⟨h1, h2, h3, h4, h5, h6⟩ := h
  have hy3 := (hG.2.1 e he).2.2.1
  have e23 : ∀ j, υ 23 j = if j = ltf (σ 21) e then nI (l + 1) else τ 23 j := by intro j; rw [hυ]; simp
  have e25 : ∀ j, υ 25 j = if j = n then nI (ltf (σ 21) e) else τ 25 j := by intro j; rw [hυ]; simp
  have hn := h2.1
  have hn2 := h2.room hy3 (by unfold Mk; rw [hy]; rfl)
  have xne : ltf (τ 25) i ≠ ltf (σ 21) e := by
    intro z
    rw [← z, hl] at hy
    exact nI_nm1 (by omega) hy
  have ny : υ 23 (ltf (σ 21) e) = nI (l + 1) := by rw [e23, if_pos rfl]
  have nx : υ 23 (ltf (τ 25) i) = nI l := by rw [e23, if_neg xne, hl]
  have nn : υ 23 (ltf (σ 21) e) ≠ -1 := by rw [ny]; exact nI_nm1 (by omega)
  refine ⟨⟨fun k k1 k2 => ?_, ?_, ?_, ?_, ?_, by omega⟩, nn⟩
  · funext j; rw [hυ]; simp [k1, k2]; rw [h1 k k1 k2]
  · refine h2.mark (y := ltf (σ 21) e) hy3 (by unfold Mk; rw [hy]; rfl) hi (fun u => ?_) e25
    unfold Mk
    rw [e23]
    by_cases z : u = ltf (σ 21) e
    · rw [if_pos z, if_pos z]
      have := nI_nm1 (n := l + 1) (by omega)
      simp [this]
    · rw [if_neg z, if_neg z]
  · intro u hu hne
    by_cases z : u = ltf (σ 21) e
    · subst z
      exact ⟨l + 1, ny, by omega, fun q => by omega, fun _ => ⟨pr e, pr_lt he, by rw [pr_pr], hs, by rw [hx, nx]; rfl⟩⟩
    · rw [e23, if_neg z] at hne
      obtain ⟨l', q1, q2, q3, q4⟩ := h3 u hu hne
      refine ⟨l', by rw [e23, if_neg z]; exact q1, by omega, q3, fun q => ?_⟩
      obtain ⟨a, a1, a2, a3, a4⟩ := q4 q
      refine ⟨a, a1, a2, a3, ?_⟩
      rw [e23, if_neg]
      · exact a4
      · intro w
        rw [w, hy] at a4
        exact nI_nm1 (by omega) a4.symm
  · intro S s1 s2 u hu hne
    by_cases z : u = ltf (σ 21) e
    · subst z
      cases hh : S (ltf (σ 21) e)
      · rfl
      · have c1 := s2 (pr e) (pr_lt he) (by rw [pr_pr]; exact hh) hs
        rw [hx] at c1
        have xlt := (h2.2.1 i hi).2.1
        have := h4 S s1 s2 _ xlt (by rw [hl]; exact nI_nm1 (by omega))
        rw [c1] at this; cases this
    · rw [e23, if_neg z] at hne
      exact h4 S s1 s2 u hu hne
  · rw [e23, if_neg]
    · exact h5
    · intro w
      rw [← w, h5] at hy
      exact absurd hy (by decide)
theorem s_reach_72 {σ : Sg} {E i : Nat} {Q : Int32 → Sg → Prop} {K : Int32 → Int32 → Sg → Prop} (hG : GG (σ 19) (σ 20) (σ 21) (σ 22) E) {x : Nat}
    (hK : ∀ τ n, RI σ τ E n (i + 1) → K (nI n) (nI (i + 1)) τ) : ∀ f k, k < f → k ≤ 2 * E → ∀ τ n c, RI σ τ E n i → i < n → ltf (τ 25) i = x → k + c ≤ 3968 →
      (∀ e, k ≤ e → e < 2 * E → ltf (σ 21) (pr e) = x → 0 < spf (σ 22) (pr e) → Mk τ (ltf (σ 21) e) = true) → wp_X0_reachSource_72 Q K f (nI n) (nI i) (nI x) (la (σ 21) x k) (nI c) τ := by
  intro f
  induction f with
  | zero => intro k hk; omega
  | succ f ih =>
    intro k hk hkE τ n c hI hin hx hc hd
    have h19 := hG.2.2.2
    rw [wp_X0_reachSource_72]
    have fin : k = 0 ∨ la (σ 21) x k = -1 → wp_X0_reachSource_159 Q K (nI n) (nI i) τ := by
      intro hz
      intro x2 e2
      rw [nI_1] at e2
      subst e2
      refine hK τ n ⟨hI.1, hI.2.1.done (fun e he h1 h2 => ?_), hI.2.2.1, hI.2.2.2.1, hI.2.2.2.2.1, by omega⟩
      rw [hx] at h1
      by_cases hke : k ≤ e
      · exact hd e hke he h1 h2
      · rcases la_cases (σ 21) x k with ⟨l1, l2⟩ | ⟨a, l1, l2, l3, l4⟩
        · exact absurd h1 (l2 e (by omega))
        · rcases hz with hz | hz
          · omega
          · rw [l2] at hz
            exact absurd hz (nI_nm1 (by omega))
    refine ⟨fun z => fin (Or.inl ?_), fun z => ⟨fun z2 => fin (Or.inr z2), fun z2 => ?_⟩⟩
    · rw [show (3968 : Int32) = nI 3968 from rfl, nI_leI (by omega) (by omega)] at z
      omega
    · rcases la_cases (σ 21) x k with ⟨l1, l2⟩ | ⟨e, l1, l2, l3, l4⟩
      · exact absurd l1 z2
      · have he : e < 2 * E := by omega
        obtain ⟨t1, t2, t3, t4⟩ := hG.2.1 e he
        have f20 : τ 20 = σ 20 := hI.1 20 (by decide) (by decide)
        have f21 : τ 21 = σ 21 := hI.1 21 (by decide) (by decide)
        have f22 : τ 22 = σ 22 := hI.1 22 (by decide) (by decide)
        have ve : vp_in (nI e) 3968 := vp_in_nI (by omega) (by decide)
        have hp := pr_lt he
        have vp : vp_in (nI (pr e)) 3968 := vp_in_nI (by omega) (by decide)
        have ce : (nI e).toNatClampNeg = e := nI_clamp (by omega)
        have cx : (nI x).toNatClampNeg = x := nI_clamp (by have := (hI.2.1.2.1 i hin).2.1; omega)
        rw [l2, e_xor (by omega), ce, nI_clamp (n := pr e) (by omega), f21, f22, cx]
        refine ⟨ve, fun x6 e6 => ⟨vp, ?_⟩⟩
        rw [t2] at e6
        subst e6
        have cy : (nI (ltf (σ 21) e)).toNatClampNeg = ltf (σ 21) e := nI_clamp (by omega)
        rw [cy]
        have next : ∀ (υ : Sg) (n' : Nat), RI σ υ E n' i → i < n' → ltf (υ 25) i = x → (0 < spf (σ 22) (pr e) → Mk υ (ltf (σ 21) e) = true) → (∀ u, Mk τ u = true → Mk υ u = true) → wp_X0_reachSource_144 Q K (fun z1 z2 z3 z4 z5 σ => wp_X0_reachSource_72 Q K f z1 z2 z3 z4 z5 σ) (nI n') (nI i) (nI x) (nI e) (nI c) υ := by
          intro υ n' hI' hin' hx' hm hmm
          refine ⟨ve, fun x4 e4 x5 e5 => ?_⟩
          rw [ce, hI'.1 20 (by decide) (by decide), t1, l3] at e4
          rw [nI_1] at e5
          subst e4
          subst e5
          refine ih e (by omega) (by omega) υ n' (c + 1) hI' hin' hx' (by omega) (fun e' h1 h2 h3 h4 => ?_)
          by_cases z : e' = e
          · subst z; exact hm h4
          · by_cases z2 : e' < k
            · exact absurd h3 (l4 e' (by omega) z2)
            · exact hmm _ (hd e' (by omega) h2 h3 h4)
        refine ⟨fun hle => next τ n hI hin hx (fun z => ?_) (fun _ h => h), fun hgt => ⟨vp_in_nI t3 (by decide), fun hm => ?_, fun hm => next τ n hI hin hx (fun _ => Mk_t.mpr hm) (fun _ h => h)⟩⟩
        · rw [Int32.le_iff_toInt_le] at hle
          unfold spf at z
          have : ((0 : Int32)).toInt = 0 := by decide
          omega
        · have hs : 0 < spf (σ 22) (pr e) := by
            rw [Int32.le_iff_toInt_le] at hgt
            unfold spf
            have : ((0 : Int32)).toInt = 0 := by decide
            omega
          obtain ⟨-, qx, qm⟩ := hI.2.1.2.1 i hin
          rw [hx] at qx qm
          obtain ⟨l, v1, v2, v3, v4⟩ := hI.2.2.1 x qx (Mk_t.mp qm)
          have hn2 := hI.2.1.room t3 (by unfold Mk; rw [hm]; rfl)
          refine ⟨vp_in_nI qx (by decide), vp_in_nI t3 (by decide), fun σ17 e17 => ⟨vp_in_nI (by omega) (by decide), fun σ18 e18 x1 ex => ?_⟩⟩
          rw [v1, nI_1] at e17
          rw [nI_clamp (n := n) (by omega)] at e18
          rw [nI_1] at ex
          subst ex
          obtain ⟨m1, m2⟩ := RI.mark (υ := σ18) (e := e) (l := l) hG hI hin he (by rw [hx]; exact l3) hs hm (by rw [hx]; exact v1) v2 (fun b j => by rw [e18, put_at, e17, put_at])
          refine next σ18 (n + 1) m1 (by omega) ?_ (fun _ => Mk_t.mpr m2) (fun u hu => ?_)
          · unfold ltf
            rw [e18, put_n (by omega), e17, put_o (by decide)]
            exact hx
          · rw [Mk_t] at hu ⊢
            rw [e18, put_o (by decide), e17, put_at]
            split
            · exact nI_nm1 (by omega)
            · exact hu
theorem s_reachSource {σ : Sg} {E : Nat} {Q : Int32 → Sg → Prop} (hG : GG (σ 19) (σ 20) (σ 21) (σ 22) E)
    (h : ∀ (r : Int32) (τ : Sg), (∀ k, k ≠ 23 → k ≠ 25 → τ k = σ k) → RLV σ τ E 346 → RCL σ τ E → τ 23 345 = 0 →
      ((r = 0 ∧ τ 23 344 = -1 ∧ ∀ b, b < 2 * E → τ 23 (ltf (σ 21) b) ≠ -1 → 0 < spf (σ 22) b → τ 23 (ltf (σ 21) (pr b)) ≠ -1) ∨ (r = 1 ∧ τ 23 344 ≠ -1)) → Q r τ) : wp_X0_reachSource σ Q := by
  have key : ∀ f i, 346 - i < f → ∀ τ n, RI σ τ E n i → wp_X0_reachSource_30 Q f (nI n) (nI i) τ := by
    intro f
    induction f with
    | zero => intro i hi; omega
    | succ f ih =>
      intro i hi τ n hI
      have hn := hI.2.1.1
      have hin := hI.2.2.2.2.2
      have lv : RLV σ τ E 346 := fun u hu hne => by
        obtain ⟨l, q1, q2, q3, q4⟩ := hI.2.2.1 u hu hne
        exact ⟨l, q1, by omega, q3, q4⟩
      rw [wp_X0_reachSource_30]
      have v344 : vp_in (344 : Int32) 346 := vp_in_nI (n := 344) (by decide) (by decide)
      have fin : (τ 23 344 = -1 → i = n) → wp_X0_reachSource_165 Q τ := by
        intro hz
        refine ⟨v344, fun z => ⟨Or.inl rfl, ?_⟩, fun z => ⟨Or.inr rfl, ?_⟩⟩
        · have z : τ 23 344 = -1 := z
          refine h 0 τ hI.1 lv hI.2.2.2.1 hI.2.2.2.2.1 (Or.inl ⟨rfl, z, fun b hb h1 h2 => ?_⟩)
          have := hz z
          subst this
          have := hI.2.1.all (e := pr b) (pr_lt hb) (by rw [pr_pr]; exact (hG.2.1 b hb).2.2.1) (by rw [pr_pr]; exact Mk_t.mpr h1) (by show 0 < spf (σ 22) (pr (pr b)); rw [pr_pr]; exact h2)
          exact Mk_t.mp this
        · exact h 1 τ hI.1 lv hI.2.2.2.1 hI.2.2.2.2.1 (Or.inr ⟨rfl, z⟩)
      refine pk_le 346 i (fun hle => fin (fun _ => by omega)) (fun hlt => ?_) rfl rfl (by omega) (by omega)
      refine pk_le n i (fun hle => fin (fun _ => by omega)) (fun hgt => ⟨v344, fun z => ?_, fun z => fin (fun z2 => absurd z2 z)⟩) rfl rfl (by omega) (by omega)
      obtain ⟨q1, q2, q3⟩ := hI.2.1.2.1 i hgt
      rw [nI_clamp (n := i) (by omega), q1]
      refine ⟨vp_in_nI (by omega) (by decide), fun x3 e3 => ?_⟩
      subst e3
      refine ⟨vp_in_nI q2 (by decide), fun x4 e4 => ?_⟩
      rw [nI_clamp (n := ltf (τ 25) i) (by omega), hI.1 19 (by decide) (by decide), hG.1 _ q2] at e4
      subst e4
      have h19 := hG.2.2.2
      exact ⟨2 * E + 1, s_reach_72 (x := ltf (τ 25) i) hG (fun υ n' hI' => ih (i + 1) (by omega) υ n' hI') (2 * E + 1) (2 * E) (by omega) (by omega) τ n 0 hI hgt rfl (by omega) (fun e h1 h2 => by omega)⟩
  unfold wp_X0_reachSource
  intro σ1 e1
  refine ⟨vp_in_nI (n := 345) (by decide) (by decide), fun σ2 e2 => ⟨vp_in_nI (n := 0) (by decide) (by decide), fun σ3 e3 => ⟨347, ?_⟩⟩⟩
  have a23 : ∀ u, u < 346 → σ3 23 u = if u = 345 then 0 else -1 := by
    intro u hu
    rw [e3, put_o (by decide), e2, put_at, e1, setA_k]
    unfold k_fillf
    rw [if_pos hu]
    by_cases z : u = 345
    · subst z; rfl
    · rw [if_neg z, if_neg (fun w => z w.2)]
  refine key 347 0 (by omega) σ3 1 ⟨fun k k1 k2 => ?_, ?_, ?_, ?_, ?_, by omega⟩
  · rw [e3, put_o k2, e2, put_o k1, e1, setA_o k1]
  · refine BF.one (y := 345) (by decide) (fun u hu => ?_) ?_
    · unfold Mk
      rw [a23 u hu]
      by_cases z : u = 345
      · rw [if_pos z]; simp [z]
      · rw [if_neg z]; simp [z]
    · rw [e3]; exact put_s
  · intro u hu hne
    by_cases z : u = 345
    · subst z
      exact ⟨0, by rw [a23 345 hu, if_pos rfl]; rfl, by omega, fun _ => rfl, fun q => by omega⟩
    · rw [a23 u hu, if_neg z] at hne
      exact absurd rfl hne
  · intro S s1 s2 u hu hne
    by_cases z : u = 345
    · subst z; exact s1
    · rw [a23 u hu, if_neg z] at hne
      exact absurd rfl hne
  · rw [a23 345 (by decide), if_pos rfl]
