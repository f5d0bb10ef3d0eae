/-! the reference's flow: a way found, pushed along -/
def Sn (τ : Sg) (u : Nat) : Bool := !decide (τ 40 u = 0)
theorem Sn_t {τ : Sg} {u : Nat} : Sn τ u = true ↔ ¬ τ 40 u = 0 := by unfold Sn; simp
theorem nar1 : vp_nar .boolean (1 : Int32) = 1 := by decide
theorem nar0 : vp_nar .boolean (0 : Int32) = 0 := by decide
/-- by which arcs they were come to -/
def RK (to sp cb : Nat → Int32) (E : Nat) (M : Nat → Bool) (rk : Nat → Nat) (n : Nat) : Prop := ∀ u, u < 346 → M u = true → rk u < n ∧ (u ≠ 0 → cb u = nI (ltf cb u) ∧ ltf cb u < 2 * E ∧ ltf to (ltf cb u) = u ∧ 0 < spf sp (ltf cb u) ∧ M (ltf to (pr (ltf cb u))) = true ∧ rk (ltf to (pr (ltf cb u))) < rk u)
def FI (σ τ : Sg) (E n i : Nat) : Prop := (∀ k, k ≠ 38 → k ≠ 39 → k ≠ 40 → τ k = σ k) ∧ BF (σ 36) E (fun e => 0 < spf (σ 37) e) (Sn τ) (τ 39) n i ∧ (∃ rk, RK (σ 36) (σ 37) (τ 38) E (Sn τ) rk n) ∧ τ 40 0 = 1 ∧ (∀ u, u < 346 → bz (τ 40 u)) ∧ i ≤ n
theorem FI.mark {σ τ υ : Sg} {E n i e : Nat} (hG : GG (σ 34) (σ 35) (σ 36) (σ 37) E) (h : FI σ τ E n i) (hi : i < n) (he : e < 2 * E) (hx : ltf (σ 36) (pr e) = ltf (τ 39) i) (hs : 0 < spf (σ 37) e) (hy : τ 40 (ltf (σ 36) e) = 0)
    (hυ : ∀ b j, υ b j = if b = 39 ∧ j = n then nI (ltf (σ 36) e) else if b = 38 ∧ j = ltf (σ 36) e then nI e else if b = 40 ∧ j = ltf (σ 36) e then 1 else τ b j) : FI σ υ E (n + 1) i ∧ Sn υ (ltf (σ 36) e) = true := by
  obtain ⟨h1, h2, ⟨rk, h3⟩, h4, h5, h6⟩ := h
  have h19 := hG.2.2.2
  have hy3 := (hG.2.1 e he).2.2.1
  have e40 : ∀ j, υ 40 j = if j = ltf (σ 36) e then 1 else τ 40 j := by intro j; rw [hυ]; simp
  have e39 : ∀ j, υ 39 j = if j = n then nI (ltf (σ 36) e) else τ 39 j := by intro j; rw [hυ]; simp
  have e38 : ∀ j, υ 38 j = if j = ltf (σ 36) e then nI e else τ 38 j := by intro j; rw [hυ]; simp
  have nM : Sn τ (ltf (σ 36) e) = false := by unfold Sn; rw [hy]; rfl
  have hn2 := h2.room hy3 nM
  have eM : ∀ u, Sn υ u = if u = ltf (σ 36) e then true else Sn τ u := by
    intro u
    unfold Sn
    rw [e40]
    by_cases z : u = ltf (σ 36) e
    · rw [if_pos z, if_pos z]; rfl
    · rw [if_neg z, if_neg z]
  have up : ∀ u, Sn τ u = true → Sn υ u = true := by
    intro u hu
    rw [eM]
    split
    · rfl
    · exact hu
  have xM : Sn τ (ltf (σ 36) (pr e)) = true := by rw [hx]; exact (h2.2.1 i hi).2.2
  have xlt : ltf (σ 36) (pr e) < 346 := (hG.2.1 _ (pr_lt he)).2.2.1
  have xne : ltf (σ 36) (pr e) ≠ ltf (σ 36) e := by
    intro z
    rw [z, nM] at xM; cases xM
  refine ⟨⟨fun k k1 k2 k3 => ?_, ?_, ⟨fun u => if u = ltf (σ 36) e then n else rk u, fun u hu hm => ?_⟩, ?_, fun u hu => ?_, by omega⟩, by rw [eM, if_pos rfl]⟩
  · funext j; rw [hυ]; simp [k1, k2, k3]; rw [h1 k k1 k2 k3]
  · exact h2.mark (y := ltf (σ 36) e) hy3 nM hi eM e39
  · by_cases z : u = ltf (σ 36) e
    · have l38 : ltf (υ 38) u = e := by unfold ltf; rw [e38, z, if_pos rfl, nI_clamp (by omega)]
      dsimp only
      rw [l38, if_pos z, if_neg xne]
      refine ⟨by omega, fun _ => ⟨by rw [e38, if_pos z], he, z.symm, hs, up _ xM, (h3 _ xlt xM).1⟩⟩
    · rw [eM, if_neg z] at hm
      obtain ⟨r1, r2⟩ := h3 u hu hm
      dsimp only
      rw [if_neg z]
      refine ⟨by omega, fun hu0 => ?_⟩
      obtain ⟨c1, c2, c3, c4, c5, c6⟩ := r2 hu0
      have l38 : ltf (υ 38) u = ltf (τ 38) u := by unfold ltf; rw [e38, if_neg z]
      rw [l38, e38, if_neg z]
      refine ⟨c1, c2, c3, c4, up _ c5, ?_⟩
      rw [if_neg]
      · exact c6
      · intro w
        rw [w, nM] at c5; cases c5
  · rw [e40]
    split
    · rfl
    · exact h4
  · rw [e40]
    split
    · exact Or.inr rfl
    · exact h5 u hu
theorem s_finds_66 {σ : Sg} {E i : Nat} {Q : Int32 → Sg → Prop} {K : Int32 → Int32 → Sg → Prop} (hG : GG (σ 34) (σ 35) (σ 36) (σ 37) E) {x : Nat}
    (hK : ∀ τ n, FI σ τ E n (i + 1) → K (nI n) (nI (i + 1)) τ) : ∀ f k, k < f → k ≤ 2 * E → ∀ τ n, FI σ τ E n i → i < n → ltf (τ 39) i = x →
      (∀ e, k ≤ e → e < 2 * E → ltf (σ 36) (pr e) = x → 0 < spf (σ 37) e → Sn τ (ltf (σ 36) e) = true) → wp_X6_finds_66 Q K f (nI n) (nI i) (la (σ 36) x k) τ := by
  intro f
  induction f with
  | zero => intro k hk; omega
  | succ f ih =>
    intro k hk hkE τ n hI hin hx hd
    have h19 := hG.2.2.2
    rw [wp_X6_finds_66]
    refine ⟨fun hz => ?_, fun z2 => ?_⟩
    · intro x2 e2
      rw [nI_1] at e2
      subst e2
      refine hK τ n ⟨hI.1, hI.2.1.done (fun e he h1 h2 => ?_), hI.2.2.1, hI.2.2.2.1, hI.2.2.2.2.1, by omega⟩
      rw [hx] at h1
      by_cases hke : k ≤ e
      · exact hd e hke he h1 h2
      · rcases la_cases (σ 36) x k with ⟨l1, l2⟩ | ⟨a, l1, l2, l3, l4⟩
        · exact absurd h1 (l2 e (by omega))
        · rw [l2] at hz
          exact absurd hz (nI_nm1 (by omega))
    · rcases la_cases (σ 36) x k with ⟨l1, l2⟩ | ⟨e, l1, l2, l3, l4⟩
      · exact absurd l1 z2
      · have he : e < 2 * E := by omega
        obtain ⟨t1, t2, t3, t4⟩ := hG.2.1 e he
        obtain ⟨u1, u2, u3⟩ := hG.up he
        have f36 : τ 36 = σ 36 := hI.1 36 (by decide) (by decide) (by decide)
        have f37 : τ 37 = σ 37 := hI.1 37 (by decide) (by decide) (by decide)
        have ve : vp_in (nI e) 4000 := vp_in_nI (by omega) (by decide)
        have ce : (nI e).toNatClampNeg = e := nI_clamp (by omega)
        have vy : vp_in (nI (ltf (σ 36) e)) 346 := vp_in_nI t3 (by decide)
        have cy : (nI (ltf (σ 36) e)).toNatClampNeg = ltf (σ 36) e := nI_clamp (by omega)
        rw [l2, ce, f36, f37, u3, t2, cy]
        have next : ∀ (υ : Sg) (n' : Nat), FI σ υ E n' i → i < n' → ltf (υ 39) i = x → (0 < spf (σ 37) e → Sn υ (ltf (σ 36) e) = true) → (∀ u, Sn τ u = true → Sn υ u = true) → wp_X6_finds_136 Q K (fun z1 z2 z3 σ => wp_X6_finds_66 Q K f z1 z2 z3 σ) (nI n') (nI i) (nI e) υ := by
          intro υ n' hI' hin' hx' hm hmm
          refine ⟨ve, fun x3 e3 => ?_⟩
          rw [ce, hI'.1 35 (by decide) (by decide) (by decide), t1, l3] at e3
          subst e3
          refine ih e (by omega) (by omega) υ n' hI' hin' hx' (fun e' h1 h2 h3 h4 => ?_)
          by_cases z : e' = e
          · subst z; exact hm h4
          · by_cases z2 : e' < k
            · exact absurd h3 (l4 e' (by omega) z2)
            · exact hmm _ (hd e' (by omega) h2 h3 h4)
        refine ⟨ve, ?_⟩
        refine pk_eq (spf (σ 37) e).toNat 0 (fun hz => next τ n hI hin hx (fun z => by omega) (fun _ h => h)) (fun hz => ⟨ve, vy, fun hm => ?_, fun hm => next τ n hI hin hx (fun _ => Sn_t.mpr hm) (fun _ h => h)⟩) rfl rfl (by omega) (by omega)
        have hn2 := hI.2.1.room t3 (by unfold Sn; rw [hm]; rfl)
        refine ⟨ve, vy, fun σ12 e12 => ?_⟩
        have g36 : σ12 36 = σ 36 := by rw [e12, put_o (by decide), f36]
        rw [g36, t2, cy]
        refine ⟨ve, vy, fun σ13 e13 => ?_⟩
        have g36' : σ13 36 = σ 36 := by rw [e13, put_o (by decide), g36]
        rw [g36', t2, nI_clamp (n := n) (by omega)]
        refine ⟨ve, vp_in_nI (by omega) (by decide), fun σ14 e14 x1 ex => ?_⟩
        rw [nI_1] at ex
        subst ex
        obtain ⟨m1, m2⟩ := FI.mark (υ := σ14) (e := e) hG hI hin he (by rw [hx]; exact l3) (by omega) hm (fun b j => by rw [e14, put_at, e13, put_at, e12, put_at, nar1])
        refine next σ14 (n + 1) m1 (by omega) ?_ (fun _ => m2) (fun u hu => ?_)
        · unfold ltf
          rw [e14, put_n (by omega), e13, put_o (by decide), e12, put_o (by decide)]
          exact hx
        · rw [Sn_t] at hu ⊢
          rw [e14, put_o (by decide), e13, put_o (by decide), e12, put_at]
          split
          · rw [nar1]; decide
          · exact hu
theorem s_finds {σ : Sg} {E : Nat} {Q : Int32 → Sg → Prop} (hG : GG (σ 34) (σ 35) (σ 36) (σ 37) E)
    (h : ∀ (r : Int32) (τ : Sg), (∀ k, k ≠ 38 → k ≠ 39 → k ≠ 40 → τ k = σ k) → Sn τ 0 = true →
      ((r = 0 ∧ Sn τ 1 = false ∧ ∀ b, b < 2 * E → Sn τ (ltf (σ 36) (pr b)) = true → 0 < spf (σ 37) b → Sn τ (ltf (σ 36) b) = true) ∨ (¬ r = 0 ∧ Sn τ 1 = true ∧ ∃ rk, RK (σ 36) (σ 37) (τ 38) E (Sn τ) rk 346)) → Q r τ) : wp_X6_finds σ Q := by
  have key : ∀ f i, 346 - i < f → ∀ τ n, FI σ τ E n i → wp_X6_finds_40 Q f (nI n) (nI i) τ := by
    intro f
    induction f with
    | zero => intro i hi; omega
    | succ f ih =>
      intro i hi τ n hI
      have hn := hI.2.1.1
      have hin := hI.2.2.2.2.2
      rw [wp_X6_finds_40]
      have v1 : vp_in (1 : Int32) 346 := vp_in_nI (n := 1) (by decide) (by decide)
      have s0 : Sn τ 0 = true := by rw [Sn_t, hI.2.2.2.1]; decide
      have fin : (τ 40 1 = 0 → i = n) → wp_X6_finds_152 Q τ := by
        intro hz
        have b1 := hI.2.2.2.2.1 1 (by decide)
        refine ⟨v1, b1, ?_⟩
        show Q (τ 40 1) τ
        refine h (τ 40 1) τ hI.1 s0 ?_
        by_cases z : τ 40 1 = 0
        · refine Or.inl ⟨z, by unfold Sn; rw [z]; rfl, fun b hb h1 h2 => ?_⟩
          have := hz z
          subst this
          exact hI.2.1.all (e := b) hb (hG.2.1 _ (pr_lt hb)).2.2.1 h1 h2
        · obtain ⟨rk, hr⟩ := hI.2.2.1
          refine Or.inr ⟨z, Sn_t.mpr z, rk, fun u hu hm => ?_⟩
          obtain ⟨r1, r2⟩ := hr u hu hm
          exact ⟨by omega, r2⟩
      refine pk_le n i (fun hle => fin (fun _ => by omega)) (fun hgt => ⟨v1, fun z => ?_, fun z => fin (fun z2 => absurd z2 z)⟩) rfl rfl (by omega) (by omega)
      obtain ⟨q1, q2, q3⟩ := hI.2.1.2.1 i hgt
      rw [nI_clamp (n := i) (by omega), q1]
      refine ⟨vp_in_nI (by omega) (by decide), vp_in_nI q2 (by decide), fun x3 e3 => ?_⟩
      rw [nI_clamp (n := ltf (τ 39) i) (by omega), hI.1 34 (by decide) (by decide) (by decide), hG.1 _ q2] at e3
      subst e3
      exact ⟨2 * E + 1, s_finds_66 (x := ltf (τ 39) i) hG (fun υ n' hI' => ih (i + 1) (by omega) υ n' hI') (2 * E + 1) (2 * E) (by omega) (by omega) τ n hI hgt rfl (fun e h1 h2 => by omega)⟩
  have k2 : ∀ d i, i + d = 346 → ∀ (τ : Sg), (∀ k, k ≠ 38 → k ≠ 39 → k ≠ 40 → τ k = σ k) → (∀ u, u < i → τ 40 u = 0) → wp_X6_finds_2 Q (d + 1) (nI i) τ := by
    intro d
    induction d with
    | zero =>
      intro i hi τ f hu
      have : i = 346 := by omega
      subst this
      rw [wp_X6_finds_2]
      refine ⟨fun _ => ⟨vp_in_nI (n := 0) (by decide) (by decide), fun σ2 e2 => ⟨vp_in_nI (n := 0) (by decide) (by decide), fun σ3 e3 => ⟨347, ?_⟩⟩⟩, fun z => absurd (nI_le (a := 346) (by omega) (by omega)) z⟩
      have a40 : ∀ u, u < 346 → σ3 40 u = if u = 0 then 1 else 0 := by
        intro u hu2
        rw [e3, put_o (by decide), e2, put_at, nar1]
        by_cases z : u = 0
        · subst z; rfl
        · rw [if_neg z, if_neg (fun w => z w.2)]; exact hu u hu2
      have aS : ∀ u, u < 346 → Sn σ3 u = decide (u = 0) := by
        intro u hu2
        unfold Sn
        rw [a40 u hu2]
        by_cases z : u = 0
        · rw [if_pos z]; simp [z]
        · rw [if_neg z]; simp [z]
      refine key 347 0 (by omega) σ3 1 ⟨fun k k1 k2 k3 => by rw [e3, put_o k2, e2, put_o k3, f k k1 k2 k3], BF.one (y := 0) (by decide) aS (by rw [e3]; exact put_s), ⟨fun _ => 0, fun u hu2 hm => ?_⟩, by rw [a40 0 (by decide), if_pos rfl], fun u hu2 => ?_, by omega⟩
      · rw [aS u hu2] at hm
        exact ⟨by show 0 < 1; omega, fun z => absurd (of_decide_eq_true hm) z⟩
      · rw [a40 u hu2]
        split
        · exact Or.inr rfl
        · exact Or.inl rfl
    | succ d ih =>
      intro i hi τ f hu
      rw [wp_X6_finds_2, nI_clamp (n := i) (by omega)]
      refine ⟨fun z => absurd z (nI_ge (b := 346) (by omega) (by omega)), fun _ => ⟨vp_in_nI (by omega) (by decide), fun σ1 e1 x2 e2 => ?_⟩⟩
      rw [nI_1] at e2
      subst e2
      refine ih (i + 1) (by omega) σ1 (fun k k1 k2 k3 => by rw [e1, put_o k3]; exact f k k1 k2 k3) (fun u hu2 => ?_)
      rw [e1, put_at, nar0]
      by_cases z : u = i
      · subst z; rw [if_pos ⟨rfl, rfl⟩]
      · rw [if_neg (fun w => z w.2)]; exact hu u (by omega)
  exact ⟨347, k2 346 0 (by omega) σ (fun _ _ _ _ => rfl) (fun u hu => by omega)⟩
/-- back along the way -/
def pa (cb to : Nat → Int32) : Nat → Nat
  | 0 => 1
  | j + 1 => ltf to (pr (ltf cb (pa cb to j)))
theorem s_pushes {σ : Sg} {E : Nat} {rk : Nat → Nat} {Q : Int32 → Sg → Prop} (hG : GG (σ 34) (σ 35) (σ 36) (σ 37) E) (hR : RK (σ 36) (σ 37) (σ 38) E (Sn σ) rk 346) (h1 : Sn σ 1 = true)
    (h : ∀ (m : Nat) (τ : Sg), 1 ≤ m → m ≤ 1000000 → (∀ k, k ≠ 37 → τ k = σ k) → GG (τ 34) (τ 35) (τ 36) (τ 37) E → (∀ g, Cp E (ltf (τ 36)) (spf (τ 37)) g = Cp E (ltf (σ 36)) (spf (σ 37)) g) →
      (∀ χ, Fl E (ltf (τ 36)) (spf (τ 37)) χ = Fl E (ltf (σ 36)) (spf (σ 37)) χ + (m : Int) * (χ 0 - χ 1)) → Q (nI m) τ) : wp_X6_pushes σ Q := by
  have h19 := hG.2.2.2
  have pn : ∀ j, pa (σ 38) (σ 36) j ≠ 0 → pa (σ 38) (σ 36) j < 346 → Sn σ (pa (σ 38) (σ 36) j) = true → pa (σ 38) (σ 36) (j + 1) < 346 ∧ Sn σ (pa (σ 38) (σ 36) (j + 1)) = true ∧ rk (pa (σ 38) (σ 36) (j + 1)) < rk (pa (σ 38) (σ 36) j) := by
    intro j hj hlt hs
    obtain ⟨-, r2⟩ := hR _ hlt hs
    obtain ⟨c1, c2, c3, c4, c5, c6⟩ := r2 hj
    exact ⟨(hG.2.1 _ (pr_lt c2)).2.2.1, c5, c6⟩
  have loop2 : ∀ (m J : Nat), 1 ≤ m → m ≤ 1000000 → pa (σ 38) (σ 36) J = 0 → (∀ i, i < J → (m : Int) ≤ spf (σ 37) (ltf (σ 38) (pa (σ 38) (σ 36) i))) → ∀ f j, rk (pa (σ 38) (σ 36) j) < f → j ≤ J → pa (σ 38) (σ 36) j < 346 → Sn σ (pa (σ 38) (σ 36) j) = true → ∀ (υ : Sg), (∀ k, k ≠ 37 → υ k = σ k) →
      PS E (ltf (σ 36)) (spf (σ 37)) (spf (υ 37)) rk m (pa (σ 38) (σ 36) j) 1 → wp_X6_pushes_44 Q f (nI m) (nI (pa (σ 38) (σ 36) j)) υ := by
    intro m J hm1 hm2 hJ hms f
    induction f with
    | zero => intro j hf; omega
    | succ f ih =>
      intro j hf hjJ hlt hsn υ fr hS
      rw [wp_X6_pushes_44]
      refine pk_eq (pa (σ 38) (σ 36) j) 0 (fun z => ?_) (fun z => ?_) rfl rfl (by omega) (by omega)
      · refine h m υ hm1 hm2 fr ?_ (fun g => ?_) (fun χ => ?_)
        · rw [fr 34 (by decide), fr 35 (by decide), fr 36 (by decide)]; exact hS.gg hG
        · rw [fr 36 (by decide)]; exact hS.cp g
        · rw [fr 36 (by decide), hS.2.2.1, z]
      · have hj : j < J := by
          rcases Nat.lt_or_ge j J with q | q
          · exact q
          · exact absurd (by rw [show j = J by omega]; exact hJ) z
        obtain ⟨-, r2⟩ := hR _ hlt hsn
        obtain ⟨c1, c2, c3, c4, c5, c6⟩ := r2 z
        obtain ⟨n1, n2, n3⟩ := pn j z hlt hsn
        have hp := pr_lt c2
        have ge := hS.gg hG
        have cx : (nI (pa (σ 38) (σ 36) j)).toNatClampNeg = pa (σ 38) (σ 36) j := nI_clamp (by omega)
        have ce : (nI (ltf (σ 38) (pa (σ 38) (σ 36) j))).toNatClampNeg = ltf (σ 38) (pa (σ 38) (σ 36) j) := nI_clamp (by omega)
        have cp : (nI (pr (ltf (σ 38) (pa (σ 38) (σ 36) j)))).toNatClampNeg = pr (ltf (σ 38) (pa (σ 38) (σ 36) j)) := nI_clamp (by omega)
        have vx : vp_in (nI (pa (σ 38) (σ 36) j)) 346 := vp_in_nI hlt (by decide)
        have ve : vp_in (nI (ltf (σ 38) (pa (σ 38) (σ 36) j))) 4000 := vp_in_nI (by omega) (by decide)
        have vp : vp_in (nI (pr (ltf (σ 38) (pa (σ 38) (σ 36) j)))) 4000 := vp_in_nI (by omega) (by decide)
        rw [cx, fr 38 (by decide), c1, ce]
        refine ⟨vx, ve, ve, fun σ3 e3 => ?_⟩
        have g38 : σ3 38 = σ 38 := by rw [e3, put_o (by decide), fr 38 (by decide)]
        rw [g38, c1, e_xor (by omega), cp]
        refine ⟨vx, vp, vp, fun σ4 e4 => ?_⟩
        have g38' : σ4 38 = σ 38 := by rw [e4, put_o (by decide), g38]
        have g36 : σ4 36 = σ 36 := by rw [e4, put_o (by decide), e3, put_o (by decide), fr 36 (by decide)]
        rw [g38', c1, e_xor (by omega), cp, g36, (hG.2.1 _ hp).2.1]
        refine ⟨vx, vp, fun x2 e2 => ?_⟩
        subst e2
        have hne := pr_ne (ltf (σ 38) (pa (σ 38) (σ 36) j))
        have a37 : ∀ b, σ4 37 b = if b = pr (ltf (σ 38) (pa (σ 38) (σ 36) j)) then υ 37 b + nI m else if b = ltf (σ 38) (pa (σ 38) (σ 36) j) then υ 37 b - nI m else υ 37 b := by
          intro b
          rw [e4, put_at]
          by_cases z : b = pr (ltf (σ 38) (pa (σ 38) (σ 36) j))
          · subst z
            rw [if_pos ⟨rfl, rfl⟩, if_pos rfl, e3, put_n hne]
          · rw [if_neg (fun w => z w.2), if_neg z, e3, put_at]
            by_cases z2 : b = ltf (σ 38) (pa (σ 38) (σ 36) j)
            · subst z2
              rw [if_pos ⟨rfl, rfl⟩, if_pos rfl]
            · rw [if_neg (fun w => z2 w.2), if_neg z2]
        have mi : (nI m).toInt = m := nI_toInt (by omega)
        have es := spf_psh ge c2 (x := nI m) (by omega) (by omega) a37
        rw [mi] at es
        have hS' := hS.step c2 c3 c6 (by omega) (hms j hj)
        rw [← es] at hS'
        exact ih (j + 1) (by omega) (by omega) n1 n2 σ4 (fun k hk => by rw [e4, put_o hk, e3, put_o hk, fr k hk]) hS'
  have loop1 : ∀ f j, rk (pa (σ 38) (σ 36) j) < f → pa (σ 38) (σ 36) j < 346 → Sn σ (pa (σ 38) (σ 36) j) = true → ∀ (m : Nat), 1 ≤ m → m ≤ 1000000 → (∀ i, i < j → (m : Int) ≤ spf (σ 37) (ltf (σ 38) (pa (σ 38) (σ 36) i))) → wp_X6_pushes_5 Q f (nI m) (nI (pa (σ 38) (σ 36) j)) σ := by
    intro f
    induction f with
    | zero => intro j hf; omega
    | succ f ih =>
      intro j hf hlt hsn m hm1 hm2 hms
      rw [wp_X6_pushes_5]
      refine pk_eq (pa (σ 38) (σ 36) j) 0 (fun z => ?_) (fun z => ?_) rfl rfl (by omega) (by omega)
      · refine ⟨347, loop2 m j hm1 hm2 z hms 347 0 ?_ (by omega) (by show 1 < 346; omega) h1 σ (fun _ _ => rfl) (PS.rf (fun a ha => (hG.2.1 a ha).2.2.2))⟩
        have := (hR 1 (by decide) h1).1
        show rk 1 < 347
        omega
      · obtain ⟨-, r2⟩ := hR _ hlt hsn
        obtain ⟨c1, c2, c3, c4, c5, c6⟩ := r2 z
        obtain ⟨n1, n2, n3⟩ := pn j z hlt hsn
        have hp := pr_lt c2
        obtain ⟨u1, u2, u3⟩ := hG.up c2
        have cx : (nI (pa (σ 38) (σ 36) j)).toNatClampNeg = pa (σ 38) (σ 36) j := nI_clamp (by omega)
        have ce : (nI (ltf (σ 38) (pa (σ 38) (σ 36) j))).toNatClampNeg = ltf (σ 38) (pa (σ 38) (σ 36) j) := nI_clamp (by omega)
        have cp : (nI (pr (ltf (σ 38) (pa (σ 38) (σ 36) j)))).toNatClampNeg = pr (ltf (σ 38) (pa (σ 38) (σ 36) j)) := nI_clamp (by omega)
        have vx : vp_in (nI (pa (σ 38) (σ 36) j)) 346 := vp_in_nI hlt (by decide)
        have ve : vp_in (nI (ltf (σ 38) (pa (σ 38) (σ 36) j))) 4000 := vp_in_nI (by omega) (by decide)
        have vp : vp_in (nI (pr (ltf (σ 38) (pa (σ 38) (σ 36) j)))) 4000 := vp_in_nI (by omega) (by decide)
        rw [cx, c1, ce, u3]
        have next : ∀ (m' : Nat), 1 ≤ m' → m' ≤ m → (m' : Int) ≤ spf (σ 37) (ltf (σ 38) (pa (σ 38) (σ 36) j)) → vp_in (nI (pa (σ 38) (σ 36) j)) 346 ∧ (vp_in (nI (ltf (σ 38) (pa (σ 38) (σ 36) j)) ^^^ (1 : Int32)) 4000 ∧ (∀ x2_8 : Int32, x2_8 = (σ 36 ((nI (ltf (σ 38) (pa (σ 38) (σ 36) j)) ^^^ (1 : Int32))).toNatClampNeg) → (wp_X6_pushes_5 Q f (nI m') x2_8 σ))) := by
          intro m' w1 w2 w3
          rw [e_xor (by omega), cp, (hG.2.1 _ hp).2.1]
          refine ⟨vx, vp, fun x2 e2 => ?_⟩
          subst e2
          refine ih (j + 1) (by omega) n1 n2 m' w1 (by omega) (fun i hi => ?_)
          by_cases q : i = j
          · subst q; exact w3
          · have := hms i (by omega); omega
        refine ⟨vx, ve, ?_⟩
        unfold wp_X6_lesser
        refine pk_le (spf (σ 37) (ltf (σ 38) (pa (σ 38) (σ 36) j))).toNat m (fun hle => ?_) (fun hgt => ?_) rfl rfl (by omega) (by omega)
        · have := next (spf (σ 37) (ltf (σ 38) (pa (σ 38) (σ 36) j))).toNat (by omega) hle (by omega)
          dsimp only; rw [c1]; exact this
        · have := next m hm1 (Nat.le_refl _) (by omega)
          dsimp only; rw [c1]; exact this
  refine ⟨347, loop1 347 0 ?_ (by show 1 < 346; omega) h1 1000000 (by omega) (by omega) (fun i hi => by omega)⟩
  have := (hR 1 (by decide) h1).1
  show rk 1 < 347
  omega
