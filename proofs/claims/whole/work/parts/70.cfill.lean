/-! the class's ways through: the next arc, one way filled -/
theorem s_arcNearer {τ : Sg} {E x k l : Nat} {Q : Int32 → Sg → Prop} (hG : GG (τ 19) (τ 20) (τ 21) (τ 22) E) (hx : x < 346) (ht : τ 24 x = la (τ 21) x k) (hk : k ≤ 2 * E) (hl : τ 23 x = nI (l + 1))
    (h1 : (∀ e, e < k → ltf (τ 21) (pr e) = x → 0 < spf (τ 22) e → τ 23 (ltf (τ 21) e) ≠ nI l) → Q (-1) (put τ 24 x (-1)))
    (h2 : ∀ e, e < k → ltf (τ 21) (pr e) = x → 0 < spf (τ 22) e → τ 23 (ltf (τ 21) e) = nI l → Q (nI e) (put τ 24 x (nI e))) : wp_X0_arcNearer τ (nI x) Q := by
  have h19 := hG.2.2.2
  have vx : vp_in (nI x) 346 := vp_in_nI hx (by decide)
  have cx : (nI x).toNatClampNeg = x := nI_clamp (by omega)
  have key : ∀ f k' c, k' < f → k' ≤ k → k' + c ≤ 3968 → (∀ e, k' ≤ e → e < k → ltf (τ 21) (pr e) = x → 0 < spf (τ 22) e → τ 23 (ltf (τ 21) e) ≠ nI l) → wp_X0_arcNearer_19 Q f (nI x) (la (τ 21) x k') (nI l) (nI c) τ := by
    intro f
    induction f with
    | zero => intro k' c hf; omega
    | succ f ih =>
      intro k' c hf hkk hc hd
      rw [wp_X0_arcNearer_19]
      have fin : la (τ 21) x k' = -1 → wp_X0_arcNearer_72 Q (nI x) (la (τ 21) x k') τ := by
        intro hz
        refine ⟨vx, fun σ4 e4 => ?_⟩
        rw [cx] at e4
        rw [e4, hz]
        refine h1 (fun e he h3 h4 => ?_)
        by_cases z : k' ≤ e
        · exact hd e z he h3 h4
        · rcases la_cases (τ 21) x k' with ⟨l1, l2⟩ | ⟨e', l1, l2, l3, l4⟩
          · exact absurd h3 (l2 e (by omega))
          · rw [l2] at hz
            exact absurd hz (nI_nm1 (by omega))
      refine ⟨fun z => fin ?_, fun z => ⟨fun z2 => fin z2, fun z2 => ?_⟩⟩
      · rw [show (3968 : Int32) = nI 3968 from rfl, nI_leI (by omega) (by omega)] at z
        have : k' = 0 := by omega
        subst this
        rfl
      · rcases la_cases (τ 21) x k' with ⟨l1, l2⟩ | ⟨e, l1, l2, l3, l4⟩
        · exact absurd l1 z2
        · have he : e < 2 * E := by omega
          obtain ⟨t1, t2, t3, t4⟩ := hG.2.1 e he
          have ve : vp_in (nI e) 3968 := vp_in_nI (by omega) (by decide)
          have ce : (nI e).toNatClampNeg = e := nI_clamp (by omega)
          rw [l2, ce, t2, nI_clamp (n := ltf (τ 21) e) (by omega)]
          have next : ¬ (0 < spf (τ 22) e ∧ τ 23 (ltf (τ 21) e) = nI l) → wp_X0_arcNearer_59 Q (fun z1 z2 z3 z4 σ => wp_X0_arcNearer_19 Q f z1 z2 z3 z4 σ) (nI x) (nI e) (nI l) (nI c) τ := by
            intro hn
            refine ⟨ve, fun x2 e2 x4 e4 => ?_⟩
            rw [ce, t1, l3] at e2
            rw [nI_1] at e4
            subst e2
            subst e4
            refine ih e (c + 1) (by omega) (by omega) (by omega) (fun e' a1 a2 a3 a4 => ?_)
            by_cases z : e' = e
            · subst z; exact fun w => hn ⟨a4, w⟩
            · by_cases z2 : e' < k'
              · exact absurd a3 (l4 e' (by omega) z2)
              · exact hd e' (by omega) a2 a3 a4
          refine ⟨ve, fun hle => next (fun w => ?_), fun hgt => ⟨ve, vp_in_nI t3 (by decide), fun hm => ?_, fun hm => next (fun w => hm w.2)⟩⟩
          · rw [Int32.le_iff_toInt_le] at hle
            have w1 := w.1
            unfold spf at w1
            have : ((0 : Int32)).toInt = 0 := by decide
            omega
          · refine ⟨vx, fun σ4 e4 => ?_⟩
            rw [cx] at e4
            rw [e4]
            refine h2 e (by omega) l3 ?_ hm
            rw [Int32.le_iff_toInt_le] at hgt
            unfold spf
            have : ((0 : Int32)).toInt = 0 := by decide
            omega
  unfold wp_X0_arcNearer
  rw [cx, ht, hl]
  refine ⟨vx, fun x2 e2 => ⟨vx, fun x3 e3 => ⟨k + 1, ?_⟩⟩⟩
  rw [nI_pred] at e3
  subst e2
  subst e3
  exact key (k + 1) k 0 (by omega) (by omega) (by omega) (fun e a1 a2 => by omega)
def nn (τ : Sg) (j : Nat) : Nat := if j = 0 then 344 else ltf (τ 21) (ltf (τ 25) (j - 1))
/-- a way from the source, d arcs long; L is the source's level -/
def PTH (τ : Sg) (E L d : Nat) : Prop := d ≤ L ∧ L < 346 ∧ (∀ j, j < d → τ 25 j = nI (ltf (τ 25) j) ∧ ltf (τ 25) j < 2 * E ∧ ltf (τ 21) (pr (ltf (τ 25) j)) = nn τ j) ∧ (∀ j, j ≤ d → τ 23 (nn τ j) = nI (L - j))
theorem PTH.pre {τ : Sg} {E L d d' : Nat} (h : PTH τ E L d) (hd : d' ≤ d) : PTH τ E L d' := ⟨by have := h.1; omega, h.2.1, fun j hj => h.2.2.1 j (by omega), fun j hj => h.2.2.2 j (by omega)⟩
theorem nn_s (τ : Sg) (j : Nat) : nn τ (j + 1) = ltf (τ 21) (ltf (τ 25) j) := by unfold nn; rw [if_neg (by omega)]; rfl
theorem PTH.lt {τ : Sg} {E L d : Nat} (hG : GG (τ 19) (τ 20) (τ 21) (τ 22) E) (h : PTH τ E L d) {j : Nat} (hj : j ≤ d) : nn τ j < 346 := by
  cases j with
  | zero => unfold nn; simp
  | succ j => rw [nn_s]; exact (hG.2.1 _ (h.2.2.1 j (by omega)).2.1).2.2.1
theorem PTH.cg {τ υ : Sg} {E L d : Nat} (h : PTH τ E L d) (h21 : υ 21 = τ 21) (h23 : υ 23 = τ 23) (h25 : ∀ j, j < d → υ 25 j = τ 25 j) : PTH υ E L d ∧ ∀ j, j ≤ d → nn υ j = nn τ j := by
  have e : ∀ j, j ≤ d → nn υ j = nn τ j := by
    intro j hj
    cases j with
    | zero => unfold nn; rw [if_pos rfl, if_pos rfl]
    | succ j => rw [nn_s, nn_s, h21]; unfold ltf; rw [h25 j (by omega)]
  refine ⟨⟨h.1, h.2.1, fun j hj => ?_, fun j hj => by rw [h23, e j hj]; exact h.2.2.2 j hj⟩, e⟩
  have l : ltf (υ 25) j = ltf (τ 25) j := by unfold ltf; rw [h25 j hj]
  rw [l, h25 j hj, h21, e j (by omega)]
  exact h.2.2.1 j hj
theorem s_fillPath {τ : Sg} {E L d W : Nat} {Q : Int32 → Sg → Prop} (hG : GG (τ 19) (τ 20) (τ 21) (τ 22) E) (hP : PTH τ E L d) (hd : 1 ≤ d) (hz : nn τ d = 345) (hW : τ 4 3 = nI W) (hW2 : W ≤ 1000)
    (h : ∀ (q m : Nat) (υ : Sg), q < d → m ≤ W → (1 ≤ W → (∀ i, i < d → 0 < spf (τ 22) (ltf (τ 25) i)) → 1 ≤ m) → (∀ k, k ≠ 4 → k ≠ 22 → υ k = τ k) → (∀ j, j ≠ 4 → υ 4 j = τ 4 j) → υ 4 4 = τ 4 4 + nI m →
      GG (υ 19) (υ 20) (υ 21) (υ 22) E → (∀ g, Cp E (ltf (υ 21)) (spf (υ 22)) g = Cp E (ltf (τ 21)) (spf (τ 22)) g) → (∀ χ, Fl E (ltf (υ 21)) (spf (υ 22)) χ = Fl E (ltf (τ 21)) (spf (τ 22)) χ + (m : Int) * (χ 344 - χ 345)) → Q (nI q) υ) : wp_X0_fillPath τ (nI d) Q := by
  have h19 := hG.2.2.2
  obtain ⟨p1, p2, p3, p4⟩ := hP
  -- the second loop
  have loop2 : ∀ (m : Nat), m ≤ W → (1 ≤ W → (∀ i, i < d → 0 < spf (τ 22) (ltf (τ 25) i)) → 1 ≤ m) → (∀ i, i < d → (m : Int) ≤ spf (τ 22) (ltf (τ 25) i)) → ∀ c, c ≤ d → ∀ (q : Nat) (υ : Sg), q < d → (∀ k, k ≠ 22 → υ k = τ k) →
      PS E (ltf (τ 21)) (spf (τ 22)) (spf (υ 22)) (fun u => 346 - (τ 23 u).toNatClampNeg) m (nn τ c) 345 → wp_X0_fillPath_56 Q (c + 1) (nI m) (nI q) (nI c + (-1)) υ := by
    intro m hm hm1 hms c
    induction c with
    | zero =>
      intro _ q υ hq f hS
      rw [wp_X0_fillPath_56]
      refine ⟨fun _ σ5 e5 => ?_, fun z => absurd (by decide) z⟩
      have o : ∀ k, k ≠ 4 → σ5 k = υ k := fun k hk => by rw [e5, put_o hk]
      refine h q m σ5 hq hm hm1 (fun k k4 k22 => by rw [o k k4, f k k22]) (fun j hj => by rw [e5, put_n hj, f 4 (by decide)]) (by rw [e5, put_s, f 4 (by decide)]) ?_ (fun g => ?_) (fun χ => ?_)
      · rw [o 19 (by decide), o 20 (by decide), o 21 (by decide), o 22 (by decide), f 19 (by decide), f 20 (by decide), f 21 (by decide)]
        exact hS.gg hG
      · rw [o 21 (by decide), o 22 (by decide), f 21 (by decide)]
        exact hS.cp g
      · rw [o 21 (by decide), o 22 (by decide), f 21 (by decide)]
        exact hS.2.2.1 χ
    | succ c ih =>
      intro hc q υ hq f hS
      obtain ⟨r1, r2, r3⟩ := p3 c (by omega)
      have ge := hS.gg hG
      have hlt := pr_lt r2
      have ce : (nI c).toNatClampNeg = c := nI_clamp (by omega)
      have cr : (nI (ltf (τ 25) c)).toNatClampNeg = ltf (τ 25) c := nI_clamp (by omega)
      have cpr : (nI (pr (ltf (τ 25) c))).toNatClampNeg = pr (ltf (τ 25) c) := nI_clamp (by omega)
      have vc : vp_in (nI c) 346 := vp_in_nI (by omega) (by decide)
      have vr : vp_in (nI (ltf (τ 25) c)) 3968 := vp_in_nI (by omega) (by decide)
      have vpr : vp_in (nI (pr (ltf (τ 25) c))) 3968 := vp_in_nI (by omega) (by decide)
      rw [pk_m1, wp_X0_fillPath_56, ce, f 25 (by decide), r1, cr]
      refine ⟨fun z => absurd z (nI_pos (by omega)), fun _ => ⟨vc, vr, vr, fun σ6 e6 => ?_⟩⟩
      have q25 : σ6 25 = τ 25 := by rw [e6, put_o (by decide), f 25 (by decide)]
      rw [q25, r1, e_xor (by omega), cpr]
      refine ⟨vc, vpr, vpr, fun σ7 e7 => ?_⟩
      have s25 : σ7 25 = τ 25 := by rw [e7, put_o (by decide), q25]
      rw [s25, r1, cr]
      have f7 : ∀ k, k ≠ 22 → σ7 k = τ k := fun k hk => by rw [e7, put_o hk, e6, put_o hk, f k hk]
      have hne := pr_ne (ltf (τ 25) c)
      have a22 : ∀ b, σ7 22 b = if b = pr (ltf (τ 25) c) then υ 22 b + nI m else if b = ltf (τ 25) c then υ 22 b - nI m else υ 22 b := by
        intro b
        rw [e7, put_at]
        by_cases z : b = pr (ltf (τ 25) c)
        · subst z
          rw [if_pos ⟨rfl, rfl⟩, if_pos rfl, e6, put_n hne]
        · rw [if_neg (fun w => z w.2), if_neg z, e6, put_at]
          by_cases z2 : b = ltf (τ 25) c
          · subst z2
            rw [if_pos ⟨rfl, rfl⟩, if_pos rfl]
          · rw [if_neg (fun w => z2 w.2), if_neg z2]
      have mi : (nI m).toInt = m := nI_toInt (by omega)
      have es := spf_psh ge r2 (x := nI m) (by omega) (by omega) a22
      rw [mi] at es
      have hS' : PS E (ltf (τ 21)) (spf (τ 22)) (spf (σ7 22)) (fun u => 346 - (τ 23 u).toNatClampNeg) m (nn τ c) 345 := by
        rw [es, ← r3]
        refine hS.step r2 (nn_s τ c).symm ?_ (by omega) (hms c (by omega))
        show 346 - (τ 23 (ltf (τ 21) (pr (ltf (τ 25) c)))).toNatClampNeg < 346 - (τ 23 (nn τ (c + 1))).toNatClampNeg
        rw [r3, p4 c (by omega), p4 (c + 1) (by omega), nI_clamp (by omega), nI_clamp (by omega)]
        omega
      refine ⟨vc, vr, fun _ => ?_, fun _ => ?_⟩
      · intro x4 e4
        subst e4
        exact ih (by omega) c σ7 (by omega) f7 hS'
      · intro x4 e4
        subst e4
        exact ih (by omega) q σ7 hq f7 hS'
  -- the first loop
  have loop1 : ∀ r j, j + r = d → ∀ m, m ≤ W → (1 ≤ W → (∀ i, i < j → 0 < spf (τ 22) (ltf (τ 25) i)) → 1 ≤ m) → (∀ i, i < j → (m : Int) ≤ spf (τ 22) (ltf (τ 25) i)) → wp_X0_fillPath_7 Q (r + 1) (nI d) (nI m) (nI j) τ := by
    intro r
    induction r with
    | zero =>
      intro j hj m hm hm1 hms
      have : j = d := by omega
      subst this
      rw [wp_X0_fillPath_7]
      refine ⟨fun _ x4 e4 => ⟨j + 1, ?_⟩, fun z => absurd (nI_le (Nat.le_refl _) (by omega)) z⟩
      have e5 : x4 = nI j + (-1) := by
        rw [e4]
        obtain ⟨j', rfl⟩ : ∃ j', j = j' + 1 := ⟨j - 1, by omega⟩
        rw [pk_m1, nI_pred]
      rw [e5]
      refine loop2 m hm hm1 hms j (Nat.le_refl _) 0 τ (by omega) (fun _ _ => rfl) ?_
      rw [hz]
      exact PS.rf (fun a ha => (hG.2.1 a ha).2.2.2)
    | succ r ih =>
      intro j hj m hm hm1 hms
      obtain ⟨r1, r2, r3⟩ := p3 j (by omega)
      obtain ⟨u1, u2, u3⟩ := hG.up r2
      have vj : vp_in (nI j) 346 := vp_in_nI (by omega) (by decide)
      have vr : vp_in (nI (ltf (τ 25) j)) 3968 := vp_in_nI (by omega) (by decide)
      rw [wp_X0_fillPath_7, nI_clamp (n := j) (by omega), r1, nI_clamp (n := ltf (τ 25) j) (by omega), u3]
      refine ⟨fun z => absurd z (nI_ge (by omega) (by omega)), fun _ => ⟨vj, vr, ?_⟩⟩
      refine pk_le m (spf (τ 22) (ltf (τ 25) j)).toNat (fun hle => ?_) (fun hgt => ⟨vj, vr, ?_⟩) rfl rfl (by omega) (by omega)
      · intro x3 e3
        rw [nI_1] at e3
        subst e3
        refine ih (j + 1) (by omega) m hm (fun w1 w2 => hm1 w1 (fun i hi => w2 i (by omega))) (fun i hi => ?_)
        by_cases z : i = j
        · subst z; omega
        · exact hms i (by omega)
      · intro x3 e3
        rw [nI_1] at e3
        subst e3
        refine ih (j + 1) (by omega) _ (by omega) (fun w1 w2 => by have := w2 j (by omega); omega) (fun i hi => ?_)
        by_cases z : i = j
        · subst z; omega
        · have := hms i (by omega); omega
  unfold wp_X0_fillPath
  intro x2 e2
  rw [hW] at e2
  subst e2
  exact ⟨d + 1, loop1 d 0 (by omega) W (Nat.le_refl _) (fun w _ => w) (fun i hi => by omega)⟩
