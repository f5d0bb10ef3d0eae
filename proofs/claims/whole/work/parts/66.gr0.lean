/-! THE GRAPH as rows of arcs: what both nets share. -/
def ltf (to : Nat → Int32) (a : Nat) : Nat := (to a).toNatClampNeg
def spf (sp : Nat → Int32) (a : Nat) : Int := (sp a).toInt
/-- the last arc below n out of u -/
def la (to : Nat → Int32) (u : Nat) : Nat → Int32
  | 0 => -1
  | n + 1 => if ltf to (pr n) = u then nI n else la to u n
theorem la_congr {to to' : Nat → Int32} {E : Nat} (h : ∀ a, a < 2 * E → to' a = to a) (u : Nat) : ∀ n, n ≤ 2 * E → la to' u n = la to u n := by
  intro n
  induction n with
  | zero => intro _; rfl
  | succ n ih =>
    intro hn
    rw [la, la, ih (by omega)]
    unfold ltf
    rw [h (pr n) (pr_lt (by omega))]
theorem la_cases (to : Nat → Int32) (u : Nat) : ∀ n, (la to u n = -1 ∧ ∀ a, a < n → ltf to (pr a) ≠ u) ∨ ∃ a, a < n ∧ la to u n = nI a ∧ ltf to (pr a) = u ∧ ∀ b, a < b → b < n → ltf to (pr b) ≠ u := by
  intro n
  induction n with
  | zero => exact Or.inl ⟨rfl, fun a h => by omega⟩
  | succ n ih =>
    rw [la]
    by_cases h : ltf to (pr n) = u
    · rw [if_pos h]
      exact Or.inr ⟨n, by omega, rfl, h, fun b h1 h2 => by omega⟩
    · rw [if_neg h]
      rcases ih with ⟨i1, i2⟩ | ⟨a, i1, i2, i3, i4⟩
      · refine Or.inl ⟨i1, fun a ha => ?_⟩
        by_cases e : a = n
        · subst e; exact h
        · exact i2 a (by omega)
      · refine Or.inr ⟨a, by omega, i2, i3, fun b h1 h2 => ?_⟩
        by_cases e : b = n
        · subst e; exact h
        · exact i4 b h1 (by omega)
theorem nI_nm1 {n : Nat} (h : n < 2147483648) : ¬ nI n = -1 := by
  intro e
  have h1 := nI_toInt (n := n) h
  rw [e] at h1
  have : ((-1 : Int32)).toInt = -1 := by decide
  omega
def GG (f nx to sp : Nat → Int32) (E : Nat) : Prop :=
  (∀ u, u < 346 → f u = la to u (2 * E)) ∧ (∀ a, a < 2 * E → nx a = la to (ltf to (pr a)) a ∧ to a = nI (ltf to a) ∧ ltf to a < 346 ∧ 0 ≤ spf sp a) ∧ (∀ i, i < E → spf sp (2 * i) + spf sp (2 * i + 1) ≤ 1000000) ∧ E ≤ 1984
theorem GG.up {f nx to sp : Nat → Int32} {E : Nat} (h : GG f nx to sp E) {a : Nat} (ha : a < 2 * E) : 0 ≤ spf sp a ∧ spf sp a ≤ 1000000 ∧ sp a = nI (spf sp a).toNat := by
  have h1 := (h.2.1 a ha).2.2.2
  have h2 := (h.2.1 (pr a) (pr_lt ha)).2.2.2
  have h3 := h.2.2.1 (a / 2) (by omega)
  refine ⟨h1, ?_, i_nI h1⟩
  rcases Nat.mod_two_eq_zero_or_one a with e | e
  · obtain ⟨i, rfl⟩ : ∃ i, a = 2 * i := ⟨a / 2, by omega⟩
    rw [pr_even] at h2
    rw [show 2 * i / 2 = i by omega] at h3
    omega
  · obtain ⟨i, rfl⟩ : ∃ i, a = 2 * i + 1 := ⟨a / 2, by omega⟩
    rw [pr_odd] at h2
    rw [show (2 * i + 1) / 2 = i by omega] at h3
    omega
theorem GG.nil {f nx to sp : Nat → Int32} (h : ∀ u, u < 346 → f u = -1) : GG f nx to sp 0 :=
  ⟨fun u hu => by rw [h u hu]; rfl, fun a ha => by omega, fun i hi => by omega, by omega⟩
theorem gg_join {f nx to sp f' nx' to' sp' : Nat → Int32} {E u w c : Nat} (hG : GG f nx to sp E) (hE : E < 1984) (hu : u < 346) (hw : w < 346) (hc : c ≤ 1000000)
    (ht : ∀ a, to' a = if a = 2 * E + 1 then nI u else if a = 2 * E then nI w else to a)
    (hs : ∀ a, sp' a = if a = 2 * E + 1 then nI 0 else if a = 2 * E then nI c else sp a)
    (hf : ∀ a, f' a = if a = w then nI (2 * E + 1) else if a = u then nI (2 * E) else f a)
    (hn : ∀ a, nx' a = if a = 2 * E + 1 then (if w = u then nI (2 * E) else f w) else if a = 2 * E then f u else nx a) :
    GG f' nx' to' sp' (E + 1) ∧ (∀ g, Cp (E + 1) (ltf to') (spf sp') g = Cp E (ltf to) (spf sp) g + c * g u w) ∧ (∀ χ, Fl (E + 1) (ltf to') (spf sp') χ = Fl E (ltf to) (spf sp) χ) := by
  obtain ⟨g1, g2, g3, g4⟩ := hG
  have t0 : ∀ a, a < 2 * E → to' a = to a := by intro a ha; rw [ht, if_neg (by omega), if_neg (by omega)]
  have lt0 : ltf to' (2 * E) = w := by unfold ltf; rw [ht, if_neg (by omega), if_pos rfl, nI_clamp (by omega)]
  have lt1 : ltf to' (2 * E + 1) = u := by unfold ltf; rw [ht, if_pos rfl, nI_clamp (by omega)]
  have l0 : ∀ a, a < 2 * E → ltf to' a = ltf to a := by intro a ha; unfold ltf; rw [t0 a ha]
  have s0 : ∀ a, a < 2 * E → spf sp' a = spf sp a := by intro a ha; unfold spf; rw [hs, if_neg (by omega), if_neg (by omega)]
  have se : spf sp' (2 * E) = c := by unfold spf; rw [hs, if_neg (by omega), if_pos rfl, nI_toInt (by omega)]
  have so : spf sp' (2 * E + 1) = 0 := by unfold spf; rw [hs, if_pos rfl, nI_toInt (by omega)]; rfl
  have q0 : ∀ v, la to' v (2 * E + 1) = if u = v then nI (2 * E) else la to v (2 * E) := by
    intro v; rw [la, pr_even, lt1, la_congr t0 v _ (Nat.le_refl _)]
  have q1 : ∀ v, la to' v (2 * (E + 1)) = if w = v then nI (2 * E + 1) else la to' v (2 * E + 1) := by
    intro v; rw [show 2 * (E + 1) = 2 * E + 1 + 1 by omega, la, pr_odd, lt0]
  refine ⟨⟨fun v hv => ?_, fun a ha => ?_, fun i hi => ?_, by omega⟩, fun g => ?_, fun χ => ?_⟩
  · rw [q1, q0, hf]
    by_cases e1 : w = v
    · rw [if_pos e1, if_pos e1.symm]
    · rw [if_neg e1, if_neg (fun z => e1 z.symm)]
      by_cases e2 : u = v
      · rw [if_pos e2, if_pos e2.symm]
      · rw [if_neg e2, if_neg (fun z => e2 z.symm)]; exact g1 v hv
  · by_cases e1 : a = 2 * E + 1
    · subst e1
      rw [pr_odd, lt0, q0, lt1, so, hn, if_pos rfl]
      refine ⟨?_, by rw [ht, if_pos rfl], hu, Int.le_refl _⟩
      by_cases e2 : w = u
      · rw [if_pos e2, if_pos e2.symm]
      · rw [if_neg e2, if_neg (fun z => e2 z.symm)]; exact g1 w hw
    · by_cases e2 : a = 2 * E
      · subst e2
        rw [pr_even, lt1, lt0, se, hn, if_neg (by omega), if_pos rfl]
        refine ⟨?_, by rw [ht, if_neg (by omega), if_pos rfl], hw, by omega⟩
        rw [la_congr t0 u _ (Nat.le_refl _)]
        exact g1 u hu
      · have ha' : a < 2 * E := by omega
        rw [l0 _ (pr_lt ha'), l0 a ha', s0 a ha', hn, if_neg e1, if_neg e2, la_congr t0 _ a (by omega), t0 a ha']
        exact g2 a ha'
  · by_cases e : i = E
    · subst e; rw [se, so]; omega
    · rw [s0 _ (by omega), s0 _ (by omega)]; exact g3 i (by omega)
  · unfold Cp
    rw [sm, lt0, lt1, se, so]
    rw [sm_congr (g := fun i => (spf sp (2 * i) + spf sp (2 * i + 1)) * g (ltf to (2 * i + 1)) (ltf to (2 * i))) (fun i hi => by rw [l0 _ (by omega), l0 _ (by omega), s0 _ (by omega), s0 _ (by omega)])]
    simp
  · unfold Fl
    rw [sm, so]
    rw [sm_congr (g := fun i => spf sp (2 * i + 1) * (χ (ltf to (2 * i + 1)) - χ (ltf to (2 * i)))) (fun i hi => by rw [l0 _ (by omega), l0 _ (by omega), s0 _ (by omega)])]
    simp
/-- m more along one arc -/
theorem spf_psh {f nx to sp sp' : Nat → Int32} {E a : Nat} {x : Int32} (hG : GG f nx to sp E) (ha : a < 2 * E) (h0 : 0 ≤ x.toInt) (h1 : x.toInt ≤ 1000000)
    (h : ∀ b, sp' b = if b = pr a then sp b + x else if b = a then sp b - x else sp b) : spf sp' = psh (spf sp) a x.toInt := by
  funext b
  obtain ⟨u1, u2, -⟩ := hG.up ha
  obtain ⟨v1, v2, -⟩ := hG.up (pr_lt ha)
  have hne := pr_ne a
  unfold psh
  unfold spf at u1 u2 v1 v2 ⊢
  rw [h]
  by_cases e1 : b = a
  · subst e1
    rw [if_neg (fun z => hne z.symm), if_pos rfl, if_pos rfl, i_sub (by omega) (by omega)]
  · rw [if_neg e1, if_neg e1]
    by_cases e2 : b = pr a
    · subst e2
      rw [if_pos rfl, if_pos rfl, i_add (by omega) (by omega)]
    · rw [if_neg e2, if_neg e2]
/-- along a way back from z: how far the pushing has come -/
def PS (E : Nat) (lt : Nat → Nat) (s0 s : Nat → Int) (rk : Nat → Nat) (m : Int) (x z : Nat) : Prop :=
  (∀ a, a < 2 * E → 0 ≤ s a) ∧ (∀ i, i < E → s (2 * i) + s (2 * i + 1) = s0 (2 * i) + s0 (2 * i + 1)) ∧ (∀ χ, Fl E lt s χ = Fl E lt s0 χ + m * (χ x - χ z)) ∧ (∀ a, a < 2 * E → rk (lt a) ≤ rk x → rk (lt (pr a)) ≤ rk x → s a = s0 a)
theorem PS.rf {E : Nat} {lt : Nat → Nat} {s0 : Nat → Int} {rk : Nat → Nat} {m : Int} {z : Nat} (h : ∀ a, a < 2 * E → 0 ≤ s0 a) : PS E lt s0 s0 rk m z z :=
  ⟨h, fun _ _ => rfl, fun χ => by rw [Int.sub_self, Int.mul_zero, Int.add_zero], fun _ _ _ _ => rfl⟩
theorem PS.step {E : Nat} {lt : Nat → Nat} {s0 s : Nat → Int} {rk : Nat → Nat} {m : Int} {x z a : Nat} (h : PS E lt s0 s rk m x z) (ha : a < 2 * E) (hx : lt a = x) (hr : rk (lt (pr a)) < rk x) (hm : 0 ≤ m) (hma : m ≤ s0 a) : PS E lt s0 (psh s a m) rk m (lt (pr a)) z := by
  obtain ⟨p1, p2, p3, p4⟩ := h
  have ea : s a = s0 a := p4 a ha (by rw [hx]; omega) (by omega)
  refine ⟨fun b hb => ?_, fun i hi => by rw [psh_pair]; exact p2 i hi, fun χ => ?_, fun b hb h1 h2 => ?_⟩
  · unfold psh
    have := p1 b hb
    by_cases e1 : b = a
    · subst e1; rw [if_pos rfl]; omega
    · rw [if_neg e1]
      by_cases e2 : b = pr a
      · rw [if_pos e2]; omega
      · rw [if_neg e2]; exact this
  · rw [Fl_psh ha, p3, hx, Int.mul_sub, Int.mul_sub, Int.mul_sub]
    omega
  · have e1 : b ≠ a := by intro e; subst e; rw [hx] at h1; omega
    have e2 : b ≠ pr a := by intro e; subst e; rw [pr_pr, hx] at h2; omega
    unfold psh
    rw [if_neg e1, if_neg e2]
    exact p4 b hb (by omega) (by omega)
theorem PS.gg {f nx to sp sp' : Nat → Int32} {E : Nat} {rk : Nat → Nat} {m : Int} {x z : Nat} (hG : GG f nx to sp E) (h : PS E (ltf to) (spf sp) (spf sp') rk m x z) : GG f nx to sp' E :=
  ⟨hG.1, fun a ha => ⟨(hG.2.1 a ha).1, (hG.2.1 a ha).2.1, (hG.2.1 a ha).2.2.1, h.1 a ha⟩, fun i hi => by rw [h.2.1 i hi]; exact hG.2.2.1 i hi, hG.2.2.2⟩
theorem PS.cp {E : Nat} {lt : Nat → Nat} {s0 s : Nat → Int} {rk : Nat → Nat} {m : Int} {x z : Nat} (h : PS E lt s0 s rk m x z) (g : Nat → Nat → Int) : Cp E lt s g = Cp E lt s0 g :=
  sm_congr (fun i hi => by rw [h.2.1 i hi])
/-! a search through the graph: marks, the row of those found -/
def BF (to : Nat → Int32) (E : Nat) (cd : Nat → Prop) (M : Nat → Bool) (q : Nat → Int32) (n i : Nat) : Prop :=
  n ≤ 346 ∧ (∀ j, j < n → q j = nI (ltf q j) ∧ ltf q j < 346 ∧ M (ltf q j) = true) ∧ (∀ u, u < 346 → M u = true → ∃ j, j < n ∧ ltf q j = u) ∧ sm 346 (fun u => if M u then 1 else 0) = n ∧
  (∀ j, j < i → ∀ e, e < 2 * E → ltf to (pr e) = ltf q j → cd e → M (ltf to e) = true)
theorem BF.room {to : Nat → Int32} {E : Nat} {cd : Nat → Prop} {M : Nat → Bool} {q : Nat → Int32} {n i y : Nat} (h : BF to E cd M q n i) (hy : y < 346) (hM : M y = false) : n < 346 := by
  obtain ⟨b1, b2, b3, b4, b5⟩ := h
  have e := sm_chg (n := 346) (k := y) (f := fun u => if M u then 1 else 0) (g := fun u => if (u = y ∨ M u = true) then 1 else 0) hy (fun i hi hne => by simp [hne])
  have e2 : sm 346 (fun u => if (u = y ∨ M u = true) then (1 : Int) else 0) ≤ sm 346 (fun _ => (1 : Int)) := sm_le (fun i hi => by split <;> omega)
  have e3 : sm 346 (fun _ => (1 : Int)) = 346 := by
    have : ∀ k, sm k (fun _ => (1 : Int)) = k := by
      intro k
      induction k with
      | zero => rfl
      | succ k ih => rw [sm, ih]; omega
    exact this 346
  simp [hM] at e
  rw [b4] at e
  omega
theorem BF.mark {to : Nat → Int32} {E : Nat} {cd : Nat → Prop} {M M' : Nat → Bool} {q q' : Nat → Int32} {n i y : Nat} (h : BF to E cd M q n i) (hy : y < 346) (hM : M y = false) (hi : i < n)
    (hM' : ∀ u, M' u = if u = y then true else M u) (hq : ∀ j, q' j = if j = n then nI y else q j) : BF to E cd M' q' (n + 1) i := by
  have hr := h.room hy hM
  obtain ⟨b1, b2, b3, b4, b5⟩ := h
  have lq : ∀ j, j < n → ltf q' j = ltf q j := fun j hj => by unfold ltf; rw [hq, if_neg (by omega)]
  have ln : ltf q' n = y := by unfold ltf; rw [hq, if_pos rfl, nI_clamp (by omega)]
  refine ⟨by omega, fun j hj => ?_, fun u hu hm => ?_, ?_, fun j hj e he h1 h2 => ?_⟩
  · by_cases e : j = n
    · subst e; rw [ln, hq, if_pos rfl, hM', if_pos rfl]; exact ⟨rfl, hy, rfl⟩
    · rw [lq j (by omega), hq, if_neg e, hM']
      obtain ⟨c1, c2, c3⟩ := b2 j (by omega)
      refine ⟨c1, c2, ?_⟩
      split
      · rfl
      · exact c3
  · by_cases e : u = y
    · subst e; exact ⟨n, by omega, ln⟩
    · rw [hM', if_neg e] at hm
      obtain ⟨j, j1, j2⟩ := b3 u hu hm
      exact ⟨j, by omega, by rw [lq j j1]; exact j2⟩
  · have e := sm_chg (n := 346) (k := y) (f := fun u => if M' u then (1 : Int) else 0) (g := fun u => if M u then 1 else 0) hy (fun i hi hne => by rw [hM', if_neg hne])
    rw [e, b4, hM', if_pos rfl, hM]
    simp
  · rw [lq j (by omega)] at h1
    rw [hM']
    split
    · rfl
    · exact b5 j hj e he h1 h2
theorem BF.done {to : Nat → Int32} {E : Nat} {cd : Nat → Prop} {M : Nat → Bool} {q : Nat → Int32} {n i : Nat} (h : BF to E cd M q n i) (hd : ∀ e, e < 2 * E → ltf to (pr e) = ltf q i → cd e → M (ltf to e) = true) : BF to E cd M q n (i + 1) := by
  obtain ⟨b1, b2, b3, b4, b5⟩ := h
  refine ⟨b1, b2, b3, b4, fun j hj e he h1 h2 => ?_⟩
  by_cases ej : j = i
  · subst ej; exact hd e he h1 h2
  · exact b5 j (by omega) e he h1 h2
theorem BF.all {to : Nat → Int32} {E : Nat} {cd : Nat → Prop} {M : Nat → Bool} {q : Nat → Int32} {n : Nat} (h : BF to E cd M q n n) {e : Nat} (he : e < 2 * E) (hu : ltf to (pr e) < 346) (hm : M (ltf to (pr e)) = true) (hc : cd e) : M (ltf to e) = true := by
  obtain ⟨j, j1, j2⟩ := h.2.2.1 _ hu hm
  exact h.2.2.2.2 j j1 e he j2.symm hc
theorem BF.one {to : Nat → Int32} {E : Nat} {cd : Nat → Prop} {M : Nat → Bool} {q : Nat → Int32} {y : Nat} (hy : y < 346) (hM : ∀ u, u < 346 → M u = decide (u = y)) (hq : q 0 = nI y) : BF to E cd M q 1 0 := by
  have l0 : ltf q 0 = y := by unfold ltf; rw [hq, nI_clamp (by omega)]
  refine ⟨by omega, fun j hj => ?_, fun u hu hm => ⟨0, by omega, ?_⟩, ?_, fun j hj => by omega⟩
  · have : j = 0 := by omega
    subst this
    rw [l0, hM y hy]
    exact ⟨hq, hy, by simp⟩
  · rw [hM u hu] at hm
    rw [l0]; exact (of_decide_eq_true hm).symm
  · rw [sm_congr (g := fun i => if i = y then 1 else 0) (fun i hi => by rw [hM i hi]; simp), sm_one 1 hy]
    rfl
