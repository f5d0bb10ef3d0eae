/-! SUMS, FLOWS AND CUTS over pairs of arcs: arc 2i goes from lt (2i+1) to lt (2i), arc 2i+1 back; sp a is what can still go along arc a. -/
def sm : Nat → (Nat → Int) → Int
  | 0, _ => 0
  | n + 1, f => sm n f + f n
theorem sm_congr {n : Nat} {f g : Nat → Int} (h : ∀ i, i < n → f i = g i) : sm n f = sm n g := by
  induction n with
  | zero => rfl
  | succ n ih => rw [sm, sm, ih (fun i hi => h i (by omega)), h n (by omega)]
theorem sm_add (n : Nat) (f g : Nat → Int) : sm n (fun i => f i + g i) = sm n f + sm n g := by
  induction n with
  | zero => rfl
  | succ n ih => rw [sm, sm, sm, ih]; omega
theorem sm_sub (n : Nat) (f g : Nat → Int) : sm n (fun i => f i - g i) = sm n f - sm n g := by
  induction n with
  | zero => rfl
  | succ n ih => rw [sm, sm, sm, ih]; omega
theorem sm_mul (n : Nat) (c : Int) (f : Nat → Int) : sm n (fun i => c * f i) = c * sm n f := by
  induction n with
  | zero => simp [sm]
  | succ n ih => rw [sm, sm, ih, Int.mul_add]
theorem sm_zero {n : Nat} {f : Nat → Int} (h : ∀ i, i < n → f i = 0) : sm n f = 0 := by
  induction n with
  | zero => rfl
  | succ n ih => rw [sm, ih (fun i hi => h i (by omega)), h n (by omega)]; rfl
theorem sm_le {n : Nat} {f g : Nat → Int} (h : ∀ i, i < n → f i ≤ g i) : sm n f ≤ sm n g := by
  induction n with
  | zero => exact Int.le_refl _
  | succ n ih =>
    rw [sm, sm]
    have h1 := ih (fun i hi => h i (by omega))
    have h2 := h n (by omega)
    omega
theorem sm_nn {n : Nat} {f : Nat → Int} (h : ∀ i, i < n → 0 ≤ f i) : 0 ≤ sm n f := by
  have := sm_le (n := n) (f := fun _ => 0) (g := f) h
  rwa [sm_zero (fun _ _ => rfl)] at this
theorem sm_tight {n : Nat} {f g : Nat → Int} (h : ∀ i, i < n → f i ≤ g i) (e : sm n g ≤ sm n f) : ∀ i, i < n → f i = g i := by
  induction n with
  | zero => intro i hi; omega
  | succ n ih =>
    rw [sm, sm] at e
    have h1 := sm_le (n := n) (f := f) (g := g) (fun i hi => h i (by omega))
    have h2 := h n (by omega)
    intro i hi
    by_cases hn : i = n
    · subst hn; omega
    · exact ih (fun i hi => h i (by omega)) (by omega) i (by omega)
theorem sm_swap (n m : Nat) (f : Nat → Nat → Int) : sm n (fun i => sm m (fun j => f i j)) = sm m (fun j => sm n (fun i => f i j)) := by
  induction n with
  | zero => rw [sm, sm_zero]; intro i _; rfl
  | succ n ih =>
    rw [sm, ih, ← sm_add]
    exact sm_congr (fun j _ => rfl)
theorem sm_one {n k : Nat} (x : Int) (h : k < n) : sm n (fun i => if i = k then x else 0) = x := by
  induction n with
  | zero => omega
  | succ n ih =>
    rw [sm]
    by_cases hk : k = n
    · subst hk
      rw [sm_zero (fun i hi => by rw [if_neg (by omega)]), if_pos rfl]; omega
    · rw [ih (by omega), if_neg (by omega)]; omega
theorem sm_mem {n k : Nat} {f : Nat → Int} (h : ∀ i, i < n → 0 ≤ f i) (hk : k < n) : f k ≤ sm n f := by
  induction n with
  | zero => omega
  | succ n ih =>
    rw [sm]
    by_cases e : k = n
    · subst e
      have := sm_nn (n := k) (f := f) (fun i hi => h i (by omega))
      omega
    · have h1 := ih (fun i hi => h i (by omega)) (by omega)
      have h2 := h n (by omega)
      omega
/-- the other arc of a pair -/
def pr (a : Nat) : Nat := if a % 2 = 0 then a + 1 else a - 1
theorem pr_even (i : Nat) : pr (2 * i) = 2 * i + 1 := by unfold pr; rw [if_pos (by omega)]
theorem pr_odd (i : Nat) : pr (2 * i + 1) = 2 * i := by unfold pr; rw [if_neg (by omega)]; omega
theorem pr_pr (a : Nat) : pr (pr a) = a := by unfold pr; split <;> (split <;> omega)
theorem pr_ne (a : Nat) : pr a ≠ a := by unfold pr; split <;> omega
theorem pr_lt {a E : Nat} (h : a < 2 * E) : pr a < 2 * E := by unfold pr; split <;> omega
theorem pr_xor (a : Nat) : a ^^^ 1 = pr a := by
  have h1 : (a ^^^ 1) / 2 = a / 2 := by rw [Nat.xor_div_two]; simp
  have h2 : ((a ^^^ 1) % 2 = 1) ↔ ¬ ((a % 2 = 1) ↔ (1 % 2 = 1)) := Nat.xor_mod_two_eq_one
  unfold pr
  split <;> omega
/-- what goes, seen by a test χ of the nodes -/
def Fl (E : Nat) (lt : Nat → Nat) (sp : Nat → Int) (χ : Nat → Int) : Int := sm E (fun i => sp (2 * i + 1) * (χ (lt (2 * i + 1)) - χ (lt (2 * i))))
/-- what could go at most, seen by a test g of pairs of nodes -/
def Cp (E : Nat) (lt : Nat → Nat) (sp : Nat → Int) (g : Nat → Nat → Int) : Int := sm E (fun i => (sp (2 * i) + sp (2 * i + 1)) * g (lt (2 * i + 1)) (lt (2 * i)))
/-- m more along arc a -/
def psh (sp : Nat → Int) (a : Nat) (m : Int) : Nat → Int := fun b => if b = a then sp b - m else if b = pr a then sp b + m else sp b
theorem sm_chg {n k : Nat} {f g : Nat → Int} (hk : k < n) (h : ∀ i, i < n → i ≠ k → f i = g i) : sm n f = sm n g + (f k - g k) := by
  have e : sm n f = sm n (fun i => g i + (if i = k then f k - g k else 0)) := sm_congr (fun i hi => by
    by_cases hik : i = k
    · subst hik; simp; omega
    · rw [if_neg hik, h i hi hik]; omega)
  rw [e, sm_add, sm_one _ hk]
theorem Fl_psh {E : Nat} {lt : Nat → Nat} {sp : Nat → Int} {χ : Nat → Int} {a : Nat} {m : Int} (ha : a < 2 * E) : Fl E lt (psh sp a m) χ = Fl E lt sp χ + m * (χ (lt (pr a)) - χ (lt a)) := by
  unfold Fl
  rcases Nat.mod_two_eq_zero_or_one a with h | h
  · obtain ⟨i, rfl⟩ : ∃ i, a = 2 * i := ⟨a / 2, by omega⟩
    rw [sm_chg (k := i) (g := fun i => sp (2 * i + 1) * (χ (lt (2 * i + 1)) - χ (lt (2 * i)))) (by omega)]
    · rw [pr_even]
      have : psh sp (2 * i) m (2 * i + 1) = sp (2 * i + 1) + m := by unfold psh; rw [if_neg (by omega), if_pos (by rw [pr_even])]
      rw [this, Int.add_mul]; omega
    · intro j hj hne
      have : psh sp (2 * i) m (2 * j + 1) = sp (2 * j + 1) := by unfold psh; rw [if_neg (by omega), if_neg (by rw [pr_even]; omega)]
      rw [this]
  · obtain ⟨i, rfl⟩ : ∃ i, a = 2 * i + 1 := ⟨a / 2, by omega⟩
    rw [sm_chg (k := i) (g := fun i => sp (2 * i + 1) * (χ (lt (2 * i + 1)) - χ (lt (2 * i)))) (by omega)]
    · rw [pr_odd]
      have : psh sp (2 * i + 1) m (2 * i + 1) = sp (2 * i + 1) - m := by unfold psh; rw [if_pos rfl]
      rw [this, Int.sub_mul]
      have e : m * (χ (lt (2 * i)) - χ (lt (2 * i + 1))) = -(m * (χ (lt (2 * i + 1)) - χ (lt (2 * i)))) := by rw [← Int.mul_neg]; congr 1; omega
      omega
    · intro j hj hne
      have : psh sp (2 * i + 1) m (2 * j + 1) = sp (2 * j + 1) := by unfold psh; rw [if_neg (by omega), if_neg (by rw [pr_odd]; omega)]
      rw [this]
theorem psh_pair {sp : Nat → Int} {a : Nat} {m : Int} (i : Nat) : psh sp a m (2 * i) + psh sp a m (2 * i + 1) = sp (2 * i) + sp (2 * i + 1) := by
  unfold psh pr
  split <;> split <;> (try split) <;> (try split) <;> omega
theorem Cp_psh {E : Nat} {lt : Nat → Nat} {sp : Nat → Int} {g : Nat → Nat → Int} {a : Nat} {m : Int} : Cp E lt (psh sp a m) g = Cp E lt sp g := sm_congr (fun i _ => by rw [psh_pair])
/-- the test of a set -/
def chi (S : Nat → Bool) (u : Nat) : Int := if S u then 1 else 0
def crs (S : Nat → Bool) (u w : Nat) : Int := if S u && !S w then 1 else 0
theorem chi_le (S : Nat → Bool) (u w : Nat) (f c : Int) (h0 : 0 ≤ f) (h1 : f ≤ c) : f * (chi S u - chi S w) ≤ c * crs S u w := by
  unfold chi crs
  cases S u <;> cases S w <;> simp <;> omega
/-- no flow is more than a cut -/
theorem weak {E : Nat} {lt : Nat → Nat} {sp : Nat → Int} {s t : Nat} {v : Int} (hsp : ∀ a, a < 2 * E → 0 ≤ sp a) (hF : ∀ χ, Fl E lt sp χ = v * (χ s - χ t)) (S : Nat → Bool) (hs : S s = true) (ht : S t = false) : v ≤ Cp E lt sp (crs S) := by
  have h1 := hF (chi S)
  have h2 : Fl E lt sp (chi S) ≤ Cp E lt sp (crs S) := sm_le (fun i hi => chi_le S _ _ _ _ (hsp _ (by omega)) (by have := hsp (2 * i) (by omega); omega))
  rw [h1] at h2
  simp [chi, hs, ht] at h2
  exact h2
/-- a cut that no flow can still leave is as much as the flow -/
theorem strong {E : Nat} {lt : Nat → Nat} {sp : Nat → Int} {s t : Nat} {v : Int} (hsp : ∀ a, a < 2 * E → 0 ≤ sp a) (hF : ∀ χ, Fl E lt sp χ = v * (χ s - χ t)) (S : Nat → Bool) (hs : S s = true) (ht : S t = false) (hcl : ∀ a, a < 2 * E → S (lt (pr a)) = true → 0 < sp a → S (lt a) = true) : v = Cp E lt sp (crs S) := by
  have h1 := hF (chi S)
  have h2 : Fl E lt sp (chi S) = Cp E lt sp (crs S) := sm_congr (fun i hi => by
    have e1 := hcl (2 * i) (by omega)
    have e2 := hcl (2 * i + 1) (by omega)
    have n1 := hsp (2 * i) (by omega)
    have n2 := hsp (2 * i + 1) (by omega)
    rw [pr_even] at e1
    rw [pr_odd] at e2
    unfold chi crs
    cases h3 : S (lt (2 * i + 1)) <;> cases h4 : S (lt (2 * i))
    · simp
    · have : sp (2 * i + 1) = 0 := by
        rcases Int.lt_or_le 0 (sp (2 * i + 1)) with z | z
        · have := e2 h4 z; rw [h3] at this; cases this
        · omega
      simp [this]
    · have : sp (2 * i) = 0 := by
        rcases Int.lt_or_le 0 (sp (2 * i)) with z | z
        · have := e1 h3 z; rw [h4] at this; cases this
        · omega
      simp [this]
    · simp)
  rw [h1] at h2
  simp [chi, hs, ht] at h2
  exact h2
/-- a cut that is as much as the flow can't be left -/
theorem closed {E : Nat} {lt : Nat → Nat} {sp : Nat → Int} {s t : Nat} {v : Int} (hsp : ∀ a, a < 2 * E → 0 ≤ sp a) (hF : ∀ χ, Fl E lt sp χ = v * (χ s - χ t)) (S : Nat → Bool) (hs : S s = true) (ht : S t = false) (hv : Cp E lt sp (crs S) ≤ v) : ∀ a, a < 2 * E → S (lt (pr a)) = true → 0 < sp a → S (lt a) = true := by
  have h1 := hF (chi S)
  have h2 : Cp E lt sp (crs S) ≤ Fl E lt sp (chi S) := by
    rw [h1]
    simp [chi, hs, ht]
    exact hv
  have h3 := sm_tight (fun i hi => chi_le S (lt (2 * i + 1)) (lt (2 * i)) _ _ (hsp (2 * i + 1) (by omega)) (by have := hsp (2 * i) (by omega); omega)) h2
  intro a ha hS h0
  rcases Nat.mod_two_eq_zero_or_one a with h | h
  · obtain ⟨i, rfl⟩ : ∃ i, a = 2 * i := ⟨a / 2, by omega⟩
    have h4 := h3 i (by omega)
    rw [pr_even] at hS
    unfold chi crs at h4
    cases h5 : S (lt (2 * i))
    · rw [h5, hS] at h4
      simp at h4
      omega
    · rfl
  · obtain ⟨i, rfl⟩ : ∃ i, a = 2 * i + 1 := ⟨a / 2, by omega⟩
    have h4 := h3 i (by omega)
    rw [pr_odd] at hS
    unfold chi crs at h4
    cases h5 : S (lt (2 * i + 1))
    · rw [h5, hS] at h4
      simp at h4
      omega
    · rfl
