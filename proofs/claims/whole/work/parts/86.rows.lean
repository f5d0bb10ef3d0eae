/-! rows of turns: bits, digits, towns -/
def bt (s r : Nat) : Nat := s / 2 ^ r % 2
def cb (s : Nat) : Nat → Nat
  | 0 => 0
  | n + 1 => cb s n + bt s n
def nz : Nat → Nat → Nat
  | _, 0 => 0
  | row, n + 1 => (if row % 3 = 0 then 0 else 1) + nz (row / 3) n
theorem bt_lt (s r : Nat) : bt s r < 2 := Nat.mod_lt _ (by decide)
theorem bt_hi {s n r : Nat} (h : s < 2 ^ n) (hr : n ≤ r) : bt s r = 0 := by
  unfold bt
  rw [Nat.div_eq_of_lt (Nat.lt_of_lt_of_le h (Nat.pow_le_pow_right (by decide) hr))]
theorem cb_mono (s n : Nat) : ∀ d, cb s n ≤ cb s (n + d) := by
  intro d
  induction d with
  | zero => exact Nat.le_refl _
  | succ d ih => rw [show n + (d + 1) = n + d + 1 by omega, cb]; omega
theorem cb_hi {s n : Nat} (h : s < 2 ^ n) : ∀ d, cb s (n + d) = cb s n := by
  intro d
  induction d with
  | zero => rfl
  | succ d ih => rw [show n + (d + 1) = n + d + 1 by omega, cb, bt_hi h (by omega), ih]; rfl
theorem cb_le (s : Nat) : ∀ n, cb s n ≤ n := by
  intro n
  induction n with
  | zero => exact Nat.le_refl _
  | succ n ih => have := bt_lt s n; rw [cb]; omega
theorem nz_0 : ∀ n, nz 0 n = 0 := by
  intro n
  induction n with
  | zero => rfl
  | succ n ih => rw [nz, Nat.zero_div, ih]; rfl
theorem nz_hi : ∀ c d row, row < 3 ^ c → nz row (c + d) = nz row c := by
  intro c
  induction c with
  | zero =>
    intro d row h
    have : row = 0 := by simpa using h
    rw [this, nz_0, nz_0]
  | succ c ih =>
    intro d row h
    rw [show c + 1 + d = c + d + 1 by omega, nz, nz, ih d (row / 3) (by rw [Nat.pow_succ] at h; omega)]
theorem nz_le : ∀ n row, nz row n ≤ n := by
  intro n
  induction n with
  | zero => intro row; exact Nat.le_refl _
  | succ n ih => intro row; have := ih (row / 3); rw [nz]; split <;> omega
def tk (a : AT) (r d : Nat) : Int := if d = 0 then 0 else if d = 1 then (aR a r 4 : Int) else -(aR a r 3 : Int)
def tD (a : AT) (r d : Nat) : AT := if d = 0 then a else turnRow a r (tk a r d)
def lr (s : Nat) : Nat → Nat → AT → AT
  | 0, _, a => a
  | n + 1, row, a => if bt s n = 1 then lr s n (row / 3) (tD a n (row % 3)) else lr s n row a
theorem tk_ok (a : AT) (r d : Nat) : 0 ≤ (aR a r 3 : Int) + tk a r d ∧ 0 ≤ (aR a r 4 : Int) - tk a r d := by
  unfold tk
  split
  · omega
  · split <;> omega
theorem tD_ok {a : AT} (h : OKT a) (r d : Nat) : OKT (tD a r d) := by
  unfold tD
  split
  · exact h
  · exact turnRow_ok h (tk_ok a r d).1 (tk_ok a r d).2
/-- the same town but for lanes -/
def LQ (a b : AT) : Prop := b.1 = a.1 ∧ aP b = aP a ∧ aM b = aM a ∧ ∀ r w, w < 3 → aR b r w = aR a r w
theorem LQ.rf (a : AT) : LQ a a := ⟨rfl, rfl, rfl, fun _ _ _ => rfl⟩
theorem LQ.td {a b : AT} (h : LQ a b) (r d : Nat) : LQ a (tD b r d) := by
  unfold tD
  split
  · exact h
  · exact ⟨h.1, h.2.1, h.2.2.1, fun i w hw => by rw [aR_turn, if_neg (by omega), if_neg (by omega)]; exact h.2.2.2 i w hw⟩
theorem LQ.np {a b : AT} (h : LQ a b) : aNP b = aNP a := by unfold aNP; rw [h.1]
theorem LQ.nr {a b : AT} (h : LQ a b) : aNR b = aNR a := by unfold aNR; rw [h.1]
theorem LQ.nm {a b : AT} (h : LQ a b) : aNM b = aNM a := by unfold aNM; rw [h.1]
theorem LQ.tot {a b : AT} (h : LQ a b) : TOTn b = TOTn a := by unfold TOTn; rw [h.np, h.2.1]
theorem lr_lq {a : AT} (s : Nat) : ∀ n row b, LQ a b → LQ a (lr s n row b) := by
  intro n
  induction n with
  | zero => intro row b h; exact h
  | succ n ih =>
    intro row b h
    rw [lr]
    split
    · exact ih _ _ (h.td _ _)
    · exact ih _ _ h
theorem lr_ok (s : Nat) : ∀ n row b, OKT b → OKT (lr s n row b) := by
  intro n
  induction n with
  | zero => intro row b h; exact h
  | succ n ih =>
    intro row b h
    rw [lr]
    split
    · exact ih _ _ (tD_ok h _ _)
    · exact ih _ _ h
theorem lr_none {s : Nat} : ∀ n row b, cb s n = 0 → lr s n row b = b := by
  intro n
  induction n with
  | zero => intro row b _; rfl
  | succ n ih =>
    intro row b h
    rw [cb] at h
    rw [lr, if_neg (by omega)]
    exact ih row b (by omega)
theorem lr_top {s : Nat} {i : Nat} : ∀ n, cb s n = i + 1 → ∃ r, r < n ∧ bt s r = 1 ∧ cb s r = i ∧ ∀ row a, lr s n row a = lr s r (row / 3) (tD a r (row % 3)) := by
  intro n
  induction n with
  | zero => intro h; exact absurd h (by simp [cb])
  | succ n ih =>
    intro h
    rw [cb] at h
    have hb := bt_lt s n
    by_cases z : bt s n = 1
    · exact ⟨n, by omega, z, by omega, fun row a => by rw [lr, if_pos z]⟩
    · obtain ⟨r, r1, r2, r3, r4⟩ := ih (by omega)
      exact ⟨r, by omega, r2, r3, fun row a => by rw [lr, if_neg z]; exact r4 row a⟩
theorem lr_hi {s n : Nat} (h : s < 2 ^ n) : ∀ d row a, lr s (n + d) row a = lr s n row a := by
  intro d
  induction d with
  | zero => intro row a; rfl
  | succ d ih => intro row a; rw [show n + (d + 1) = n + d + 1 by omega, lr, if_neg (by rw [bt_hi h (by omega)]; decide)]; exact ih row a
theorem CAP_tD {a : AT} {r t d : Nat} (hr : r < aNR a) (X : Nat → Nat → Bool) : CAP (tD a r d) t X = CAP a t X + tk a r d * (CRw a t X (2 * r) - CRw a t X (2 * r + 1)) ∧ (∀ y, CRw (tD a r d) t X y = CRw a t X y) := by
  unfold tD
  split
  · rename_i z
    have : tk a r d = 0 := by unfold tk; rw [if_pos z]
    rw [this]
    exact ⟨by simp, fun _ => rfl⟩
  · exact CAP_turn hr (tk_ok a r d).1 (tk_ok a r d).2 X
/-! the bits of a set, as ints -/
theorem smod12 : ∀ r : Fin 12, ((nI r.val &&& 31).toBitVec.smod 32).toNat = r.val := by decide
theorem bit_ok {s r : Nat} (hs : s < 4096) (hr : r < 12) : (nI s >>> (nI r &&& 31)) &&& (1 : Int32) = nI (bt s r) := by
  rw [pk_shrN (by omega) (nI r &&& 31) r (smod12 ⟨r, hr⟩)]
  have h1 : s / 2 ^ r < 2 ^ 32 := Nat.lt_of_le_of_lt (Nat.div_le_self _ _) (by omega)
  rw [pk_andN h1 (m := 1) 1 (by decide)]
  rfl
theorem ush13 : ∀ n : Fin 13, (((nI n.val).toUInt32 &&& Int32.toUInt32 31).toBitVec % 32).toNat = n.val := by decide
theorem shl13 : ∀ n : Fin 13, ((1 : Int32) <<< (nI n.val &&& 31)) - 1 = nI (2 ^ n.val - 1) := by decide
theorem bv_nI {x : Int32} {s : Nat} (h : x.toBitVec.toNat = s) (hs : s < 4096) : x = nI s := by
  apply Int32.toBitVec_inj.mp
  apply BitVec.eq_of_toNat_eq
  rw [h, pk_tn (by omega)]
theorem ush_0 {x : Int32} {n : Nat} (hn : n ≤ 12) : ((x.toUInt32 >>> ((nI n).toUInt32 &&& Int32.toUInt32 31)).toInt32 = 0) ↔ x.toBitVec.toNat < 2 ^ n := by
  have h := pk_ushr x (nI n) n (ush13 ⟨n, by omega⟩)
  have hp : 0 < 2 ^ n := Nat.two_pow_pos n
  constructor
  · intro e
    rw [e] at h
    have h0 : ((0 : Int32)).toBitVec.toNat = 0 := by decide
    rw [h0] at h
    rcases Nat.lt_or_ge x.toBitVec.toNat (2 ^ n) with z | z
    · exact z
    · have := Nat.div_pos z hp
      omega
  · intro e
    rw [Nat.div_eq_of_lt e] at h
    exact bv_nI (s := 0) h (by omega)
theorem in_set {x : Int32} {n : Nat} (hn : n ≤ 12) : (inr 0 (((1 : Int32) <<< (nI n &&& 31)) - 1) x = 0) ↔ ¬ x.toBitVec.toNat < 2 ^ n := by
  have h1 := shl13 ⟨n, by omega⟩
  dsimp only at h1
  rw [h1]
  have hp : 0 < 2 ^ n := Nat.two_pow_pos n
  have hp2 : 2 ^ n ≤ 4096 := Nat.pow_le_pow_right (n := 2) (by decide) hn
  constructor
  · intro e hlt
    have hx := bv_nI (x := x) rfl (by omega)
    have := inr_nI (a := 0) (b := 2 ^ n - 1) (v := x.toBitVec.toNat) (by decide) (by omega) (by omega)
    rw [← hx, if_pos ⟨by omega, by omega⟩, show nI 0 = (0 : Int32) from rfl, e] at this
    exact absurd this (by decide)
  · intro hn2
    by_cases e : inr 0 (nI (2 ^ n - 1)) x = 0
    · exact e
    · obtain ⟨v, -, v2, v3⟩ := inr_yes (a := 0) (b := 2 ^ n - 1) (by decide) (by omega) e
      refine absurd ?_ hn2
      rw [v3, pk_tn (by omega)]
      omega
def bcnt (p0 : Int32) : Int32 :=
  let x1 := p0 - (((p0.toUInt32 >>> ((1 : Int32).toUInt32 &&& Int32.toUInt32 31)).toInt32) &&& (1431655765 : Int32))
  let x2 := (x1 &&& (858993459 : Int32)) + (((x1.toUInt32 >>> ((2 : Int32).toUInt32 &&& Int32.toUInt32 31)).toInt32) &&& (858993459 : Int32))
  let x3 := (x2 + ((x2.toUInt32 >>> ((4 : Int32).toUInt32 &&& Int32.toUInt32 31)).toInt32)) &&& (252645135 : Int32)
  let x4 := x3 + ((x3.toUInt32 >>> ((8 : Int32).toUInt32 &&& Int32.toUInt32 31)).toInt32)
  let x5 := x4 + ((x4.toUInt32 >>> ((16 : Int32).toUInt32 &&& Int32.toUInt32 31)).toInt32)
  x5 &&& (63 : Int32)
set_option maxRecDepth 100000 in
theorem bcnt_all : ∀ s : Fin 4096, bcnt (nI s.val) = nI (cb s.val 12) := by decide +kernel
theorem s_bitCount {σ : Sg} {s : Nat} {Q : Int32 → Sg → Prop} (hs : s < 4096) (h : Q (nI (cb s 12)) σ) : wp_J6_bitCount_0f7a4 σ (nI s) Q := by
  unfold wp_J6_bitCount_0f7a4
  intro x1 e1 x2 e2 x3 e3 x4 e4 x5 e5
  have := bcnt_all ⟨s, hs⟩
  unfold bcnt at this
  dsimp only at this
  rw [← e1, ← e2, ← e3, ← e4, ← e5] at this
  rw [this]
  exact h
theorem s_bits {σ : Sg} {s : Nat} {Q : Int32 → Sg → Prop} (hs : s < 4096) (h : Q (nI (cb s 12)) σ) : wp_X6_bits σ (nI s) Q := by
  have key : ∀ f n, s / 2 ^ n < f → wp_X6_bits_4 Q f (nI (cb s n)) (nI (s / 2 ^ n)) σ := by
    intro f
    induction f with
    | zero => intro n hf; exact absurd hf (Nat.not_lt_zero _)
    | succ f ih =>
      intro n hf
      have hd : s / 2 ^ n ≤ s := Nat.div_le_self _ _
      rw [wp_X6_bits_4]
      refine pk_le (s / 2 ^ n) 0 (fun hz => ?_) (fun hp => ?_) rfl rfl (by omega) (by omega)
      · have hlt : s < 2 ^ n := by
          rcases Nat.lt_or_ge s (2 ^ n) with z | z
          · exact z
          · have := Nat.div_pos z (Nat.two_pow_pos n); omega
        have e : cb s 12 = cb s n := by
          rcases Nat.le_total n 12 with z | z
          · have := cb_hi hlt (12 - n)
            rwa [show n + (12 - n) = 12 by omega] at this
          · have := cb_hi (n := 12) (s := s) (by omega) (n - 12)
            rw [show 12 + (n - 12) = n by omega] at this
            exact this.symm
        rwa [e] at h
      · intro x1 e1 x2 e2
        rw [show (2 : Int32) = nI 2 from rfl, pk_rem (by omega) (by decide) (by decide), nI_add] at e1
        rw [show (2 : Int32) = nI 2 from rfl, pk_div (by omega) (by decide) (by decide), Nat.div_div_eq_div_mul, ← Nat.pow_succ] at e2
        subst e1
        subst e2
        refine ih (n + 1) ?_
        rw [Nat.pow_succ, ← Nat.div_div_eq_div_mul]
        omega
  refine ⟨s + 1, ?_⟩
  have := key (s + 1) 0 (by simp)
  rw [Nat.pow_zero, Nat.div_one] at this
  exact this
theorem s_digits {σ : Sg} {row : Nat} {Q : Int32 → Sg → Prop} (hr : row < 100) (h : Q (nI (nz row 4)) σ) : wp_X4_digitsNotZero σ (nI row) Q := by
  have key : ∀ d i, i + d = 4 → ∀ rest m, rest < 100 → m + nz rest d = nz row 4 → m ≤ 4 → wp_X4_digitsNotZero_6 Q (d + 1) (nI m) (nI rest) (nI i) σ := by
    intro d
    induction d with
    | zero =>
      intro i hi rest m hr hm hm4
      rw [wp_X4_digitsNotZero_6]
      refine ⟨fun _ => ?_, fun z => absurd (nI_le (a := 4) (by omega) (by omega)) z⟩
      rw [nz, Nat.add_zero] at hm
      rwa [hm]
    | succ d ih =>
      intro i hi rest m hr hm hm4
      have hle := nz_le 4 row
      rw [wp_X4_digitsNotZero_6]
      refine ⟨fun z => absurd z (nI_ge (b := 4) (by omega) (by omega)), fun _ => ?_⟩
      rw [show (3 : Int32) = nI 3 from rfl, pk_rem (by omega) (by decide) (by decide)]
      rw [nz] at hm
      have next : ∀ m', m' + nz (rest / 3) d = nz row 4 → wp_X4_digitsNotZero_20 Q (fun z1 z2 z3 σ => wp_X4_digitsNotZero_6 Q (d + 1) z1 z2 z3 σ) (nI m') (nI rest) (nI i) σ := by
        intro m' hm' x2 e2 x3 e3
        rw [show (3 : Int32) = nI 3 from rfl, pk_div (by omega) (by decide) (by decide)] at e2
        rw [nI_1] at e3
        subst e2
        subst e3
        exact ih (i + 1) (by omega) (rest / 3) m' (by omega) hm' (by omega)
      refine pk_eq (rest % 3) 0 (fun z => next m (by rw [if_pos z] at hm; omega)) (fun z => ?_) rfl rfl (by omega) (by omega)
      intro x1 e1
      rw [nI_1] at e1
      subst e1
      exact next (m + 1) (by rw [if_neg z] at hm; omega)
  exact ⟨5, key 4 0 (by omega) row 0 hr (by omega) (by omega)⟩
