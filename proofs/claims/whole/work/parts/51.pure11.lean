/-! The plan played: s 0 crowd, s 1 home, s 2 inside, s 3 coming, s 4 set out, s 5: 1 verdict 2 ended 3 latestSafe 4 onRoads 12 crowdedPlace 13 crowdedMinute -/
def mn (x y : Int32) : Int32 := if x < y then x else y
theorem mn_comm (x y : Int32) : mn x y = mn y x := by
  unfold mn
  by_cases h : x < y
  · rw [if_pos h, if_neg (by rw [Int32.lt_iff_toInt_lt] at h ⊢; omega)]
  · rw [if_neg h]
    by_cases h2 : y < x
    · rw [if_pos h2]
    · rw [if_neg h2]
      apply Int32.toInt_inj.mp
      rw [Int32.lt_iff_toInt_lt] at h h2
      omega
theorem s_lesser {σ : Sg} {x y : Int32} {Q : Int32 → Sg → Prop} (h : Q (mn x y) σ) : wp_X6_lesser σ x y Q := by
  unfold wp_X6_lesser
  refine ⟨fun h1 => ?_, fun h1 => ?_⟩
  · rw [mn_comm] at h
    unfold mn at h
    by_cases h2 : y < x
    · rwa [if_pos h2] at h
    · rw [if_neg h2] at h
      have : y = x := by
        apply Int32.toInt_inj.mp
        rw [Int32.lt_iff_toInt_lt] at h2
        rw [Int32.le_iff_toInt_le] at h1
        omega
      rwa [this]
  · unfold mn at h
    rwa [if_pos (by rw [Int32.lt_iff_toInt_lt]; rw [Int32.le_iff_toInt_le] at h1; omega)] at h
def pLv (a : AT) (s : Sg) (p t : Nat) : Int32 := if nI t < nI (aP a p 2) then 0 else s 1 p
def pArr (s : Sg) (t p : Nat) : Sg :=
  let s1 := put s 0 p (s 0 p + s 3 (8 * t + p))
  let s2 := put s1 5 4 (s1 5 4 - s 3 (8 * t + p))
  put s2 3 (8 * t + p) 0
def pS1 (s : Sg) (p : Nat) (x : Int32) : Sg := put s 0 p (s 0 p - x)
def pS2 (s : Sg) (p : Nat) (x y : Int32) : Sg := put (pS1 s p x) 1 p (pS1 s p x 1 p - y)
def pS3 (s : Sg) (p : Nat) (x y : Int32) : Sg := put (pS2 s p x y) 2 p (pS2 s p x y 2 p + (x + y))
def pS4 (s : Sg) (t p : Nat) (x y : Int32) : Sg := if x + y ≤ 0 then pS3 s p x y else put (pS3 s p x y) 5 3 (nI t)
def pX (a : AT) (s : Sg) (p : Nat) : Int32 := mn (s 0 p) (nI (aP a p 1) - s 2 p)
def pY (a : AT) (s : Sg) (t p : Nat) : Int32 := mn (pLv a s p t) (nI (aP a p 1) - s 2 p - pX a s p)
def pShe (a : AT) (s : Sg) (t p : Nat) : Sg := pS4 s t p (pX a s p) (pY a s t p)
def pPl (a : AT) (s : Sg) (t : Nat) : Nat → Sg
  | 0 => s
  | p + 1 => pShe a (pArr (pPl a s t p) t p) t p
def pM1 (s : Sg) (f : Nat) (x : Int32) : Sg := put s 0 f (s 0 f - x)
def pM2 (s : Sg) (f : Nat) (m x : Int32) : Sg := put (pM1 s f x) 1 f (pM1 s f x 1 f - (m - x))
def pM3 (s : Sg) (f w : Nat) (m x : Int32) : Sg := put (pM2 s f m x) 4 w (pM2 s f m x 4 w + m)
def pM4 (s : Sg) (f w : Nat) (m x : Int32) : Sg := put (pM3 s f w m x) 5 4 (pM3 s f w m x 5 4 + m)
def pM5 (s : Sg) (f w j : Nat) (m x : Int32) : Sg := put (pM4 s f w m x) 3 j (pM4 s f w m x 3 j + m)
def mvF (a : AT) (k : Nat) : Nat := aR a (aM a k 1) (aM a k 2)
def mvW (a : AT) (k : Nat) : Nat := 2 * aM a k 1 + aM a k 2
def mvJ (a : AT) (t k : Nat) : Nat := 8 * (t + aR a (aM a k 1) 2) + aR a (aM a k 1) (1 - aM a k 2)
def pMv (a : AT) (s : Sg) (t k : Nat) : Sg :=
  if s 4 (mvW a k) + nI (aM a k 3) ≤ nI (aR a (aM a k 1) (3 + aM a k 2)) then
    (if nI (aM a k 3) ≤ s 0 (mvF a k) + pLv a s (mvF a k) t then put (pM5 s (mvF a k) (mvW a k) (mvJ a t k) (nI (aM a k 3)) (mn (s 0 (mvF a k)) (nI (aM a k 3)))) 5 1 0
    else put s 5 1 (2 + 8 * nI k))
  else put s 5 1 (1 + 8 * nI k)
def pMs (a : AT) (s : Sg) (t : Nat) : Nat → Sg
  | 0 => setA s 4 (fun _ => 0)
  | k + 1 => if pMs a s t k 5 1 = 0 ∧ aM a k 0 = t then pMv a (pMs a s t k) t k else pMs a s t k
def pNc (a : AT) (s : Sg) (t : Nat) : Nat → Sg
  | 0 => s
  | p + 1 => if pNc a s t p 5 12 = -1 ∧ ¬ pNc a s t p 0 p ≤ nI (aP a p 3) then put (put (pNc a s t p) 5 12 (nI p)) 5 13 (nI t) else pNc a s t p
def pMi (a : AT) (s : Sg) (t : Nat) : Sg :=
  let s1 := pMs a (pPl a s t (aNP a)) t (aNM a)
  if s1 5 1 = 0 then pNc a (put s1 5 2 (nI t)) t (aNP a) else s1
def p0 (a : AT) : Sg := fun b i => if b = 1 then nI (aP a i 0) else if b = 5 ∧ (i = 2 ∨ i = 3 ∨ i = 12 ∨ i = 13) then -1 else 0
def pRn (a : AT) : Nat → Sg
  | 0 => p0 a
  | t + 1 => if pRn a t 5 1 = 0 then pMi a (pRn a t) t else pRn a t
/-! the class's cells -/
def mc (b : Nat) : Nat := if b = 0 then 10 else if b = 1 then 11 else if b = 2 then 12 else if b = 3 then 14 else if b = 4 then 15 else 2
theorem mc_inj {b c : Nat} (hb : b ≤ 5) (hc : c ≤ 5) (h : mc b = mc c) : b = c := by
  unfold mc at h
  rcases (show b = 0 ∨ b = 1 ∨ b = 2 ∨ b = 3 ∨ b = 4 ∨ b = 5 by omega) with rfl | rfl | rfl | rfl | rfl | rfl <;> rcases (show c = 0 ∨ c = 1 ∨ c = 2 ∨ c = 3 ∨ c = 4 ∨ c = 5 by omega) with rfl | rfl | rfl | rfl | rfl | rfl <;> first | rfl | (simp at h)
def dmc (a : AT) (lo : Nat) (b i : Nat) : Prop := (b ≤ 2 → i < aNP a) ∧ (b = 3 → lo ≤ i ∧ i < 408) ∧ (b = 4 → i < 24) ∧ (b = 5 → i = 1 ∨ i = 2 ∨ i = 3 ∨ i = 4 ∨ i = 12 ∨ i = 13)
def PR (a : AT) (lo : Nat) (σ0 σ s : Sg) : Prop := RC σ a ∧ FC σ0 σ ∧ TC σ0 σ ∧ ∀ b i, b ≤ 5 → b ≠ 4 → dmc a lo b i → σ (mc b) i = s b i
/-- the same, with what set out -/
def PR4 (a : AT) (lo : Nat) (σ0 σ s : Sg) : Prop := PR a lo σ0 σ s ∧ ∀ i, i < 24 → σ 15 i = s 4 i
theorem mc_ne {b : Nat} : mc b ≠ 1 ∧ mc b ≠ 6 ∧ mc b ≠ 7 ∧ mc b ≠ 8 ∧ mc b ≠ 9 ∧ mc b ≠ 13 ∧ mc b ≠ 3 ∧ mc b ≠ 16 ∧ mc b < 30 := by
  unfold mc
  split <;> (try split) <;> (try split) <;> (try split) <;> (try split) <;> decide
theorem RC_mc {a : AT} {σ : Sg} {b i : Nat} {v : Int32} (h : RC σ a) (hi : b = 5 → i ≠ 0) (hb : b ≤ 5) : RC (put σ (mc b) i v) a := by
  obtain ⟨n1, n6, n7, n8, n9, n13, n3, n16, -⟩ := mc_ne (b := b)
  refine h.keep (by rw [put_o (Ne.symm n1)]) (by rw [put_o (Ne.symm n1)]) ?_ (put_o (Ne.symm n6)) (put_o (Ne.symm n7)) (put_o (Ne.symm n8)) (put_o (Ne.symm n9)) (put_o (Ne.symm n13))
  rw [put_at]
  by_cases hb5 : b = 5
  · subst hb5; rw [if_neg (fun z => hi rfl z.2.symm)]
  · rw [if_neg]
    intro z
    exact hb5 (mc_inj hb (Nat.le_refl 5) z.1.symm)
theorem PR_put {a : AT} {lo : Nat} {σ0 σ s : Sg} (h : PR a lo σ0 σ s) (b i : Nat) (v : Int32) (hb : b ≤ 5) (hi : b = 5 → i ≠ 0) : PR a lo σ0 (put σ (mc b) i v) (put s b i v) := by
  obtain ⟨h1, h2, h3, h4⟩ := h
  obtain ⟨n1, n6, n7, n8, n9, n13, n3, n16, n30⟩ := mc_ne (b := b)
  refine ⟨RC_mc h1 hi hb, h2.tr (FC_p σ n30), h3.tr (TC_p σ n3 n16), ?_⟩
  intro c j hc hc4 hd
  rw [put_at, put_at, h4 c j hc hc4 hd]
  by_cases e : c = b
  · subst e; simp
  · have : mc c ≠ mc b := fun z => e (mc_inj hc hb z)
    simp [e, this]
theorem PR4_put {a : AT} {lo : Nat} {σ0 σ s : Sg} (h : PR4 a lo σ0 σ s) (b i : Nat) (v : Int32) (hb : b ≤ 5) (hi : b = 5 → i ≠ 0) : PR4 a lo σ0 (put σ (mc b) i v) (put s b i v) := by
  refine ⟨PR_put h.1 b i v hb hi, ?_⟩
  intro j hj
  rw [put_at, put_at, h.2 j hj]
  by_cases e : b = 4
  · subst e; simp [mc]
  · have : (15 : Nat) ≠ mc b := fun z => e (mc_inj hb (by decide) (z.symm : mc b = mc 4))
    have e' : (4 : Nat) ≠ b := Ne.symm e
    simp [e', this]
theorem PR.p {a : AT} {lo : Nat} {σ0 σ s : Sg} (h : PR a lo σ0 σ s) {b i : Nat} (hb : b ≤ 2) (hi : i < aNP a) : σ (mc b) i = s b i := h.2.2.2 b i (by omega) (by omega) ⟨fun _ => hi, fun z => by omega, fun z => by omega, fun z => by omega⟩
theorem PR.f {a : AT} {lo : Nat} {σ0 σ s : Sg} (h : PR a lo σ0 σ s) {i : Nat} (hi : i = 1 ∨ i = 2 ∨ i = 3 ∨ i = 4 ∨ i = 12 ∨ i = 13) : σ 2 i = s 5 i := h.2.2.2 5 i (by omega) (by omega) ⟨fun z => by omega, fun z => by omega, fun z => by omega, fun _ => hi⟩
theorem PR.c {a : AT} {lo : Nat} {σ0 σ s : Sg} (h : PR a lo σ0 σ s) {i : Nat} (h1 : lo ≤ i) (h2 : i < 408) : σ 14 i = s 3 i := h.2.2.2 3 i (by omega) (by omega) ⟨fun z => by omega, fun z => ⟨h1, h2⟩, fun z => by omega, fun z => by omega⟩
theorem s_fact {σ : Sg} {a : AT} {p w : Nat} {Q : Int32 → Sg → Prop} (h8 : aNP a ≤ 8) (hC : RC σ a) (hp : p < aNP a) (hw : w < 4) (h : Q (nI (aP a p w)) σ) : wp_X3_fact σ (nI p) (nI w) Q := by
  refine s_X3_fact (by omega) hw ?_
  rw [hC.2.2.2.1 p hp w hw]
  exact h
theorem s_part {σ : Sg} {a : AT} {p w : Nat} {Q : Int32 → Sg → Prop} (h8 : aNM a ≤ 40) (hC : RC σ a) (hp : p < aNM a) (hw : w < 4) (h : Q (nI (aM a p w)) σ) : wp_X1_part σ (nI p) (nI w) Q := by
  refine s_X1_part (by omega) hw ?_
  rw [hC.2.2.2.2.2 p hp w hw]
  exact h
theorem s_X1_leavers {σ : Sg} {a : AT} {lo : Nat} {σ0 s : Sg} {p t : Nat} {Q : Int32 → Sg → Prop} (h8 : aNP a ≤ 8) (hR : PR a lo σ0 σ s) (hp : p < aNP a) (h : Q (pLv a s p t) σ) : wp_X1_leavers σ (nI p) (nI t) Q := by
  refine s_fact (w := 2) h8 hR.1 hp (by decide) ?_
  unfold pLv at h
  refine ⟨fun z => ?_, fun z => ⟨vp_in_nI (by omega) (by decide), ?_⟩⟩
  · rwa [if_pos z] at h
  · rw [if_neg z] at h
    rw [nI_clamp (by omega), show σ 11 p = s 1 p from hR.p (b := 1) (by decide) hp]
    exact h
theorem s_X1_arrive {σ : Sg} {a : AT} {lo : Nat} {σ0 s : Sg} {p t : Nat} {Q : Sg → Prop} (h8 : aNP a ≤ 8) (hR : PR a lo σ0 σ s) (hp : p < aNP a) (ht : t ≤ 50) (hl : lo ≤ 8 * t + p) (h : ∀ τ, PR a (8 * t + p + 1) σ0 τ (pArr s t p) → Q τ) : wp_X1_arrive σ (nI p) (nI t) Q := by
  have e : nI t * 8 + nI p = nI (8 * t + p) := by rw [show (8 : Int32) = nI 8 from rfl, pk_mul, nI_add, Nat.mul_comm]
  unfold wp_X1_arrive
  rw [e]
  refine ⟨vp_in_nI (by omega) (by decide), ?_⟩
  rw [nI_clamp (by omega), hR.c hl (by omega), nI_clamp (n := p) (by omega)]
  intro x ex
  refine ⟨vp_in_nI (by omega) (by decide), vp_in_nI (by omega) (by decide), ?_⟩
  intro σ2 e2 σ3 e3
  refine h σ3 ?_
  have R2 : PR a lo σ0 σ2 (put s 0 p (s 0 p + x)) := by
    rw [e2, show σ 10 p = s 0 p from hR.p (b := 0) (by decide) hp]
    exact PR_put hR 0 p _ (by decide) (fun z => by omega)
  have R3 := PR_put R2 5 4 ((put s 0 p (s 0 p + x)) 5 4 - x) (by decide) (by decide)
  have e3' : σ3 = put σ2 (mc 5) 4 ((put s 0 p (s 0 p + x)) 5 4 - x) := by rw [e3, R2.f (by decide)]; rfl
  rw [← e3'] at R3
  unfold pArr
  rw [← ex]
  obtain ⟨q1, q2, q3, q4⟩ := R3
  refine ⟨q1, q2, q3, fun b i hb hb4 hd => ?_⟩
  show σ3 (mc b) i = put _ 3 (8 * t + p) 0 b i
  rw [put_at, if_neg (by rintro ⟨z1, z2⟩; have := hd.2.1 z1; omega)]
  exact q4 b i hb hb4 ⟨hd.1, fun z => by have := hd.2.1 z; omega, hd.2.2⟩
theorem s_X1_takeShelter {σ : Sg} {a : AT} {lo : Nat} {σ0 s : Sg} {p t : Nat} {Q : Sg → Prop} (h8 : aNP a ≤ 8) (hR : PR a lo σ0 σ s) (hp : p < aNP a) (h : ∀ τ, PR a lo σ0 τ (pShe a s t p) → Q τ) : wp_X1_takeShelter σ (nI p) (nI t) Q := by
  refine s_fact (w := 1) h8 hR.1 hp (by decide) ?_
  rw [nI_clamp (n := p) (by omega)]
  have v8 : vp_in (nI p) 8 := vp_in_nI (by omega) (by decide)
  refine ⟨v8, fun x3 e3 => ⟨v8, fun x4 e4 => ?_⟩⟩
  refine s_X1_leavers h8 hR hp ?_
  intro x5 e5
  rw [show σ 12 p = s 2 p from hR.p (b := 2) (by decide) hp] at e3
  rw [show σ 10 p = s 0 p from hR.p (b := 0) (by decide) hp] at e4 ⊢
  refine ⟨v8, v8, fun σ8 e8 => ⟨v8, v8, fun σ9 e9 => ⟨v8, v8, fun σ10 e10 => ?_⟩⟩⟩
  have R8 : PR a lo σ0 σ8 (pS1 s p x4) := by rw [e8]; exact PR_put hR 0 p _ (by decide) (fun z => by omega)
  rw [show σ8 11 p = _ from R8.p (b := 1) (by decide) hp] at e9
  have R9 : PR a lo σ0 σ9 (pS2 s p x4 x5) := by rw [e9]; exact PR_put R8 1 p _ (by decide) (fun z => by omega)
  rw [show σ9 12 p = _ from R9.p (b := 2) (by decide) hp] at e10
  have R10 : PR a lo σ0 σ10 (pS3 s p x4 x5) := by rw [e10]; exact PR_put R9 2 p _ (by decide) (fun z => by omega)
  have hx4 : x4 = pX a s p := by rw [e4, e3]; rfl
  have hx5 : x5 = pY a s t p := by rw [e5, e3, hx4]; rfl
  unfold pShe at h
  rw [← hx5, ← hx4] at h
  unfold pS4 at h
  refine ⟨fun z => ?_, fun z σ12 e12 => ?_⟩
  · rw [if_pos z] at h; exact h _ R10
  · rw [if_neg z] at h
    refine h _ ?_
    rw [e12]
    exact PR_put R10 5 3 (nI t) (by decide) (by decide)
