/-! towns as they would be; shut, wider, turned, roomy -/
def setP (a : AT) (p w v : Nat) : AT := (a.1, up2 (aP a) p w v, aR a, aM a)
def setR (a : AT) (r w v : Nat) : AT := (a.1, aP a, up2 (aR a) r w v, aM a)
theorem up2_up2 (f : Nat → Nat → Nat) (i w v v' : Nat) : up2 (up2 f i w v) i w v' = up2 f i w v' := by
  funext p u
  unfold up2
  split <;> rfl
theorem up2_self (f : Nat → Nat → Nat) (i w : Nat) : up2 f i w (f i w) = f := by
  funext p u
  unfold up2
  split
  · rename_i h; rw [h.1, h.2]
  · rfl
theorem setP_setP (a : AT) (p w v v' : Nat) : setP (setP a p w v) p w v' = setP a p w v' := by
  unfold setP
  show (a.1, up2 (up2 (aP a) p w v) p w v', aR a, aM a) = _
  rw [up2_up2]
theorem setP_self (a : AT) (p w : Nat) : setP a p w (aP a p w) = a := by
  unfold setP
  rw [up2_self]
  rfl
theorem setR_setR (a : AT) (p w v v' : Nat) : setR (setR a p w v) p w v' = setR a p w v' := by
  unfold setR
  show (a.1, aP a, up2 (up2 (aR a) p w v) p w v', aM a) = _
  rw [up2_up2]
theorem setR_self (a : AT) (p w : Nat) : setR a p w (aR a p w) = a := by
  unfold setR
  rw [up2_self]
  rfl
theorem aR_setR (a : AT) (r w v i j : Nat) : aR (setR a r w v) i j = if i = r ∧ j = w then v else aR a i j := rfl
theorem aP_setP (a : AT) (r w v i j : Nat) : aP (setP a r w v) i j = if i = r ∧ j = w then v else aP a i j := rfl
theorem OKN.setP {a : AT} (h : OKN a) {p w v : Nat} (hw : (w = 1 ∧ v ≤ 300) ∨ (w = 2 ∧ v ≤ 20)) : OKN (setP a p w v) := by
  refine ⟨h.1, h.2.1, h.2.2.1, fun i hi => ?_, h.2.2.2.2⟩
  obtain ⟨h0, h1, h2, h3⟩ := h.2.2.2.1 i hi
  rw [aP_setP, aP_setP, aP_setP, aP_setP]
  rcases hw with ⟨rfl, hv⟩ | ⟨rfl, hv⟩ <;> (refine ⟨?_, ?_, ?_, ?_⟩ <;> (split <;> omega))
theorem OKN.setR {a : AT} (h : OKN a) {r w v : Nat} (hw : w = 3 ∨ w = 4) (hv : v ≤ 99) : OKN (setR a r w v) := by
  refine ⟨h.1, h.2.1, h.2.2.1, h.2.2.2.1, fun i hi => ?_⟩
  obtain ⟨h0, h1, h2, h3, h4, h5⟩ := h.2.2.2.2 i hi
  rw [aR_setR, aR_setR, aR_setR, aR_setR, aR_setR]
  rw [if_neg (by omega), if_neg (by omega), if_neg (by omega)]
  refine ⟨h0, h1, h2, h3, ?_, ?_⟩
  · split
    · exact hv
    · exact h4
  · split
    · exact hv
    · exact h5
theorem RC.setP {σ τ : Sg} {a : AT} {p w v : Nat} (h : RC σ a) (hp : p < aNP a) (hw : w < 4) (e : τ = put σ 9 (4 * p + w) (nI v)) : RC τ (setP a p w v) := by
  obtain ⟨c1, c2, c3, c4, c5, c6⟩ := h
  have o : ∀ k, k ≠ 9 → τ k = σ k := fun k hk => by rw [e, put_o hk]
  refine ⟨by rw [o 1 (by decide)]; exact c1, by rw [o 1 (by decide)]; exact c2, by rw [o 2 (by decide)]; exact c3, fun i hi u hu => ?_, fun r hr => ?_, fun k hk u hu => by rw [o 13 (by decide)]; exact c6 k hk u hu⟩
  · rw [e, put_at, aP_setP]
    by_cases z : i = p ∧ u = w
    · rw [if_pos ⟨rfl, by rw [z.1, z.2]⟩, if_pos z]
    · rw [if_neg (fun q => z (by omega)), if_neg z]; exact c4 i hi u hu
  · rw [o 7 (by decide), o 6 (by decide), o 8 (by decide)]; exact c5 r hr
theorem RC.setR {σ τ : Sg} {a : AT} {r c v : Nat} (h : RC σ a) (hr : r < aNR a) (hc : c < 2) (e : τ = put σ 8 (2 * r + c) (nI v)) : RC τ (setR a r (3 + c) v) := by
  obtain ⟨c1, c2, c3, c4, c5, c6⟩ := h
  have o : ∀ k, k ≠ 8 → τ k = σ k := fun k hk => by rw [e, put_o hk]
  refine ⟨by rw [o 1 (by decide)]; exact c1, by rw [o 1 (by decide)]; exact c2, by rw [o 2 (by decide)]; exact c3, fun i hi u hu => by rw [o 9 (by decide)]; exact c4 i hi u hu, fun i hi => ?_, fun k hk u hu => by rw [o 13 (by decide)]; exact c6 k hk u hu⟩
  obtain ⟨d1, d2, d3, d4, d5⟩ := c5 i hi
  rw [o 7 (by decide), o 6 (by decide), aR_setR, aR_setR, aR_setR, aR_setR, aR_setR, if_neg (by omega), if_neg (by omega), if_neg (by omega), e, put_at, put_at]
  refine ⟨d1, d2, d3, ?_, ?_⟩
  · by_cases z : i = r ∧ 3 = 3 + c
    · rw [if_pos ⟨rfl, by omega⟩, if_pos z]
    · rw [if_neg (fun q => z (by omega)), if_neg z]; exact d4
  · by_cases z : i = r ∧ 4 = 3 + c
    · rw [if_pos ⟨rfl, by omega⟩, if_pos z]
    · rw [if_neg (fun q => z (by omega)), if_neg z]; exact d5
theorem RM.setP {σ τ : Sg} {a : AT} {p w v : Nat} (h : RM σ a) (h8 : aNP a ≤ 8) (hp : p < aNP a) (hw : w < 4) (e : ∀ j, τ 31 j = if j = 3 + 4 * p + w then nI v else σ 31 j) : RM τ (setP a p w v) := by
  obtain ⟨c1, c2, c3, c4, c5, c6⟩ := h
  refine ⟨by rw [e, if_neg (by omega)]; exact c1, by rw [e, if_neg (by omega)]; exact c2, by rw [e, if_neg (by omega)]; exact c3, fun i hi u hu => ?_, fun r hr u hu => by rw [e, if_neg (by omega)]; exact c5 r hr u hu, fun k hk u hu => by rw [e, if_neg (by omega)]; exact c6 k hk u hu⟩
  rw [e, aP_setP]
  by_cases z : i = p ∧ u = w
  · rw [if_pos (by omega), if_pos z]
  · rw [if_neg (fun q => z (by omega)), if_neg z]; exact c4 i hi u hu
theorem RM.setR {σ τ : Sg} {a : AT} {r w v : Nat} (h : RM σ a) (h8 : aNP a ≤ 8) (h12 : aNR a ≤ 12) (hr : r < aNR a) (hw : w < 5) (e : ∀ j, τ 31 j = if j = 35 + 5 * r + w then nI v else σ 31 j) : RM τ (setR a r w v) := by
  obtain ⟨c1, c2, c3, c4, c5, c6⟩ := h
  refine ⟨by rw [e, if_neg (by omega)]; exact c1, by rw [e, if_neg (by omega)]; exact c2, by rw [e, if_neg (by omega)]; exact c3, fun i hi u hu => ?_, fun i hi u hu => ?_, fun k hk u hu => by rw [e, if_neg (by omega)]; exact c6 k hk u hu⟩
  · have hi : i < aNP a := hi
    rw [e, if_neg (by omega)]; exact c4 i hi u hu
  · rw [e, aR_setR]
    by_cases z : i = r ∧ u = w
    · rw [if_pos (by omega), if_pos z]
    · rw [if_neg (fun q => z (by omega)), if_neg z]; exact c5 i hi u hu
/-- what the class's questions leave -/
def WF (σ τ : Sg) : Prop := ∀ k, k ≠ 4 → k ≠ 8 → k ≠ 9 → (k < 19 ∨ 25 < k) → k ≠ 27 → τ k = σ k
theorem WF.rf (σ : Sg) : WF σ σ := fun _ _ _ _ _ _ => rfl
theorem WF.tr {σ τ υ : Sg} (h : WF σ τ) (g : WF τ υ) : WF σ υ := fun k a b c d e => (g k a b c d e).trans (h k a b c d e)
theorem SF.wf {σ τ : Sg} (f : SF σ τ) : WF σ τ := fun k a _ _ d e => f k a d e
theorem WF.fc {σ τ : Sg} (f : WF σ τ) : FC σ τ := fun k hk => f k (by omega) (by omega) (by omega) (by omega) (by omega)
theorem WF.tc {σ τ : Sg} (f : WF σ τ) : TC σ τ := ⟨by rw [f 3 (by decide) (by decide) (by decide) (by decide) (by decide)], by rw [f 3 (by decide) (by decide) (by decide) (by decide) (by decide)], f 16 (by decide) (by decide) (by decide) (by decide) (by decide)⟩
theorem WF_8 {σ τ : Sg} (h : ∀ k, k ≠ 8 → τ k = σ k) : WF σ τ := fun k _ b _ _ _ => h k b
theorem WF_9 {σ τ : Sg} (h : ∀ k, k ≠ 9 → τ k = σ k) : WF σ τ := fun k _ _ c _ _ => h k c
def shR (a : AT) (r : Nat) : AT := setR (setR a r 3 0) r 4 0
theorem shR_ok {a : AT} (h : OKN a) (r : Nat) : OKN (shR a r) := (h.setR (Or.inl rfl) (by omega)).setR (Or.inr rfl) (by omega)
theorem shR_back (a : AT) (r : Nat) : setR (setR (shR a r) r 3 (aR a r 3)) r 4 (aR a r 4) = a := by
  unfold shR
  have e : up2 (up2 (up2 (up2 (aR a) r 3 0) r 4 0) r 3 (aR a r 3)) r 4 (aR a r 4) = aR a := by
    funext p u
    unfold up2
    by_cases z1 : p = r ∧ u = 4
    · rw [if_pos z1, z1.1, z1.2]
    · rw [if_neg z1]
      by_cases z2 : p = r ∧ u = 3
      · rw [if_pos z2, z2.1, z2.2]
      · rw [if_neg z2, if_neg z1, if_neg z2]
  show (a.1, aP a, up2 (up2 (up2 (up2 (aR a) r 3 0) r 4 0) r 3 (aR a r 3)) r 4 (aR a r 4), aM a) = a
  rw [e]
  rfl
theorem s_without {a : AT} {σ : Sg} {r lo : Nat} {Q : Int32 → Sg → Prop} (hO : OKN a) (hC : RC σ a) (hr : r < aNR a) (hlo : lo ≤ 41) (h : ∀ τ, WF σ τ → RC τ a → Q (nI (qres lo 41 (qk (shR a r)))) τ) : wp_X5_soonestWithout σ (nI r) (nI lo) Q := by
  unfold wp_X5_soonestWithout
  have h12 := hO.2.1
  have v0 : vp_in (nI (2 * r)) 24 := vp_in_nI (by omega) (by decide)
  have v1 : vp_in (nI (2 * r + 1)) 24 := vp_in_nI (by omega) (by decide)
  obtain ⟨c1, c2, c3, c4, c5⟩ := hC.2.2.2.2.1 r hr
  rw [e_2, e_21_of, nI_clamp (n := 2 * r) (by omega), nI_clamp (n := 2 * r + 1) (by omega), c4, c5]
  refine ⟨v0, fun x3 e3 => ⟨v1, fun x4 e4 => ⟨v0, fun σ3 s3 => ⟨v1, fun σ4 s4 => ?_⟩⟩⟩⟩
  have r3 : RC σ3 (setR a r (3 + 0) 0) := hC.setR hr (by decide) s3
  have r4 : RC σ4 (shR a r) := r3.setR (c := 1) hr (by decide) s4
  have f4 : WF σ σ4 := WF_8 (fun k hk => by rw [s4, put_o hk, s3, put_o hk])
  refine s_soonestWithin (bd := 41) (shR_ok hO r) r4 hlo (Nat.le_refl _) (qk_is _) (fun σ5 f5 => ⟨v0, fun σ7 s7 => ⟨v1, fun σ8 s8 => ?_⟩⟩)
  rw [e3] at s7
  rw [e4] at s8
  have r7 : RC σ7 (setR (shR a r) r (3 + 0) (aR a r 3)) := (f5.rc r4).setR hr (by decide) s7
  have r8 : RC σ8 (setR (setR (shR a r) r 3 (aR a r 3)) r (3 + 1) (aR a r 4)) := r7.setR (c := 1) hr (by decide) s8
  refine h σ8 ((f4.tr f5.wf).tr (WF_8 (fun k hk => by rw [s8, put_o hk, s7, put_o hk]))) ?_
  have := shR_back a r
  rw [show (3 + 1 : Nat) = 4 from rfl, this] at r8
  exact r8
theorem qres0 {q : Nat} (h : q ≤ 41) : qres 0 41 q = q := by unfold qres; split <;> omega
/-! the reference's questions: kept, changed, asked, come back -/
def KF (σ τ : Sg) : Prop := FM σ τ ∧ TM σ τ ∧ (∀ j, j < 256 → τ 31 j = σ 31 j)
theorem KF.rf (σ : Sg) : KF σ σ := ⟨FM.rf σ, TM.rf σ, fun _ _ => rfl⟩
theorem KF.tr {σ τ υ : Sg} (h : KF σ τ) (g : KF τ υ) : KF σ υ := ⟨h.1.tr g.1, h.2.1.tr g.2.1, fun j hj => (g.2.2 j hj).trans (h.2.2 j hj)⟩
theorem KF.rm {σ τ : Sg} {a : AT} (h : KF σ τ) (hO : OKN a) (hM : RM σ a) : RM τ a := RM_eq hM hO.1 hO.2.1 hO.2.2.1 h.2.2
theorem KF.t0 {σ τ : Sg} (e : τ = put σ 30 0 0) : KF σ τ := by
  subst e
  exact ⟨FMt σ 0, TM_t σ 0, fun j _ => by rw [put_o (by decide)]⟩
theorem LF.kf {σ τ : Sg} (h : LF σ τ) : KF σ τ := ⟨h.fm, h.tm, fun j _ => by rw [h.1 31 (by decide) (by decide)]⟩
/-- since keeps: the row 'kept' holds it -/
def KP (σ τ : Sg) : Prop := (∀ k, k ≠ 30 → k ≠ 31 → k ≠ 32 → (k < 34 ∨ 40 < k) → τ k = σ k) ∧ (∀ j, j ≠ 16 → τ 30 j = σ 30 j) ∧ (∀ j, j < 256 → τ 32 j = σ 31 j)
theorem KP.back {σ τ υ : Sg} (h : KP σ τ) (h1 : ∀ k, k ≠ 31 → υ k = τ k) (h2 : ∀ j, j < 256 → υ 31 j = τ 32 j) : KF σ υ := by
  refine ⟨fun k hk => by rw [h1 k (by omega), h.1 k (by omega) (by omega) (by omega) (by omega)], ⟨by rw [h1 30 (by decide), h.2.1 4 (by decide)], by rw [h1 30 (by decide), h.2.1 5 (by decide)], by rw [h1 33 (by decide), h.1 33 (by decide) (by decide) (by decide) (by decide)]⟩, fun j hj => by rw [h2 j hj, h.2.2 j hj]⟩
theorem KP.lf {σ τ υ : Sg} (h : KP σ τ) (f : LF τ υ) : KP σ υ := ⟨fun k a b c d => by rw [f.1 k a d, h.1 k a b c d], fun j hj => by rw [f.2 j hj, h.2.1 j hj], fun j hj => by rw [f.1 32 (by decide) (by decide), h.2.2 j hj]⟩
theorem KP.p31 {σ τ υ : Sg} (h : KP σ τ) (f : ∀ k, k ≠ 31 → υ k = τ k) : KP σ υ := ⟨fun k a b c d => by rw [f k b, h.1 k a b c d], fun j hj => by rw [f 30 (by decide), h.2.1 j hj], fun j hj => by rw [f 32 (by decide), h.2.2 j hj]⟩
theorem s_keep {a : AT} {σ : Sg} {Q : Sg → Prop} (hO : OKN a) (hM : RM σ a) (h : ∀ τ, KP σ τ → RM τ a → Q τ) : wp_X6_keeps σ Q :=
  s_keeps (fun τ h1 h2 => h τ ⟨fun k _ _ c _ => h1 k c, fun j _ => by rw [h1 30 (by decide)], h2⟩ (hM.keep (h1 31 (by decide))))
theorem s_cb {σ τ : Sg} {Q : Sg → Prop} (h : KP σ τ) (hQ : ∀ υ, KF σ υ → Q υ) : wp_X6_comesBack τ Q :=
  s_comesBack (fun υ h1 h2 => hQ υ (h.back h1 h2))
theorem s_whatif {a : AT} {σ τ : Sg} {Q : Int32 → Sg → Prop} (hO : OKN a) (hK : KP σ τ) (hM : RM τ a) (h : ∀ υ, KF σ υ → Q (tq (qk a) 41) υ) : wp_X6_quickestNow τ (fun r10 σ9 => wp_X6_comesBack σ9 (fun σ11 => Q r10 σ11)) :=
  s_quickestNow hO hM (qk_is a) (fun υ lf => s_cb (hK.lf lf) (fun ω hω => h ω hω))
/-! shut -/
noncomputable def shutA (x : Int32) (a : AT) : Int32 := if inp (nI (aNR a)) x = 0 then -2 else tq (qk (shR a x.toNatClampNeg)) 41
theorem s_shut {a : AT} {σ : Sg} {x : Int32} {Q : Int32 → Sg → Prop} (hO : OKN a) (hM : RM σ a) (h : ∀ τ, KF σ τ → Q (shutA x a) τ) : wp_X6_shut σ x Q := by
  unfold wp_X6_shut
  have h8 := hO.1
  have h12 := hO.2.1
  intro σ1 e1
  have k1 : KF σ σ1 := KF.t0 e1
  have hM1 : RM σ1 a := k1.rm hO hM
  refine s_X6_isRoad hM1.2.1 (by omega) ⟨fun z => ?_, fun z => s_keep hO hM1 (fun τ kp rm => ?_)⟩
  · have := h σ1 k1
    unfold shutA at this
    rwa [if_pos z] at this
  · obtain ⟨r, hr, rfl⟩ := inp_yes (by omega) z
    unfold wp_X6_lanes
    rw [show (3 : Int32) = nI 3 from rfl, show (4 : Int32) = nI 4 from rfl, e_r, e_r, nI_clamp (n := 35 + 5 * r + 3) (by omega), nI_clamp (n := 35 + 5 * r + 4) (by omega)]
    refine ⟨vp_in_nI (by omega) (by decide), fun σ6 e6 => ⟨vp_in_nI (by omega) (by decide), fun σ7 e7 => ?_⟩⟩
    have m6 : RM σ6 (setR a r 3 0) := rm.setR h8 h12 hr (by decide) (fun j => by rw [e6, put_at]; simp; rfl)
    have m7 : RM σ7 (shR a r) := m6.setR h8 h12 hr (by decide) (fun j => by rw [e7, put_at]; simp; rfl)
    refine s_whatif (shR_ok hO r) (kp.p31 (υ := σ7) (fun k hk => by rw [e7, put_o hk, e6, put_o hk])) m7 (fun υ kυ => ?_)
    have := h υ (k1.tr kυ)
    unfold shutA at this
    rwa [if_neg z, nI_clamp (by omega)] at this
theorem L_shut {σ : Sg} (hI : INV σ) (p1 : Int32) {K : Sg → Prop} (hK : ∀ τ, INV τ → K τ) {C : Int32 → Sg → Prop} (hw : ∀ r1 σ1, wp_X6_shut σ1 p1 (fun r2 σ2 => (r1 = r2 → K σ2) ∧ (¬ (r1 = r2) → False)) → C r1 σ1) : wp_X5_shut σ p1 C := by
  refine L_ask hI (wpC := fun σ C => wp_X5_shut σ p1 C) (wpM := fun σ C => wp_X6_shut σ p1 C) (shutA p1) (fun a hO τ hC Q h => ?_) (fun a hO τ hM Q h => ?_) hK hw
  · show wp_X5_shut τ p1 Q
    unfold wp_X5_shut
    have h12 := hO.2.1
    refine s_X3_hasRoad ?_
    rw [hC.2.1]
    refine ⟨fun z => ?_, fun z => ?_⟩
    · have := h τ (FC.rf τ) (TC.rf τ) hC
      unfold shutA at this
      rwa [if_pos z] at this
    · obtain ⟨r, hr, rfl⟩ := inp_yes (by omega) z
      refine s_without (lo := 0) hO.n hC hr (by omega) (fun υ f hC' => ?_)
      rw [qres0 (qk_le _)]
      refine s_told (qk_le _) ?_
      have := h υ f.fc f.tc hC'
      unfold shutA at this
      rwa [if_neg z, nI_clamp (by omega)] at this
  · exact s_shut hO.n hM (fun υ k => h υ k.1 k.2.1 (k.rm hO.n hM))
/-! wider -/
def bc (b : Int32) : Nat := if b = 0 then 0 else 1
theorem bc_lt (b : Int32) : bc b < 2 := by unfold bc; split <;> omega
noncomputable def wiA (x b k : Int32) (a : AT) : Int32 := if inp (nI (aNR a)) x = 0 ∨ inr (-9) 30 k = 0 ∨ (aR a x.toNatClampNeg (3 + bc b) : Int) + k.toInt < 0 then -2 else tq (qk (setR a x.toNatClampNeg (3 + bc b) ((aR a x.toNatClampNeg (3 + bc b) : Int) + k.toInt).toNat)) 41
theorem inr930 {k : Int32} (h : ¬ inr (-9) 30 k = 0) : -9 ≤ k.toInt ∧ k.toInt ≤ 30 := by
  unfold inr at h
  have e1 : ((-9 : Int32)).toInt = -9 := by decide
  have e2 : ((30 : Int32)).toInt = 30 := by decide
  by_cases z1 : k < -9
  · rw [if_pos z1] at h; exact absurd rfl h
  · rw [if_neg z1] at h
    by_cases z2 : (30 : Int32) < k
    · rw [if_pos z2] at h; exact absurd rfl h
    · rw [Int32.lt_iff_toInt_lt] at z1 z2
      omega
theorem addk {l : Nat} {k : Int32} (hl : l ≤ 99) (hk : -9 ≤ k.toInt ∧ k.toInt ≤ 30) : (nI l + k).toInt = (l : Int) + k.toInt ∧ (0 ≤ (l : Int) + k.toInt → nI l + k = nI ((l : Int) + k.toInt).toNat ∧ nI ((l : Int) + k.toInt).toNat - k = nI l) := by
  have t := nI_toInt (n := l) (by omega)
  have e : (nI l + k).toInt = (l : Int) + k.toInt := by rw [i_add (by omega) (by omega), t]
  refine ⟨e, fun h => ?_⟩
  have e1 : nI l + k = nI ((l : Int) + k.toInt).toNat := by
    rw [i_nI (x := nI l + k) (by omega), e]
  refine ⟨e1, ?_⟩
  apply Int32.toInt_inj.mp
  have t2 := nI_toInt (n := ((l : Int) + k.toInt).toNat) (by omega)
  rw [i_sub (by omega) (by omega), t2, t]
  omega
theorem OKN.lane {a : AT} (h : OKN a) {r : Nat} (hr : r < aNR a) {c : Nat} (hc : c < 2) : aR a r (3 + c) ≤ 99 := by
  obtain ⟨h0, h1, h2, h3, h4, h5⟩ := h.2.2.2.2 r hr
  rcases (show c = 0 ∨ c = 1 by omega) with e | e
  · subst e; exact h4
  · subst e; exact h5
theorem OKT.lane {a : AT} (h : OKT a) {r : Nat} (hr : r < aNR a) {c : Nat} (hc : c < 2) : aR a r (3 + c) ≤ 18 := by
  obtain ⟨h0, h1, h2, h3, h4, h5, h6⟩ := h.2.2.2.2.1 r hr
  rcases (show c = 0 ∨ c = 1 by omega) with e | e
  · subst e; show aR a r 3 ≤ 18; omega
  · subst e; show aR a r 4 ≤ 18; omega
theorem RC.lane {σ : Sg} {a : AT} (h : RC σ a) {r : Nat} (hr : r < aNR a) {c : Nat} (hc : c < 2) : σ 8 (2 * r + c) = nI (aR a r (3 + c)) := by
  obtain ⟨c1, c2, c3, c4, c5⟩ := h.2.2.2.2.1 r hr
  rcases (show c = 0 ∨ c = 1 by omega) with e | e
  · subst e; exact c4
  · subst e; exact c5
theorem s_way {σ : Sg} {r : Nat} {b : Int32} {Q : Int32 → Sg → Prop} (h : Q (nI (2 * r + bc b)) σ) : wp_X5_way σ (nI r) b Q := by
  unfold wp_X5_way
  unfold bc at h
  rw [e_2, e_21_of]
  refine ⟨fun z => ?_, fun z => ?_⟩
  · rwa [if_pos z] at h
  · rwa [if_neg z] at h
theorem w34 (c : Nat) (h : c < 2) : 3 + c = 3 ∨ 3 + c = 4 := by omega
theorem L_wider {σ : Sg} (hI : INV σ) (p1 b p3 : Int32) {K : Sg → Prop} (hK : ∀ τ, INV τ → K τ) {C : Int32 → Sg → Prop} (hw : ∀ r1 σ1, wp_X6_wider σ1 p1 b p3 (fun r2 σ2 => (r1 = r2 → K σ2) ∧ (¬ (r1 = r2) → False)) → C r1 σ1) : wp_X5_wider σ p1 b p3 C := by
  have hb := bc_lt b
  refine L_ask hI (wpC := fun σ C => wp_X5_wider σ p1 b p3 C) (wpM := fun σ C => wp_X6_wider σ p1 b p3 C) (wiA p1 b p3) (fun a hO τ hC Q h => ?_) (fun a hO τ hM Q h => ?_) hK hw
  · show wp_X5_wider τ p1 b p3 Q
    unfold wp_X5_wider
    have h12 := hO.2.1
    have no : (inp (nI (aNR a)) p1 = 0 ∨ inr (-9) 30 p3 = 0 ∨ (aR a p1.toNatClampNeg (3 + bc b) : Int) + p3.toInt < 0) → Q (-2) τ := fun w => by
      have := h τ (FC.rf τ) (TC.rf τ) hC
      unfold wiA at this
      rwa [if_pos w] at this
    refine s_X3_hasRoad ?_
    rw [hC.2.1]
    refine ⟨fun z => no (Or.inl z), fun z => ⟨fun z1 => no (Or.inr (Or.inl (by unfold inr; rw [if_pos z1]))), fun z1 => ⟨fun z2 => ?_, fun z2 => no (Or.inr (Or.inl ?_))⟩⟩⟩
    · have z3 : ¬ inr (-9) 30 p3 = 0 := by
        unfold inr
        rw [if_neg z1, if_neg (by rw [Int32.lt_iff_toInt_lt]; rw [Int32.le_iff_toInt_le] at z2; omega)]
        decide
      obtain ⟨r, hr, rfl⟩ := inp_yes (by omega) z
      have hk := inr930 z3
      have hl := hO.lane hr hb
      obtain ⟨a1, a2⟩ := addk (l := aR a r (3 + bc b)) (by omega) hk
      refine s_way ?_
      have vw : vp_in (nI (2 * r + bc b)) 24 := vp_in_nI (by omega) (by decide)
      rw [nI_clamp (n := 2 * r + bc b) (by omega), hC.lane hr hb]
      refine ⟨vw, fun z4 => ⟨vw, vw, fun σ9 e9 => ?_⟩, fun z4 => no (Or.inr (Or.inr ?_))⟩
      · have z5 : 0 ≤ (aR a r (3 + bc b) : Int) + p3.toInt := by
          rw [Int32.le_iff_toInt_le, a1] at z4
          exact z4
        obtain ⟨b1, b2⟩ := a2 z5
        rw [b1] at e9
        have o9 := hO.n.setR (r := r) (w34 _ hb) (v := ((aR a r (3 + bc b) : Int) + p3.toInt).toNat) (by omega)
        have r9 := hC.setR hr hb e9
        refine s_soonest o9 r9 (qk_is _) (fun σ10 f10 => ⟨vw, vw, fun σ12 e12 => ?_⟩)
        have r10 := f10.rc r9
        have l10 := r10.lane (r := r) hr hb
        rw [aR_setR, if_pos ⟨rfl, rfl⟩] at l10
        rw [l10, b2] at e12
        have r12 := r10.setR (r := r) hr hb e12
        rw [setR_setR, setR_self] at r12
        refine s_told (qk_le _) ?_
        have wf : WF τ σ12 := ((WF_8 (fun k hk => by rw [e9, put_o hk])).tr f10.wf).tr (WF_8 (fun k hk => by rw [e12, put_o hk]))
        have := h σ12 wf.fc wf.tc r12
        unfold wiA at this
        rw [nI_clamp (n := r) (by omega), if_neg (by rintro (w | w | w); exact z w; exact z3 w; omega)] at this
        exact this
      · rw [nI_clamp (by omega)]
        rw [Int32.le_iff_toInt_le, a1] at z4
        have z4 : ¬ 0 ≤ (aR a r (3 + bc b) : Int) + p3.toInt := z4
        omega
    · unfold inr
      rw [if_neg z1, if_pos (by rw [Int32.lt_iff_toInt_lt]; rw [Int32.le_iff_toInt_le] at z2; omega)]
  · show wp_X6_wider τ p1 b p3 Q
    unfold wp_X6_wider
    have h8 := hO.1
    have h12 := hO.2.1
    intro σ1 e1
    have k1 : KF τ σ1 := KF.t0 e1
    have hM1 : RM σ1 a := k1.rm hO.n hM
    have no : (inp (nI (aNR a)) p1 = 0 ∨ inr (-9) 30 p3 = 0 ∨ (aR a p1.toNatClampNeg (3 + bc b) : Int) + p3.toInt < 0) → Q (-2) σ1 := fun w => by
      have := h σ1 k1.1 k1.2.1 hM1
      unfold wiA at this
      rwa [if_pos w] at this
    unfold wp_X6_mayWiden
    refine s_X6_isRoad hM1.2.1 (by omega) ⟨fun z => ⟨Or.inl rfl, fun _ => no (Or.inl z), fun q => absurd rfl q⟩, fun z => s_X6_isIn ⟨fun z1 => ⟨Or.inl rfl, fun _ => no (Or.inr (Or.inl z1)), fun q => absurd rfl q⟩, fun z1 => ?_⟩⟩
    obtain ⟨r, hr, rfl⟩ := inp_yes (by omega) z
    have hk := inr930 z1
    have hl := hO.lane hr hb
    obtain ⟨a1, a2⟩ := addk (l := aR a r (3 + bc b)) (by omega) hk
    have c3 := hM1.2.2.2.2.1 r hr (3 + bc b) (by omega)
    have go : ∀ (τ5 : Sg), KP σ1 τ5 → RM τ5 a → ∀ w : Nat, w = 3 + bc b → (0 ≤ (aR a r (3 + bc b) : Int) + p3.toInt) → wp_X6_wider_41 Q p3 ((35 : Int32) + ((5 : Int32) * nI r)) (nI w) τ5 := by
      intro τ5 kp rm w hw z5
      subst hw
      obtain ⟨b1, b2⟩ := a2 z5
      unfold wp_X6_wider_41
      rw [e_r, nI_clamp (n := 35 + 5 * r + (3 + bc b)) (by omega), rm.2.2.2.2.1 r hr (3 + bc b) (by omega), b1]
      refine ⟨vp_in_nI (by omega) (by decide), vp_in_nI (by omega) (by decide), fun σ8 e8 => ?_⟩
      have m8 := rm.setR (τ := σ8) (v := ((aR a r (3 + bc b) : Int) + p3.toInt).toNat) h8 h12 hr (w := 3 + bc b) (by omega) (fun j => by rw [e8, put_at]; simp)
      have o8 := hO.n.setR (r := r) (w34 _ hb) (v := ((aR a r (3 + bc b) : Int) + p3.toInt).toNat) (by omega)
      refine s_whatif o8 (kp.p31 (υ := σ8) (fun k hk => by rw [e8, put_o hk])) m8 (fun υ kυ => ?_)
      have kk := k1.tr kυ
      have := h υ kk.1 kk.2.1 (kk.rm hO.n hM)
      unfold wiA at this
      rw [nI_clamp (n := r) (by omega), if_neg (by rintro (w | w | w); exact z w; exact z1 w; omega)] at this
      exact this
    have no2 : nI (aR a r (3 + bc b)) + p3 < 0 → Q (-2) σ1 := fun z4 => no (Or.inr (Or.inr (by
      rw [nI_clamp (by omega)]
      rw [Int32.lt_iff_toInt_lt, a1] at z4
      exact z4)))
    have yes2 : ¬ nI (aR a r (3 + bc b)) + p3 < 0 → 0 ≤ (aR a r (3 + bc b) : Int) + p3.toInt := fun z4 => by
      rw [Int32.lt_iff_toInt_lt, a1] at z4
      have z4 : ¬ (aR a r (3 + bc b) : Int) + p3.toInt < 0 := z4
      omega
    refine ⟨fun zb => ?_, fun zb => ?_⟩
    · have e0 : 3 = 3 + bc b := by unfold bc; rw [if_pos zb]
      unfold wp_X6_mayWiden_30
      refine s_X6_ofRoad (w := 3) (by omega) (by decide) ?_
      rw [← e0] at c3 no2 yes2
      rw [c3]
      exact ⟨fun z4 => ⟨Or.inl rfl, fun _ => no2 z4, fun q => absurd rfl q⟩, fun z4 => ⟨Or.inr rfl, fun q => absurd q (by decide), fun _ => s_keep hO.n hM1 (fun τ5 kp rm => ⟨fun _ => go τ5 kp rm 3 e0 (by rw [← e0]; exact yes2 z4), fun q => absurd zb q⟩)⟩⟩
    · have e0 : 4 = 3 + bc b := by unfold bc; rw [if_neg zb]
      unfold wp_X6_mayWiden_30
      refine s_X6_ofRoad (w := 4) (by omega) (by decide) ?_
      rw [← e0] at c3 no2 yes2
      rw [c3]
      exact ⟨fun z4 => ⟨Or.inl rfl, fun _ => no2 z4, fun q => absurd rfl q⟩, fun z4 => ⟨Or.inr rfl, fun q => absurd q (by decide), fun _ => s_keep hO.n hM1 (fun τ5 kp rm => ⟨fun q => absurd q zb, fun _ => go τ5 kp rm 4 e0 (by rw [← e0]; exact yes2 z4)⟩)⟩⟩
/-! turned -/
theorem turnRow_ok {a : AT} (h : OKT a) {r : Nat} {k : Int} (h3 : 0 ≤ (aR a r 3 : Int) + k) (h4 : 0 ≤ (aR a r 4 : Int) - k) : OKT (turnRow a r k) := by
  refine ⟨h.1, h.2.1, h.2.2.1, h.2.2.2.1, fun i hi => ?_, h.2.2.2.2.2⟩
  obtain ⟨q0, q1, q2, q3, q4, q5, q6⟩ := h.2.2.2.2.1 i hi
  show up2 (up2 (aR a) r 3 _) r 4 _ i 0 < aNP a ∧ up2 (up2 (aR a) r 3 _) r 4 _ i 1 < aNP a ∧ up2 (up2 (aR a) r 3 _) r 4 _ i 0 ≠ up2 (up2 (aR a) r 3 _) r 4 _ i 1 ∧ 1 ≤ up2 (up2 (aR a) r 3 _) r 4 _ i 2 ∧ up2 (up2 (aR a) r 3 _) r 4 _ i 2 ≤ 9 ∧ 1 ≤ up2 (up2 (aR a) r 3 _) r 4 _ i 3 + up2 (up2 (aR a) r 3 _) r 4 _ i 4 ∧ up2 (up2 (aR a) r 3 _) r 4 _ i 3 + up2 (up2 (aR a) r 3 _) r 4 _ i 4 ≤ 18
  unfold up2
  by_cases z : i = r
  · subst z
    simp
    omega
  · simp [z]
    exact ⟨q0, q1, q2, q3, q4, q5, q6⟩
theorem turnRow_back (a : AT) {r : Nat} {k : Int} (h3 : 0 ≤ (aR a r 3 : Int) + k) (h4 : 0 ≤ (aR a r 4 : Int) - k) : turnRow (turnRow a r k) r (-k) = a := by
  have e : aR (turnRow (turnRow a r k) r (-k)) = aR a := by
    funext i j
    show up2 (up2 (up2 (up2 (aR a) r 3 ((aR a r 3 : Int) + k).toNat) r 4 ((aR a r 4 : Int) - k).toNat) r 3 ((up2 (up2 (aR a) r 3 ((aR a r 3 : Int) + k).toNat) r 4 ((aR a r 4 : Int) - k).toNat r 3 : Int) + -k).toNat) r 4 ((up2 (up2 (aR a) r 3 ((aR a r 3 : Int) + k).toNat) r 4 ((aR a r 4 : Int) - k).toNat r 4 : Int) - -k).toNat i j = aR a i j
    unfold up2
    by_cases z1 : i = r
    · subst z1
      by_cases z2 : j = 3
      · subst z2; simp; omega
      · by_cases z3 : j = 4
        · subst z3; simp; omega
        · simp [z2, z3]
    · simp [z1]
  show (a.1, aP a, aR (turnRow (turnRow a r k) r (-k)), aM a) = a
  rw [e]
  rfl
noncomputable def tuA (x k : Int32) (a : AT) : Int32 := if tOK a x k then tq (qk (turnRow a x.toNatClampNeg k.toInt)) 41 else -2
theorem OKT.l100 {a : AT} (h : OKT a) : ∀ r, r < aNR a → aR a r 3 < 100 ∧ aR a r 4 < 100 := fun r hr => by
  obtain ⟨q0, q1, q2, q3, q4, q5, q6⟩ := h.2.2.2.2.1 r hr
  omega
theorem neg_toInt {k : Int32} (h1 : -100 ≤ k.toInt) (h2 : k.toInt ≤ 100) : (-k).toInt = -k.toInt := by
  rw [Int32.toInt_neg]
  exact Int.bmod_eq_of_le (by omega) (by omega)
theorem L_turned {σ : Sg} (hI : INV σ) (p1 p2 : Int32) {K : Sg → Prop} (hK : ∀ τ, INV τ → K τ) {C : Int32 → Sg → Prop} (hw : ∀ r1 σ1, wp_X6_turned σ1 p1 p2 (fun r2 σ2 => (r1 = r2 → K σ2) ∧ (¬ (r1 = r2) → False)) → C r1 σ1) : wp_X5_turned σ p1 p2 C := by
  refine L_ask hI (wpC := fun σ C => wp_X5_turned σ p1 p2 C) (wpM := fun σ C => wp_X6_turned σ p1 p2 C) (tuA p1 p2) (fun a hO τ hC Q h => ?_) (fun a hO τ hM Q h => ?_) hK hw
  · show wp_X5_turned τ p1 p2 Q
    unfold wp_X5_turned
    have h12 := hO.2.1
    refine s_X3_turnFits hC h12 hO.l100 ?_
    by_cases z : tOK a p1 p2
    · rw [if_pos z]
      refine ⟨fun q => absurd q (by decide), fun _ => ?_⟩
      obtain ⟨z0, z1, z3, z4⟩ := z
      obtain ⟨r, hr, rfl⟩ := inp_yes (by omega) z0
      rw [nI_clamp (by omega)] at z3 z4
      obtain ⟨l3, l4⟩ := hO.l100 r hr
      have l34 := (hO.2.2.2.2.1 r hr).2.2.2.2.2.2
      have kn := neg_toInt (k := p2) (by omega) (by omega)
      refine s_X3_shiftLanes hC h12 hr (hO.l100 r hr) (by omega) (by omega) (fun σ4 f4 r4 => ?_)
      have ok := turnRow_ok hO (r := r) (k := p2.toInt) (by omega) (by omega)
      refine s_soonest ok.n r4 (qk_is _) (fun σ6 f6 => ?_)
      have r6 := f6.rc r4
      have e3 : aR (turnRow a r p2.toInt) r 3 = ((aR a r 3 : Int) + p2.toInt).toNat := by show up2 (up2 (aR a) r 3 _) r 4 _ r 3 = _; unfold up2; simp
      have e4 : aR (turnRow a r p2.toInt) r 4 = ((aR a r 4 : Int) - p2.toInt).toNat := by show up2 (up2 (aR a) r 3 _) r 4 _ r 4 = _; unfold up2; simp
      refine s_X3_shiftLanes r6 h12 hr (by rw [e3, e4]; omega) (by rw [e3, kn]; omega) (by rw [e4, kn]; omega) (fun σ8 f8 r8 => ?_)
      rw [kn, turnRow_back a (by omega) (by omega)] at r8
      refine s_told (qk_le _) ?_
      have wf : WF τ σ8 := ((WF_8 f4).tr f6.wf).tr (WF_8 f8)
      have := h σ8 wf.fc wf.tc r8
      unfold tuA at this
      rw [if_pos ⟨z0, z1, by rw [nI_clamp (by omega)]; exact z3, by rw [nI_clamp (by omega)]; exact z4⟩, nI_clamp (by omega)] at this
      exact this
    · rw [if_neg z]
      refine ⟨fun _ => ?_, fun q => absurd rfl q⟩
      have := h τ (FC.rf τ) (TC.rf τ) hC
      unfold tuA at this
      rwa [if_neg z] at this
  · show wp_X6_turned τ p1 p2 Q
    unfold wp_X6_turned
    have h12 := hO.2.1
    intro σ1 e1
    have k1 : KF τ σ1 := KF.t0 e1
    have hM1 : RM σ1 a := k1.rm hO.n hM
    refine s_X6_mayTurn hM1 h12 hO.l100 ?_
    by_cases z : tOK a p1 p2
    · rw [if_pos z]
      refine ⟨fun q => absurd q (by decide), fun _ => s_keep hO.n hM1 (fun τ5 kp rm => ?_)⟩
      obtain ⟨z0, z1, z3, z4⟩ := z
      obtain ⟨r, hr, rfl⟩ := inp_yes (by omega) z0
      rw [nI_clamp (by omega)] at z3 z4
      refine s_X6_turnsRoad rm hO.1 h12 hr (hO.l100 r hr) (by omega) (by omega) (fun σ7 f7 r7 => ?_)
      have ok := turnRow_ok hO (r := r) (k := p2.toInt) (by omega) (by omega)
      refine s_whatif ok.n (kp.p31 f7) r7 (fun υ kυ => ?_)
      have kk := k1.tr kυ
      have := h υ kk.1 kk.2.1 (kk.rm hO.n hM)
      unfold tuA at this
      rw [if_pos ⟨z0, z1, by rw [nI_clamp (by omega)]; exact z3, by rw [nI_clamp (by omega)]; exact z4⟩, nI_clamp (by omega)] at this
      exact this
    · rw [if_neg z]
      refine ⟨fun _ => ?_, fun q => absurd rfl q⟩
      have := h σ1 k1.1 k1.2.1 hM1
      unfold tuA at this
      rwa [if_neg z] at this
/-! roomy -/
noncomputable def roA (x v : Int32) (a : AT) : Int32 := if inp (nI (aNP a)) x = 0 ∨ mb 1 v = 0 then -2 else tq (qk (setP a x.toNatClampNeg 1 v.toNatClampNeg)) 41
theorem s_with {a : AT} {σ : Sg} {p v : Nat} {Q : Int32 → Sg → Prop} (hO : OKN a) (hM : RM σ a) (hp : p < aNP a) (hv : v ≤ 300) (h : ∀ τ, KF σ τ → Q (tq (qk (setP a p 1 v)) 41) τ) : wp_X6_with σ (nI p) 1 (nI v) Q := by
  unfold wp_X6_with
  have h8 := hO.1
  refine s_keep hO hM (fun τ kp rm => ?_)
  rw [show (1 : Int32) = nI 1 from rfl, e_p, nI_clamp (n := 3 + 4 * p + 1) (by omega)]
  refine ⟨vp_in_nI (by omega) (by decide), fun σ3 e3 => ?_⟩
  have m3 := rm.setP (τ := σ3) (v := v) h8 hp (w := 1) (by decide) (fun j => by rw [e3, put_at]; simp)
  exact s_whatif (hO.setP (Or.inl ⟨rfl, hv⟩)) (kp.p31 (υ := σ3) (fun k hk => by rw [e3, put_o hk])) m3 h
theorem L_roomy {σ : Sg} (hI : INV σ) (p1 p2 : Int32) {K : Sg → Prop} (hK : ∀ τ, INV τ → K τ) {C : Int32 → Sg → Prop} (hw : ∀ r1 σ1, wp_X6_roomy σ1 p1 p2 (fun r2 σ2 => (r1 = r2 → K σ2) ∧ (¬ (r1 = r2) → False)) → C r1 σ1) : wp_X5_roomy σ p1 p2 C := by
  refine L_ask hI (wpC := fun σ C => wp_X5_roomy σ p1 p2 C) (wpM := fun σ C => wp_X6_roomy σ p1 p2 C) (roA p1 p2) (fun a hO τ hC Q h => ?_) (fun a hO τ hM Q h => ?_) hK hw
  · show wp_X5_roomy τ p1 p2 Q
    unfold wp_X5_roomy
    have h8 := hO.1
    have no : (inp (nI (aNP a)) p1 = 0 ∨ mb 1 p2 = 0) → Q (-2) τ := fun w => by
      have := h τ (FC.rf τ) (TC.rf τ) hC
      unfold roA at this
      rwa [if_pos w] at this
    refine s_X3_hasPlace ?_
    rw [hC.1]
    refine ⟨fun z => no (Or.inl z), fun z => s_X3_factFits ⟨fun z1 => no (Or.inr z1), fun z1 => ?_⟩⟩
    obtain ⟨p, hp, rfl⟩ := inp_yes (by omega) z
    obtain ⟨v1, v2⟩ := mb_yes (w := 1) (hi := 300) (by decide) z1
    obtain ⟨v, hv⟩ : ∃ v, v = p2.toNatClampNeg := ⟨_, rfl⟩
    rw [← hv] at v1 v2
    subst v2
    refine s_X3_fact (w := 1) (by omega) (by decide) (s_X3_change (w := 1) (by omega) (by decide) ?_)
    have r9 := hC.setP (v := v) hp (w := 1) (by decide) rfl
    have o9 := hO.n.setP (p := p) (Or.inl ⟨rfl, v1⟩)
    refine s_soonest o9 r9 (qk_is _) (fun σ11 f11 => s_X3_change (w := 1) (by omega) (by decide) ?_)
    have r11 := f11.rc r9
    rw [hC.2.2.2.1 p hp 1 (by decide)]
    have r13 := r11.setP (v := aP a p 1) hp (w := 1) (by decide) rfl
    rw [setP_setP, setP_self] at r13
    refine s_told (qk_le _) ?_
    have wf : WF τ (put σ11 9 (4 * p + 1) (nI (aP a p 1))) := ((WF_9 (fun k hk => put_o hk)).tr f11.wf).tr (WF_9 (fun k hk => put_o hk))
    have := h _ wf.fc wf.tc r13
    unfold roA at this
    rw [if_neg (by rintro (w | w); exact z w; exact z1 w), nI_clamp (n := p) (by omega), nI_clamp (n := v) (by omega)] at this
    exact this
  · show wp_X6_roomy τ p1 p2 Q
    unfold wp_X6_roomy
    have h8 := hO.1
    intro σ1 e1
    have k1 : KF τ σ1 := KF.t0 e1
    have hM1 : RM σ1 a := k1.rm hO.n hM
    have no : (inp (nI (aNP a)) p1 = 0 ∨ mb 1 p2 = 0) → Q (-2) σ1 := fun w => by
      have := h σ1 k1.1 k1.2.1 hM1
      unfold roA at this
      rwa [if_pos w] at this
    refine s_X6_isPlace hM1.1 (by omega) ⟨fun z => no (Or.inl z), fun z => s_X6_mayBe ⟨fun z1 => no (Or.inr z1), fun z1 => ?_⟩⟩
    obtain ⟨p, hp, rfl⟩ := inp_yes (by omega) z
    obtain ⟨v1, v2⟩ := mb_yes (w := 1) (hi := 300) (by decide) z1
    obtain ⟨v, hv⟩ : ∃ v, v = p2.toNatClampNeg := ⟨_, rfl⟩
    rw [← hv] at v1 v2
    subst v2
    refine s_with hO.n hM1 hp v1 (fun υ kυ => ?_)
    have kk := k1.tr kυ
    have := h υ kk.1 kk.2.1 (kk.rm hO.n hM)
    unfold roA at this
    rw [if_neg (by rintro (w | w); exact z w; exact z1 w), nI_clamp (n := p) (by omega), nI_clamp (n := v) (by omega)] at this
    exact this
