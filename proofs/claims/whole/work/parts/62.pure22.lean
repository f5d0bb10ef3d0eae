theorem ri_go {S many idx m : Nat} {σ : Sg} {Q : Int32 → Sg → Prop} (hS : S < 3) (h5 : idx < many) (hm : many < 10) (h : wp_X2_readInts_31 Q (fun z1 z2 z3 σ => wp_X2_readInts_7 Q m z1 z2 z3 σ) (nI S) (nI many) (nI idx) σ) : wp_X2_readInts_7 Q (m + 1) (nI S) (nI many) (nI idx) σ := by
  rw [wp_X2_readInts_7]
  refine ⟨fun z => absurd z (nI_ge h5 (by omega)), fun _ => ⟨fun z => ?_, fun _ => h⟩⟩
  have : S = 3 := (nI_eq (b := 3) (by omega) (by omega)).mp z
  omega
theorem ri_end {S many m : Nat} {σ : Sg} {Q : Int32 → Sg → Prop} (hm : many < 10) (h : Q 1 σ) : wp_X2_readInts_7 Q (m + 1) (nI S) (nI many) (nI many) σ := by
  rw [wp_X2_readInts_7]
  exact ⟨fun _ => ⟨Or.inr rfl, h⟩, fun z => absurd (nI_le (Nat.le_refl _) (by omega)) z⟩
theorem hf_place {a : AT} {σ : Sg} {idx hi : Nat} (hidx : idx < 4) (hm : ∀ v, mb (nI idx) v = inr 0 (nI hi) v) : ∀ τ (Q' : Int32 → Sg → Prop), K3 σ τ → RC τ a → Q' (inr 0 (nI hi) (τ 3 8)) τ → wp_X2_intFits τ (nI 0) (nI idx) Q' := by
  intro τ Q' _ _ h
  have key : ∀ y, wp_X2_intFits_16 Q' (nI 0) (nI idx) y τ := by
    intro y
    refine ⟨fun _ => s_X3_factFits ?_, fun z => absurd z (by decide), fun z => absurd z (by decide), fun z => absurd rfl z⟩
    rw [hm]
    exact ⟨inr_bz _ _ _, h⟩
  exact s_if0 (by omega) (fun _ => key _) (fun _ => key _)
theorem v05 {i : Nat} (h : i < 5) : vp_in (nI i) 5 := vp_in_nI h (by decide)
theorem I_place {T : Nat → Int32} {n : Nat} {a : AT} {b : Nat} {σ0 σ : Sg} {Q : Int32 → Sg → Prop} (hc : CT T n a b σ0 σ) (hlt : aNP a < 8) (hA : ANS T n 0 a σ0 Q (placeS T n a b)) : wp_X2_readInts σ 0 Q := by
  refine ⟨fun _ => ⟨5, ?_⟩, fun z => absurd z (by decide), fun z => absurd z (by decide), fun z => absurd rfl z⟩
  show wp_X2_readInts_7 Q (4 + 1) (nI 0) (nI 4) (nI 0) σ
  refine ri_go (by decide) (by decide) (by decide) (c_one' hc (by decide) (hf_place (hi := 60) (by decide) (fun _ => rfl)) hA (fun v0 e0 f0 hA τ0 c0 g0 k0 _ => ?_))
  show wp_X2_readInts_7 Q (3 + 1) (nI 0) (nI 4) (nI 1) τ0
  refine ri_go (by decide) (by decide) (by decide) (c_one' c0 (by decide) (hf_place (hi := 300) (by decide) (fun _ => rfl)) hA (fun v1 e1 f1 hA τ1 c1 g1 k1 _ => ?_))
  show wp_X2_readInts_7 Q (2 + 1) (nI 0) (nI 4) (nI 2) τ1
  refine ri_go (by decide) (by decide) (by decide) (c_one' c1 (by decide) (hf_place (hi := 20) (by decide) (fun _ => rfl)) hA (fun v2 e2 f2 hA τ2 c2 g2 k2 _ => ?_))
  show wp_X2_readInts_7 Q (1 + 1) (nI 0) (nI 4) (nI 3) τ2
  refine ri_go (by decide) (by decide) (by decide) (c_one' c2 (by decide) (hf_place (hi := 300) (by decide) (fun _ => rfl)) hA (fun v3 e3 f3 hA τ3 c3 g3 k3 _ => ?_))
  show wp_X2_readInts_7 Q (0 + 1) (nI 0) (nI 4) (nI 4) τ3
  refine ri_end (by decide) (hA.2 rfl τ3 c3 ?_)
  intro υ Q' ku hC h
  have x0 : υ 17 0 = v0 := by rw [ku.1 17 (by decide), k3 0 (by decide), k2 0 (by decide), k1 0 (by decide), g0]
  have x1 : υ 17 1 = v1 := by rw [ku.1 17 (by decide), k3 1 (by decide), k2 1 (by decide), g1]
  have x2 : υ 17 2 = v2 := by rw [ku.1 17 (by decide), k3 2 (by decide), g2]
  have x3 : υ 17 3 = v3 := by rw [ku.1 17 (by decide), g3]
  refine ⟨fun _ => ⟨v05 (i := 0) (by decide), v05 (i := 1) (by decide), v05 (i := 2) (by decide), v05 (i := 3) (by decide), ?_⟩, fun z => absurd z (by decide), fun z => absurd z (by decide), fun z => absurd rfl z⟩
  show wp_X3_addPlace υ (υ 17 0) (υ 17 1) (υ 17 2) (υ 17 3) _
  rw [x0, x1, x2, x3]
  exact A_place hC f0 f1 f2 f3 hlt (fun ω kω rω => h ω kω rω)
theorem if_x1 {τ : Sg} {idx : Nat} {y : Int32} {Q : Int32 → Sg → Prop} (h : wp_X3_roadFits τ (nI idx) (τ 3 8) y (fun r7 σ6 => bz r7 ∧ Q r7 σ6)) : wp_X2_intFits_16 Q (nI 1) (nI idx) y τ :=
  ⟨fun z => absurd z (by decide), fun _ => h, fun z => absurd z (by decide), fun _ z => absurd rfl z⟩
theorem ite_bz (p : Prop) [Decidable p] : bz (if p then 0 else 1) := by
  unfold bz
  split
  · exact Or.inl rfl
  · exact Or.inr rfl
theorem ite_bz' (p : Prop) [Decidable p] : bz (if p then 1 else 0) := by
  unfold bz
  split
  · exact Or.inr rfl
  · exact Or.inl rfl
theorem I_road {T : Nat → Int32} {n : Nat} {a : AT} {b : Nat} {σ0 σ : Sg} {Q : Int32 → Sg → Prop} (h8 : aNP a ≤ 8) (hc : CT T n a b σ0 σ) (hlt : aNR a < 12) (hA : ANS T n 1 a σ0 Q (roadS T n a b)) : wp_X2_readInts σ 1 Q := by
  refine ⟨fun z => absurd z (by decide), fun _ => ⟨6, ?_⟩, fun z => absurd z (by decide), fun _ z => absurd rfl z⟩
  show wp_X2_readInts_7 Q (5 + 1) (nI 1) (nI 5) (nI 0) σ
  refine ri_go (by decide) (by decide) (by decide) (c_one' hc (by decide) (fun τ Q' k hC h => s_if0 (by decide) (fun _ => if_x1 (s_fit0 ?_)) (fun z => by omega)) hA (fun v0 e0 f0 hA τ0 c0 g0 k0 _ => ?_))
  · rw [hC.1]; exact ⟨inp_bz _ _, h⟩
  show wp_X2_readInts_7 Q (4 + 1) (nI 1) (nI 5) (nI 1) τ0
  refine ri_go (by decide) (by decide) (by decide) (c_one' c0 (by decide) (fun τ Q' k hC h => s_if0 (by decide) (fun z => by omega) (fun _ => if_x1 (s_fit1 ?_))) hA (fun v1 e1 f1 hA τ1 c1 g1 k1 _ => ?_))
  · rw [hC.1, k.1 17 (by decide), show τ0 17 (1 - 1) = v0 from g0]; exact ⟨ite_bz _, h⟩
  show wp_X2_readInts_7 Q (3 + 1) (nI 1) (nI 5) (nI 2) τ1
  refine ri_go (by decide) (by decide) (by decide) (c_one' c1 (by decide) (fun τ Q' k hC h => s_if0 (by decide) (fun z => by omega) (fun _ => if_x1 (s_fit2 ⟨inr_bz _ _ _, h⟩))) hA (fun v2 e2 f2 hA τ2 c2 g2 k2 _ => ?_))
  show wp_X2_readInts_7 Q (2 + 1) (nI 1) (nI 5) (nI 3) τ2
  refine ri_go (by decide) (by decide) (by decide) (c_one' c2 (by decide) (fun τ Q' k hC h => s_if0 (by decide) (fun z => by omega) (fun _ => if_x1 (s_fit3 ⟨inr_bz _ _ _, h⟩))) hA (fun v3 e3 f3 hA τ3 c3 g3 k3 _ => ?_))
  show wp_X2_readInts_7 Q (1 + 1) (nI 1) (nI 5) (nI 4) τ3
  refine ri_go (by decide) (by decide) (by decide) (c_one' c3 (by decide) (fun τ Q' k hC h => s_if0 (by decide) (fun z => by omega) (fun _ => if_x1 (s_fit4 ?_ ?_))) hA (fun v4 e4 f4 hA τ4 c4 g4 k4 _ => ?_))
  · rw [k.1 17 (by decide), show τ3 17 (4 - 1) = v3 from g3]; exact f3
  · rw [k.1 17 (by decide), show τ3 17 (4 - 1) = v3 from g3]; exact ⟨ite_bz _, h⟩
  show wp_X2_readInts_7 Q (0 + 1) (nI 1) (nI 5) (nI 5) τ4
  refine ri_end (by decide) (hA.2 rfl τ4 c4 ?_)
  intro υ Q' ku hC h
  have x0 : υ 17 0 = v0 := by rw [ku.1 17 (by decide), k4 0 (by decide), k3 0 (by decide), k2 0 (by decide), k1 0 (by decide), g0]
  have x1 : υ 17 1 = v1 := by rw [ku.1 17 (by decide), k4 1 (by decide), k3 1 (by decide), k2 1 (by decide), g1]
  have x2 : υ 17 2 = v2 := by rw [ku.1 17 (by decide), k4 2 (by decide), k3 2 (by decide), g2]
  have x3 : υ 17 3 = v3 := by rw [ku.1 17 (by decide), k4 3 (by decide), g3]
  have x4 : υ 17 4 = v4 := by rw [ku.1 17 (by decide), g4]
  refine ⟨fun z => absurd z (by decide), fun _ => ⟨v05 (i := 0) (by decide), v05 (i := 1) (by decide), v05 (i := 2) (by decide), v05 (i := 3) (by decide), v05 (i := 4) (by decide), ?_⟩, fun z => absurd z (by decide), fun _ z => absurd rfl z⟩
  show wp_X3_addRoad υ (υ 17 0) (υ 17 1) (υ 17 2) (υ 17 3) (υ 17 4) _
  rw [x0, x1, x2, x3, x4]
  refine A_road h8 hC ⟨f0, fun q => f1 (by rw [if_pos (Or.inl q)]), fun q => f1 (by rw [if_pos (Or.inr q.symm)]), f2, f3, fun q => f4 (by rw [if_pos (Or.inl q)]), fun q => f4 (by rw [if_pos (Or.inr q)])⟩ hlt (fun ω kω rω => h ω kω rω)
theorem I_turn {T : Nat → Int32} {n : Nat} {a : AT} {b : Nat} {σ0 σ : Sg} {Q : Int32 → Sg → Prop} (hO : OKT a) (hc : CT T n a b σ0 σ) (hA : ANS T n 2 a σ0 Q (turnS T n a b)) : wp_X2_readInts σ 2 Q := by
  have h12 := hO.2.1
  refine ⟨fun z => absurd z (by decide), fun z => absurd z (by decide), fun _ => ⟨3, ?_⟩, fun _ _ z => absurd rfl z⟩
  show wp_X2_readInts_7 Q (2 + 1) (nI 2) (nI 2) (nI 0) σ
  refine ri_go (by decide) (by decide) (by decide) (c_one' hc (by decide) (fun τ Q' k hC h => s_if0 (by decide) (fun _ => ⟨fun z => absurd z (by decide), fun z => absurd z (by decide), fun _ => ⟨fun _ => s_X3_hasRoad ?_, fun z => absurd rfl z⟩, fun _ _ z => absurd rfl z⟩) (fun z => by omega)) hA (fun v0 e0 f0 hA τ0 c0 g0 k0 _ => ?_))
  · rw [hC.2.1]; exact ⟨inp_bz _ _, h⟩
  show wp_X2_readInts_7 Q (1 + 1) (nI 2) (nI 2) (nI 1) τ0
  refine ri_go (by decide) (by decide) (by decide) (c_one' c0 (by decide) (fun τ Q' k hC h => s_if0 (by decide) (fun z => by omega) (fun _ => ⟨fun z => absurd z (by decide), fun z => absurd z (by decide), fun _ => ⟨fun z => absurd z (by decide), fun _ => s_X3_turnFits hC h12 (O_b100 hO) ?_⟩, fun _ _ z => absurd rfl z⟩)) hA (fun v1 e1 f1 hA τ1 c1 g1 k1 _ => ?_))
  · rw [k.1 17 (by decide), show τ0 17 (1 - 1) = v0 from g0]; exact ⟨ite_bz' _, h⟩
  show wp_X2_readInts_7 Q (0 + 1) (nI 2) (nI 2) (nI 2) τ1
  refine ri_end (by decide) (hA.2 rfl τ1 c1 ?_)
  intro υ Q' ku hC h
  have x0 : υ 17 0 = v0 := by rw [ku.1 17 (by decide), k1 0 (by decide), g0]
  have x1 : υ 17 1 = v1 := by rw [ku.1 17 (by decide), g1]
  refine ⟨fun z => absurd z (by decide), fun z => absurd z (by decide), fun _ => ⟨v05 (i := 0) (by decide), v05 (i := 1) (by decide), ?_⟩, fun _ _ z => absurd rfl z⟩
  show wp_X3_shiftLanes υ (υ 17 0) (υ 17 1) _
  rw [x0, x1]
  have ok : tOK a v0 v1 := by
    rcases Classical.em (tOK a v0 v1) with q | q
    · exact q
    · exact absurd (by rw [if_neg q]) f1
  have ha : (turnA v0 v1 a).2 = turnRow a v0.toNatClampNeg v1.toInt := by unfold turnA; rw [if_pos ok]
  obtain ⟨q, hq, rfl⟩ := inp_yes (by omega) ok.1
  rw [nI_clamp (n := q) (by omega)] at ha
  have ok3 := ok.2.2.1
  have ok4 := ok.2.2.2
  rw [nI_clamp (n := q) (by omega)] at ok3 ok4
  refine s_X3_shiftLanes hC h12 hq (O_b100 hO q hq) (by omega) (by omega) (fun ω kω rω => h ω (fun k hk => kω k (fun z => hk (by unfold CTW; omega))) ?_)
  rw [ha]; exact rω
theorem if_x3 {τ : Sg} {idx : Nat} {y : Int32} {Q : Int32 → Sg → Prop} (h : wp_X1_moveFits τ (nI idx) (τ 3 8) (fun r7 σ6 => bz r7 ∧ Q r7 σ6)) : wp_X2_intFits_16 Q (nI 3) (nI idx) y τ :=
  ⟨fun z => absurd z (by decide), fun z => absurd z (by decide), fun z => absurd z (by decide), fun _ _ _ => h⟩
theorem s_readWay {T : Nat → Int32} {n : Nat} {a : AT} {b : Nat} {σ0 σ : Sg} {Q : Int32 → Sg → Prop} (hc : CT T n a b σ0 σ)
    (h4 : isW T n (tI T n b) 4 → ∀ τ, CT T n a (tEi T n (tI T n b)) σ0 τ → τ 17 = σ 17 → τ 3 10 = 1 → Q 1 τ)
    (h5 : ¬ isW T n (tI T n b) 4 → isW T n (tI T n b) 5 → ∀ τ, CT T n a (tEi T n (tI T n b)) σ0 τ → τ 17 = σ 17 → τ 3 10 = 0 → Q 1 τ)
    (hn : ¬ isW T n (tI T n b) 4 → ¬ isW T n (tI T n b) 5 → ∀ τ, CF a (1 + 8 * tI T n b) σ0 τ → Q 0 τ) : wp_X2_readWay σ Q := by
  refine s_readToken hc.1 (fun τ k c e6 e7 _ => ?_)
  have ct := hc.k3 k c
  have hi := (tI_p T n b).2 hc.1.2.2.2.2
  refine s_isWord (by decide) hi c e6 e7 ⟨ite_bz' _, fun σ5 e5 => ?_⟩
  have k5 : ∀ j, j ≠ 3 → σ5 j = τ j := fun j hj => by rw [e5, put_o hj]
  have s5 : ∀ j, j ≠ 10 → σ5 3 j = τ 3 j := fun j hj => by rw [e5, put_n hj]
  have c5 : CB T n (tEi T n (tI T n b)) σ5 := ⟨c.1, fun j hj => by rw [k5 16 (by decide)]; exact c.2.1 j hj, by rw [s5 0 (by decide)]; exact c.2.2.1, by rw [s5 5 (by decide)]; exact c.2.2.2.1, c.2.2.2.2⟩
  have ct5 : CT T n a (tEi T n (tI T n b)) σ0 σ5 := ⟨c5, ct.2.1.keep (by rw [k5 1 (by decide)]) (by rw [k5 1 (by decide)]) (by rw [k5 2 (by decide)]) (k5 6 (by decide)) (k5 7 (by decide)) (k5 8 (by decide)) (k5 9 (by decide)) (k5 13 (by decide)), by rw [s5 1 (by decide)]; exact ct.2.2.1, ct.2.2.2.1.tr (fun j hj => k5 j (by omega)), by rw [k5 18 (by decide)]; exact ct.2.2.2.2⟩
  have r10 : σ5 3 10 = if isW T n (tI T n b) 4 then 1 else 0 := by rw [e5, put_s]
  have r17 : σ5 17 = σ 17 := by rw [k5 17 (by decide), k.1 17 (by decide)]
  rw [r10]
  by_cases g : isW T n (tI T n b) 4
  · rw [if_pos g] at r10 ⊢
    exact ⟨fun z => absurd z (by decide), fun _ => ⟨Or.inr rfl, h4 g σ5 ct5 r17 r10⟩⟩
  · rw [if_neg g] at r10 ⊢
    refine ⟨fun _ => s_isWord (by decide) hi c5 (by rw [s5 6 (by decide)]; exact e6) (by rw [s5 7 (by decide)]; exact e7) ?_, fun z => absurd rfl z⟩
    by_cases g2 : isW T n (tI T n b) 5
    · rw [if_pos g2]
      exact ⟨fun z => absurd z (by decide), fun _ => ⟨Or.inr rfl, h5 g g2 σ5 ct5 r17 r10⟩⟩
    · rw [if_neg g2]
      refine ⟨fun _ => s_refuse ct5.2.1 ct5.2.2.2.1 ct5.2.2.2.2 (by rw [s5 7 (by decide)]; exact e7) (fun υ cf => ⟨fun _ => ⟨Or.inl rfl, hn g g2 υ cf⟩, fun z => absurd rfl z⟩), fun z => absurd rfl z⟩
theorem I_move {T : Nat → Int32} {n : Nat} {a : AT} {b : Nat} {σ0 σ : Sg} {Q : Int32 → Sg → Prop} (hO : OKT a) (hc : CT T n a b σ0 σ) (hlt : aNM a < 40) (hA : ANS T n 3 a σ0 Q (moveS T n a b)) : wp_X2_readInts σ 3 Q := by
  have h12 := hO.2.1
  refine ⟨fun z => absurd z (by decide), fun z => absurd z (by decide), fun z => absurd z (by decide), fun _ _ _ => ⟨4, ?_⟩⟩
  show wp_X2_readInts_7 Q (3 + 1) (nI 3) (nI 3) (nI 0) σ
  rw [wp_X2_readInts_7]
  refine ⟨fun z => absurd z (by decide), fun _ => ⟨fun _ => ⟨fun z => absurd z (by decide), fun _ => ?_⟩, fun z => absurd rfl z⟩⟩
  refine c_one' (S := 3) (idx := 0) hc (by decide) (fun τ Q' k hC h => s_if0 (by decide) (fun _ => if_x3 (s_mf0 ⟨inr_bz _ _ _, h⟩)) (fun z => by omega)) hA (fun v0 e0 f0 hA τ0 c0 g0 k0 _ => ?_)
  show wp_X2_readInts_7 Q (2 + 1) (nI 3) (nI 3) (nI 1) τ0
  rw [wp_X2_readInts_7]
  refine ⟨fun z => absurd z (by decide), fun _ => ⟨fun _ => ⟨fun z => absurd z (by decide), fun _ => ?_⟩, fun z => absurd rfl z⟩⟩
  refine c_one' (S := 3) (idx := 1) c0 (by decide) (fun τ Q' k hC h => s_if0 (by decide) (fun z => by omega) (fun _ => if_x3 (s_mf1 ?_))) hA (fun v1 e1 f1 hA τ1 c1 g1 k1 _ => ?_)
  · rw [hC.2.1]; exact ⟨inp_bz _ _, h⟩
  show wp_X2_readInts_7 Q (1 + 1) (nI 3) (nI 3) (nI 2) τ1
  rw [wp_X2_readInts_7]
  refine ⟨fun z => absurd z (by decide), fun _ => ⟨fun _ => ⟨fun _ => ?_, fun z => absurd rfl z⟩, fun z => absurd rfl z⟩⟩
  have rest : ∀ (x : Int32) (τ2 : Sg) (e : Nat), CT T n a e σ0 τ2 → τ2 17 = τ1 17 → τ2 3 10 = x → ANS T n 3 a σ0 Q (one T n a e (inr 1 60) fun v3 b3 => (0, (moveA v0 v1 x v3 a).2, b3)) → wp_X2_readInts_31 Q (fun z1 z2 z3 σ => wp_X2_readInts_7 Q 1 z1 z2 z3 σ) (nI 3) (nI 3) (nI 2) τ2 := by
    intro x τ2 e c2 e17 e10 hA
    refine c_one' (S := 3) (idx := 2) c2 (by decide) (fun τ Q' k hC h => s_if0 (by decide) (fun z => by omega) (fun _ => if_x3 (s_mf2 ⟨inr_bz _ _ _, h⟩))) hA (fun v3 e3 f3 hA τ3 c3 g3 k3 e10' => ?_)
    show wp_X2_readInts_7 Q (0 + 1) (nI 3) (nI 3) (nI 3) τ3
    refine ri_end (by decide) (hA.2 rfl τ3 c3 ?_)
    intro υ Q' ku hC h
    have x0 : υ 17 0 = v0 := by rw [ku.1 17 (by decide), k3 0 (by decide), e17, k1 0 (by decide), g0]
    have x1 : υ 17 1 = v1 := by rw [ku.1 17 (by decide), k3 1 (by decide), e17, g1]
    have x2 : υ 17 2 = v3 := by rw [ku.1 17 (by decide), g3]
    have x10 : υ 3 10 = x := by rw [ku.2 10 (by decide) (by decide) (by decide) (by decide), e10', e10]
    refine ⟨fun z => absurd z (by decide), fun z => absurd z (by decide), fun z => absurd z (by decide), fun _ _ _ => ⟨v05 (i := 0) (by decide), v05 (i := 1) (by decide), v05 (i := 2) (by decide), ?_⟩⟩
    show wp_X1_add υ (υ 17 0) (υ 17 1) (υ 3 10) (υ 17 2) _
    rw [x0, x1, x2, x10]
    exact A_move h12 hC ⟨f0, f1, f3⟩ hlt (fun ω kω rω => h ω kω rω)
  refine s_readWay c1 (fun g τ2 c2 e17 e10 => ⟨fun z => absurd z (by decide), fun _ => rest 1 τ2 _ c2 e17 e10 ?_⟩) (fun g g2 τ2 c2 e17 e10 => ⟨fun z => absurd z (by decide), fun _ => rest 0 τ2 _ c2 e17 e10 ?_⟩) (fun g g2 τ2 cf => ⟨fun _ => ⟨Or.inl rfl, ?_⟩, fun z => absurd rfl z⟩)
  · rw [if_pos g] at hA; exact hA
  · rw [if_neg g, if_pos g2] at hA; exact hA
  · rw [if_neg g, if_neg g2] at hA
    exact hA.1 (by show ¬ 1 + 8 * tI T n e1 = 0; omega) τ2 cf
