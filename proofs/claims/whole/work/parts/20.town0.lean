def rm_X3_hasPlace : Room := { frames := 0, cells := 0, slots := 0, locals := 0 }
abbrev wz_X3_hasPlace : List Cond := Cond.code yX3_hasPlace cX3_hasPlace 2 (some .boolean) :: wsA
theorem hd_X3_hasPlace : yX3_hasPlace.cls = RX3 ∧ yX3_hasPlace.cls ≠ "java/lang/invoke/MethodHandle" ∧ yX3_hasPlace.cls ≠ "java/lang/invoke/VarHandle" ∧ (parseMethodDescriptor yX3_hasPlace.desc).map (fun d => d.parameters.length) = some 1 := by decide +kernel
def wp_X3_hasPlace (σ : Sg) (p1 : Int32) (Q : Int32 → Sg → Prop) : Prop := (p1 < 0 → (bz (0 : Int32) ∧ Q (0 : Int32) σ)) ∧ (¬ (p1 < 0) → (((σ 1 0) ≤ p1 → (bz (0 : Int32) ∧ Q (0 : Int32) σ)) ∧ (¬ ((σ 1 0) ≤ p1) → (bz (1 : Int32) ∧ Q (1 : Int32) σ))))
set_option maxHeartbeats 4000000 in
set_option maxRecDepth 100000 in
theorem c_X3_hasPlace (l : Launch) (G : Gw) (σ : Sg) (p1 : Int32) (Q : Int32 → Sg → Prop) (hw : wp_X3_hasPlace σ p1 Q) : MetI l yX3_hasPlace wz_X3_hasPlace rm_X3_hasPlace G σ [.ref (G.1 1), .int p1] Q := by
  refine MetI.of cX3_hasPlace 2 (some .boolean) (by decide) rfl (Nat.le_of_ble_eq_true rfl) ?_
  intro p e s m below meth c X hk ls hl
  have X : KC p m meth c cX3_hasPlace 2 s _ wz_X3_hasPlace RX3 (some .boolean) G := X
  have hl : lv_has ls 2 [(0, .ref (G.1 1)), (1, .int p1)] := hl
  unfold wp_X3_hasPlace at hw
  have hx := X.1.1
  have hb := X.1.2.1
  refine lv_iload_n hx hb dX3_hasPlace_0 rfl (lv_at hl 1 rfl) ?_
  refine lv_if_lt (tgt := 16) hx hb dX3_hasPlace_1 (by decide) (fun c1 => ?_) (fun c1 => ?_)
  · replace hw := hw.1 c1
    refine lv_iconst (v := (0 : Int32)) hx hb dX3_hasPlace_16 (by decide) ?_
    exact k_zret X hk hw dX3_hasPlace_17
  · replace hw := hw.2 c1
    refine lv_iload_n hx hb dX3_hasPlace_4 rfl (lv_at hl 1 rfl) ?_
    refine lv_aload_n hx hb dX3_hasPlace_5 rfl (lv_at hl 0 rfl) ?_
    refine k_get 0 X hk (wg_1 G _) rfl (hz_wsX30 _) (Nat.le_of_ble_eq_true rfl) (List.mem_cons_of_mem _ (aw_r12 _ (List.mem_of_getElem? (i := 14) rfl))) rfl dX3_hasPlace_6 ?_
    refine lv_icmp_ge (tgt := 16) hx hb dX3_hasPlace_9 (by decide) (fun c2 => ?_) (fun c2 => ?_)
    · replace hw := hw.1 c2
      refine lv_iconst (v := (0 : Int32)) hx hb dX3_hasPlace_16 (by decide) ?_
      exact k_zret X hk hw dX3_hasPlace_17
    · replace hw := hw.2 c2
      refine lv_iconst (v := (1 : Int32)) hx hb dX3_hasPlace_12 (by decide) ?_
      refine lv_goto (tgt := 17) hx hb dX3_hasPlace_13 (by decide) ?_
      exact k_zret X hk hw dX3_hasPlace_17
def rm_X3_hasRoad : Room := { frames := 0, cells := 0, slots := 0, locals := 0 }
abbrev wz_X3_hasRoad : List Cond := Cond.code yX3_hasRoad cX3_hasRoad 2 (some .boolean) :: wsA
theorem hd_X3_hasRoad : yX3_hasRoad.cls = RX3 ∧ yX3_hasRoad.cls ≠ "java/lang/invoke/MethodHandle" ∧ yX3_hasRoad.cls ≠ "java/lang/invoke/VarHandle" ∧ (parseMethodDescriptor yX3_hasRoad.desc).map (fun d => d.parameters.length) = some 1 := by decide +kernel
def wp_X3_hasRoad (σ : Sg) (p1 : Int32) (Q : Int32 → Sg → Prop) : Prop := (p1 < 0 → (bz (0 : Int32) ∧ Q (0 : Int32) σ)) ∧ (¬ (p1 < 0) → (((σ 1 1) ≤ p1 → (bz (0 : Int32) ∧ Q (0 : Int32) σ)) ∧ (¬ ((σ 1 1) ≤ p1) → (bz (1 : Int32) ∧ Q (1 : Int32) σ))))
set_option maxHeartbeats 4000000 in
set_option maxRecDepth 100000 in
theorem c_X3_hasRoad (l : Launch) (G : Gw) (σ : Sg) (p1 : Int32) (Q : Int32 → Sg → Prop) (hw : wp_X3_hasRoad σ p1 Q) : MetI l yX3_hasRoad wz_X3_hasRoad rm_X3_hasRoad G σ [.ref (G.1 1), .int p1] Q := by
  refine MetI.of cX3_hasRoad 2 (some .boolean) (by decide) rfl (Nat.le_of_ble_eq_true rfl) ?_
  intro p e s m below meth c X hk ls hl
  have X : KC p m meth c cX3_hasRoad 2 s _ wz_X3_hasRoad RX3 (some .boolean) G := X
  have hl : lv_has ls 2 [(0, .ref (G.1 1)), (1, .int p1)] := hl
  unfold wp_X3_hasRoad at hw
  have hx := X.1.1
  have hb := X.1.2.1
  refine lv_iload_n hx hb dX3_hasRoad_0 rfl (lv_at hl 1 rfl) ?_
  refine lv_if_lt (tgt := 16) hx hb dX3_hasRoad_1 (by decide) (fun c1 => ?_) (fun c1 => ?_)
  · replace hw := hw.1 c1
    refine lv_iconst (v := (0 : Int32)) hx hb dX3_hasRoad_16 (by decide) ?_
    exact k_zret X hk hw dX3_hasRoad_17
  · replace hw := hw.2 c1
    refine lv_iload_n hx hb dX3_hasRoad_4 rfl (lv_at hl 1 rfl) ?_
    refine lv_aload_n hx hb dX3_hasRoad_5 rfl (lv_at hl 0 rfl) ?_
    refine k_get 1 X hk (wg_1 G _) rfl (hz_wsX30 _) (Nat.le_of_ble_eq_true rfl) (List.mem_cons_of_mem _ (aw_r12 _ (List.mem_of_getElem? (i := 19) rfl))) rfl dX3_hasRoad_6 ?_
    refine lv_icmp_ge (tgt := 16) hx hb dX3_hasRoad_9 (by decide) (fun c2 => ?_) (fun c2 => ?_)
    · replace hw := hw.1 c2
      refine lv_iconst (v := (0 : Int32)) hx hb dX3_hasRoad_16 (by decide) ?_
      exact k_zret X hk hw dX3_hasRoad_17
    · replace hw := hw.2 c2
      refine lv_iconst (v := (1 : Int32)) hx hb dX3_hasRoad_12 (by decide) ?_
      refine lv_goto (tgt := 17) hx hb dX3_hasRoad_13 (by decide) ?_
      exact k_zret X hk hw dX3_hasRoad_17
def rm_X3_hasFact : Room := { frames := 0, cells := 0, slots := 0, locals := 0 }
abbrev wz_X3_hasFact : List Cond := Cond.code yX3_hasFact cX3_hasFact 2 (some .boolean) :: wsA
theorem hd_X3_hasFact : yX3_hasFact.cls = RX3 ∧ yX3_hasFact.cls ≠ "java/lang/invoke/MethodHandle" ∧ yX3_hasFact.cls ≠ "java/lang/invoke/VarHandle" ∧ (parseMethodDescriptor yX3_hasFact.desc).map (fun d => d.parameters.length) = some 1 := by decide +kernel
def wp_X3_hasFact (σ : Sg) (p1 : Int32) (Q : Int32 → Sg → Prop) : Prop := (p1 < 0 → (bz (0 : Int32) ∧ Q (0 : Int32) σ)) ∧ (¬ (p1 < 0) → (((4 : Int32) ≤ p1 → (bz (0 : Int32) ∧ Q (0 : Int32) σ)) ∧ (¬ ((4 : Int32) ≤ p1) → (bz (1 : Int32) ∧ Q (1 : Int32) σ))))
set_option maxHeartbeats 4000000 in
set_option maxRecDepth 100000 in
theorem c_X3_hasFact (l : Launch) (G : Gw) (σ : Sg) (p1 : Int32) (Q : Int32 → Sg → Prop) (hw : wp_X3_hasFact σ p1 Q) : MetI l yX3_hasFact wz_X3_hasFact rm_X3_hasFact G σ [.ref (G.1 1), .int p1] Q := by
  refine MetI.of cX3_hasFact 2 (some .boolean) (by decide) rfl (Nat.le_of_ble_eq_true rfl) ?_
  intro p e s m below meth c X hk ls hl
  have X : KC p m meth c cX3_hasFact 2 s _ wz_X3_hasFact RX3 (some .boolean) G := X
  have hl : lv_has ls 2 [(0, .ref (G.1 1)), (1, .int p1)] := hl
  unfold wp_X3_hasFact at hw
  have hx := X.1.1
  have hb := X.1.2.1
  refine lv_iload_n hx hb dX3_hasFact_0 rfl (lv_at hl 1 rfl) ?_
  refine lv_if_lt (tgt := 13) hx hb dX3_hasFact_1 (by decide) (fun c1 => ?_) (fun c1 => ?_)
  · replace hw := hw.1 c1
    refine lv_iconst (v := (0 : Int32)) hx hb dX3_hasFact_13 (by decide) ?_
    exact k_zret X hk hw dX3_hasFact_14
  · replace hw := hw.2 c1
    refine lv_iload_n hx hb dX3_hasFact_4 rfl (lv_at hl 1 rfl) ?_
    refine lv_iconst (v := (4 : Int32)) hx hb dX3_hasFact_5 (by decide) ?_
    refine lv_icmp_ge (tgt := 13) hx hb dX3_hasFact_6 (by decide) (fun c2 => ?_) (fun c2 => ?_)
    · replace hw := hw.1 c2
      refine lv_iconst (v := (0 : Int32)) hx hb dX3_hasFact_13 (by decide) ?_
      exact k_zret X hk hw dX3_hasFact_14
    · replace hw := hw.2 c2
      refine lv_iconst (v := (1 : Int32)) hx hb dX3_hasFact_9 (by decide) ?_
      refine lv_goto (tgt := 14) hx hb dX3_hasFact_10 (by decide) ?_
      exact k_zret X hk hw dX3_hasFact_14
def rm_X3_fact : Room := { frames := 0, cells := 0, slots := 0, locals := 0 }
abbrev wz_X3_fact : List Cond := Cond.code yX3_fact cX3_fact 3 (some .int) :: wsA
theorem hd_X3_fact : yX3_fact.cls = RX3 ∧ yX3_fact.cls ≠ "java/lang/invoke/MethodHandle" ∧ yX3_fact.cls ≠ "java/lang/invoke/VarHandle" ∧ (parseMethodDescriptor yX3_fact.desc).map (fun d => d.parameters.length) = some 2 := by decide +kernel
def wp_X3_fact (σ : Sg) (p1 p2 : Int32) (Q : Int32 → Sg → Prop) : Prop := vp_in ((p1 * (4 : Int32)) + p2) 32 ∧ (Q (σ 9 (((p1 * (4 : Int32)) + p2)).toNatClampNeg) σ)
set_option maxHeartbeats 4000000 in
set_option maxRecDepth 100000 in
theorem c_X3_fact (l : Launch) (G : Gw) (σ : Sg) (p1 p2 : Int32) (Q : Int32 → Sg → Prop) (hw : wp_X3_fact σ p1 p2 Q) : MetI l yX3_fact wz_X3_fact rm_X3_fact G σ [.ref (G.1 1), .int p1, .int p2] Q := by
  refine MetI.of cX3_fact 3 (some .int) (by decide) rfl (Nat.le_of_ble_eq_true rfl) ?_
  intro p e s m below meth c X hk ls hl
  have X : KC p m meth c cX3_fact 3 s _ wz_X3_fact RX3 (some .int) G := X
  have hl : lv_has ls 3 [(0, .ref (G.1 1)), (1, .int p1), (2, .int p2)] := hl
  unfold wp_X3_fact at hw
  have hx := X.1.1
  have hb := X.1.2.1
  refine lv_aload_n hx hb dX3_fact_0 rfl (lv_at hl 0 rfl) ?_
  refine k_get 5 X hk (wg_1 G _) rfl (hz_wsX30 _) (Nat.le_of_ble_eq_true rfl) (List.mem_cons_of_mem _ (aw_r2 _ (List.mem_of_getElem? (i := 16) rfl))) rfl dX3_fact_1 ?_
  refine lv_iload_n hx hb dX3_fact_4 rfl (lv_at hl 1 rfl) ?_
  refine lv_iconst (v := (4 : Int32)) hx hb dX3_fact_5 (by decide) ?_
  refine lv_imul hx hb dX3_fact_6 ?_
  refine lv_iload_n hx hb dX3_fact_7 rfl (lv_at hl 2 rfl) ?_
  refine lv_iadd hx hb dX3_fact_8 ?_
  refine k_iald X hk (wg_9 G _) hw.1 dX3_fact_9 ?_
  replace hw := hw.2
  exact k_iret X hk hw dX3_fact_10
def rm_X3_change : Room := { frames := 0, cells := 0, slots := 0, locals := 0 }
abbrev wz_X3_change : List Cond := Cond.code yX3_change cX3_change 4 none :: wsA
theorem hd_X3_change : yX3_change.cls = RX3 ∧ yX3_change.cls ≠ "java/lang/invoke/MethodHandle" ∧ yX3_change.cls ≠ "java/lang/invoke/VarHandle" ∧ (parseMethodDescriptor yX3_change.desc).map (fun d => d.parameters.length) = some 3 := by decide +kernel
def wp_X3_change (σ : Sg) (p1 p2 p3 : Int32) (Q : Sg → Prop) : Prop := vp_in ((p1 * (4 : Int32)) + p2) 32 ∧ (∀ σ1 : Sg, σ1 = (put σ 9 (((p1 * (4 : Int32)) + p2)).toNatClampNeg p3) → (Q σ1))
set_option maxHeartbeats 4000000 in
set_option maxRecDepth 100000 in
theorem c_X3_change (l : Launch) (G : Gw) (σ : Sg) (p1 p2 p3 : Int32) (Q : Sg → Prop) (hw : wp_X3_change σ p1 p2 p3 Q) : MetV l yX3_change wz_X3_change rm_X3_change G σ [.ref (G.1 1), .int p1, .int p2, .int p3] Q := by
  refine MetV.of cX3_change 4 none (by decide) rfl (Nat.le_of_ble_eq_true rfl) ?_
  intro p e s m below meth c X hk ls hl
  have X : KC p m meth c cX3_change 4 s _ wz_X3_change RX3 none G := X
  have hl : lv_has ls 4 [(0, .ref (G.1 1)), (1, .int p1), (2, .int p2), (3, .int p3)] := hl
  unfold wp_X3_change at hw
  have hx := X.1.1
  have hb := X.1.2.1
  refine lv_aload_n hx hb dX3_change_0 rfl (lv_at hl 0 rfl) ?_
  refine k_get 5 X hk (wg_1 G _) rfl (hz_wsX30 _) (Nat.le_of_ble_eq_true rfl) (List.mem_cons_of_mem _ (aw_r2 _ (List.mem_of_getElem? (i := 16) rfl))) rfl dX3_change_1 ?_
  refine lv_iload_n hx hb dX3_change_4 rfl (lv_at hl 1 rfl) ?_
  refine lv_iconst (v := (4 : Int32)) hx hb dX3_change_5 (by decide) ?_
  refine lv_imul hx hb dX3_change_6 ?_
  refine lv_iload_n hx hb dX3_change_7 rfl (lv_at hl 2 rfl) ?_
  refine lv_iadd hx hb dX3_change_8 ?_
  refine lv_iload_n hx hb dX3_change_9 rfl (lv_at hl 3 rfl) ?_
  refine k_iast X hk (wg_9 G _) (ws_9 G _) rfl hw.1 dX3_change_10 (fun H locs hk => ?_)
  replace hw := hw.2
  obtain ⟨σ1, eσ1⟩ : ∃ y : Sg, y = (put σ 9 (((p1 * (4 : Int32)) + p2)).toNatClampNeg p3) := ⟨_, rfl⟩
  rw [← eσ1] at hk
  replace hw := hw σ1 eσ1
  exact k_vret X hk hw dX3_change_11
def rm_X3_total : Room := { frames := 1, cells := 0, slots := 0, locals := 22 }
abbrev wz_X3_total : List Cond := Cond.code yX3_total cX3_total 4 (some .int) :: wsA
theorem hd_X3_total : yX3_total.cls = RX3 ∧ yX3_total.cls ≠ "java/lang/invoke/MethodHandle" ∧ yX3_total.cls ≠ "java/lang/invoke/VarHandle" ∧ (parseMethodDescriptor yX3_total.desc).map (fun d => d.parameters.length) = some 1 := by decide +kernel
def wp_X3_total_4 (Q : Int32 → Sg → Prop)  : Nat → Int32 → Int32 → Int32 → Sg → Prop
  | 0, _, _, _, _ => False
  | n + 1, x1, x2, x3, σ => ((σ 1 0) ≤ x3 → (Q x2 σ)) ∧ (¬ ((σ 1 0) ≤ x3) → (wp_X3_fact σ x3 x1 (fun r3 σ2 => ∀ x2_4 : Int32, x2_4 = (x2 + r3) → (∀ x3_5 : Int32, x3_5 = (x3 + (1 : Int32)) → (wp_X3_total_4 Q  n x1 x2_4 x3_5 σ2)))))
set_option maxHeartbeats 4000000 in
set_option maxRecDepth 100000 in
theorem t_X3_total_4 {p : Program} {l : Launch} {e : Env} {s : State} {m : MethodId} {args : Array Value} {below : List Frame} {meth : Method} {c : Code} {G : Gw} (X : KC p m meth c cX3_total 4 s args wz_X3_total RX3 (some .int) G) (Q : Int32 → Sg → Prop)  : ∀ (n : Nat) (σ : Sg) (x1 x2 x3 : Int32) (H : Heap) (locs : List Loc) (ls : Array Slot), wp_X3_total_4 Q  n x1 x2 x3 σ → WK G s H locs σ → lv_has ls 4 [(0, .ref (G.1 1)), (1, .int x1), (2, .int x2), (3, .int x3)] → W p l e rm_X3_total s m args below meth c H locs 0 0 (ZI below args s G Q) (F0 m 4 ls []) := by
  have hx := X.1.1
  have hb := X.1.2.1
  intro n
  induction n with
  | zero =>
    intro σ x1 x2 x3 H locs ls hw hk hl
    exact False.elim hw
  | succ n ih =>
    intro σ x1 x2 x3 H locs ls hw hk hl
    rw [wp_X3_total_4] at hw
    refine lv_iload_n hx hb dX3_total_4 rfl (lv_at hl 3 rfl) ?_
    refine lv_aload_n hx hb dX3_total_5 rfl (lv_at hl 0 rfl) ?_
    refine k_get 0 X hk (wg_1 G _) rfl (hz_wsX30 _) (Nat.le_of_ble_eq_true rfl) (List.mem_cons_of_mem _ (aw_r12 _ (List.mem_of_getElem? (i := 14) rfl))) rfl dX3_total_6 ?_
    refine lv_icmp_ge (tgt := 27) hx hb dX3_total_9 (by decide) (fun c1 => ?_) (fun c1 => ?_)
    · replace hw := hw.1 c1
      refine lv_iload_n hx hb dX3_total_27 rfl (lv_at hl 2 rfl) ?_
      exact k_iret X hk hw dX3_total_28
    · replace hw := hw.2 c1
      refine lv_iload_n hx hb dX3_total_12 rfl (lv_at hl 2 rfl) ?_
      refine lv_aload_n hx hb dX3_total_13 rfl (lv_at hl 0 rfl) ?_
      refine lv_iload_n hx hb dX3_total_14 rfl (lv_at hl 3 rfl) ?_
      refine lv_iload_n hx hb dX3_total_15 rfl (lv_at hl 1 rfl) ?_
      refine k_callVi (rest := [.int x2]) X hk (c_X3_fact l G _ _ _ _ hw) (cwV 2 X.1.2.2.2.2 (gzV (aw_r23 _ (List.mem_of_getElem? (i := 19) rfl)) (aw_r20 _ (List.mem_of_getElem? (i := 20) rfl)) (aw_r20 _ (List.mem_of_getElem? (i := 21) rfl)) (aw_r1 _ (List.mem_of_getElem? (i := 15) rfl)) (aw_r20 _ (List.mem_of_getElem? (i := 22) rfl))) rfl rfl rfl hd_X3_fact ⟨(Nat.le_of_ble_eq_true rfl), (Nat.le_of_ble_eq_true rfl)⟩) (wg_1 G _) rfl rfl hl.1 rfl (Nat.le_of_ble_eq_true rfl) dX3_total_16 ⟨Nat.zero_le _, Nat.zero_le _⟩ (fun r3 σ2 H locs hw hk => ?_)
      refine lv_iadd hx hb dX3_total_19 ?_
      refine lv_topi (fun x2_4 ex2_4 => ?_)
      replace hw := hw x2_4 ex2_4
      refine lv_istore_n (lv' := [(2, .int x2_4), (0, .ref (G.1 1)), (1, .int x1), (3, .int x3)]) hx hb dX3_total_20 rfl hl (Nat.le_of_ble_eq_true rfl) rfl (fun ls hl => ?_)
      obtain ⟨x3_5, ex3_5⟩ : ∃ y : Int32, y = (x3 + (1 : Int32)) := ⟨_, rfl⟩
      replace hw := hw x3_5 ex3_5
      refine lv_iinc (v := x3_5) (lv' := [(3, .int x3_5), (2, .int x2_4), (0, .ref (G.1 1)), (1, .int x1)]) hx hb dX3_total_21 hl (k := 3) rfl (by rw [ex3_5]; rfl) (Nat.le_of_ble_eq_true rfl) rfl (fun ls hl => ?_)
      refine lv_goto (tgt := 4) hx hb dX3_total_24 (by decide) ?_
      exact ih _ _ _ _ _ _ _ hw hk (lv_sub hl [2, 3, 1, 0] rfl)
def wp_X3_total (σ : Sg) (p1 : Int32) (Q : Int32 → Sg → Prop) : Prop := ∃ n0, wp_X3_total_4 Q  n0 p1 (0 : Int32) (0 : Int32) σ
set_option maxHeartbeats 4000000 in
set_option maxRecDepth 100000 in
theorem c_X3_total (l : Launch) (G : Gw) (σ : Sg) (p1 : Int32) (Q : Int32 → Sg → Prop) (hw : wp_X3_total σ p1 Q) : MetI l yX3_total wz_X3_total rm_X3_total G σ [.ref (G.1 1), .int p1] Q := by
  refine MetI.of cX3_total 4 (some .int) (by decide) rfl (Nat.le_of_ble_eq_true rfl) ?_
  intro p e s m below meth c X hk ls hl
  have X : KC p m meth c cX3_total 4 s _ wz_X3_total RX3 (some .int) G := X
  have hl : lv_has ls 4 [(0, .ref (G.1 1)), (1, .int p1)] := hl
  unfold wp_X3_total at hw
  have hx := X.1.1
  have hb := X.1.2.1
  refine lv_iconst (v := (0 : Int32)) hx hb dX3_total_0 (by decide) ?_
  refine lv_istore_n (lv' := [(2, .int (0 : Int32)), (0, .ref (G.1 1)), (1, .int p1)]) hx hb dX3_total_1 rfl hl (Nat.le_of_ble_eq_true rfl) rfl (fun ls hl => ?_)
  refine lv_iconst (v := (0 : Int32)) hx hb dX3_total_2 (by decide) ?_
  refine lv_istore_n (lv' := [(3, .int (0 : Int32)), (2, .int (0 : Int32)), (0, .ref (G.1 1)), (1, .int p1)]) hx hb dX3_total_3 rfl hl (Nat.le_of_ble_eq_true rfl) rfl (fun ls hl => ?_)
  obtain ⟨n0, hw⟩ := hw
  exact t_X3_total_4 X Q   n0 _ _ _ _ _ _ _ hw hk (lv_sub hl [2, 3, 1, 0] rfl)
def rm_X3_factFits : Room := { frames := 0, cells := 0, slots := 0, locals := 0 }
abbrev wz_X3_factFits : List Cond := Cond.code yX3_factFits cX3_factFits 3 (some .boolean) :: wsA
theorem hd_X3_factFits : yX3_factFits.cls = RX3 ∧ yX3_factFits.cls ≠ "java/lang/invoke/MethodHandle" ∧ yX3_factFits.cls ≠ "java/lang/invoke/VarHandle" ∧ (parseMethodDescriptor yX3_factFits.desc).map (fun d => d.parameters.length) = some 2 := by decide +kernel
def wp_X3_factFits (σ : Sg) (p1 p2 : Int32) (Q : Int32 → Sg → Prop) : Prop := (p1 = (0 : Int32) → ((p2 < 0 → (bz (0 : Int32) ∧ Q (0 : Int32) σ)) ∧ (¬ (p2 < 0) → (((60 : Int32) < p2 → (bz (0 : Int32) ∧ Q (0 : Int32) σ)) ∧ (¬ ((60 : Int32) < p2) → (bz (1 : Int32) ∧ Q (1 : Int32) σ)))))) ∧ (p1 = (1 : Int32) → ((p2 < 0 → (bz (0 : Int32) ∧ Q (0 : Int32) σ)) ∧ (¬ (p2 < 0) → (((300 : Int32) < p2 → (bz (0 : Int32) ∧ Q (0 : Int32) σ)) ∧ (¬ ((300 : Int32) < p2) → (bz (1 : Int32) ∧ Q (1 : Int32) σ)))))) ∧ (p1 = (2 : Int32) → ((p2 < 0 → (bz (0 : Int32) ∧ Q (0 : Int32) σ)) ∧ (¬ (p2 < 0) → (((20 : Int32) < p2 → (bz (0 : Int32) ∧ Q (0 : Int32) σ)) ∧ (¬ ((20 : Int32) < p2) → (bz (1 : Int32) ∧ Q (1 : Int32) σ)))))) ∧ (p1 = (3 : Int32) → ((p2 < 0 → (bz (0 : Int32) ∧ Q (0 : Int32) σ)) ∧ (¬ (p2 < 0) → (((300 : Int32) < p2 → (bz (0 : Int32) ∧ Q (0 : Int32) σ)) ∧ (¬ ((300 : Int32) < p2) → (bz (1 : Int32) ∧ Q (1 : Int32) σ)))))) ∧ (¬ p1 = (0 : Int32) → ¬ p1 = (1 : Int32) → ¬ p1 = (2 : Int32) → ¬ p1 = (3 : Int32) → (bz (0 : Int32) ∧ Q (0 : Int32) σ))
set_option maxHeartbeats 4000000 in
set_option maxRecDepth 100000 in
theorem c_X3_factFits (l : Launch) (G : Gw) (σ : Sg) (p1 p2 : Int32) (Q : Int32 → Sg → Prop) (hw : wp_X3_factFits σ p1 p2 Q) : MetI l yX3_factFits wz_X3_factFits rm_X3_factFits G σ [.ref (G.1 1), .int p1, .int p2] Q := by
  refine MetI.of cX3_factFits 3 (some .boolean) (by decide) rfl (Nat.le_of_ble_eq_true rfl) ?_
  intro p e s m below meth c X hk ls hl
  have X : KC p m meth c cX3_factFits 3 s _ wz_X3_factFits RX3 (some .boolean) G := X
  have hl : lv_has ls 3 [(0, .ref (G.1 1)), (1, .int p1), (2, .int p2)] := hl
  unfold wp_X3_factFits at hw
  have hx := X.1.1
  have hb := X.1.2.1
  refine lv_iload_n hx hb dX3_factFits_0 rfl (lv_at hl 1 rfl) ?_
  by_cases c1 : p1 = (0 : Int32)
  · have ec1 : (p1).toInt = 0 := by rw [c1]; rfl
    refine lv_tableIn (tgt := 32) hx hb dX3_factFits_1 (by rw [ec1]; decide) (by rw [ec1]; decide) (by rw [ec1]; rfl) (by decide) ?_
    replace hw := hw.1 c1
    refine lv_iload_n hx hb dX3_factFits_32 rfl (lv_at hl 2 rfl) ?_
    refine lv_if_lt (tgt := 46) hx hb dX3_factFits_33 (by decide) (fun c2 => ?_) (fun c2 => ?_)
    · replace hw := hw.1 c2
      refine lv_iconst (v := (0 : Int32)) hx hb dX3_factFits_46 (by decide) ?_
      exact k_zret X hk hw dX3_factFits_47
    · replace hw := hw.2 c2
      refine lv_iload_n hx hb dX3_factFits_36 rfl (lv_at hl 2 rfl) ?_
      refine lv_bipush (v := (60 : Int32)) hx hb dX3_factFits_37 (by decide) ?_
      refine lv_icmp_gt (tgt := 46) hx hb dX3_factFits_39 (by decide) (fun c3 => ?_) (fun c3 => ?_)
      · replace hw := hw.1 c3
        refine lv_iconst (v := (0 : Int32)) hx hb dX3_factFits_46 (by decide) ?_
        exact k_zret X hk hw dX3_factFits_47
      · replace hw := hw.2 c3
        refine lv_iconst (v := (1 : Int32)) hx hb dX3_factFits_42 (by decide) ?_
        refine lv_goto (tgt := 47) hx hb dX3_factFits_43 (by decide) ?_
        exact k_zret X hk hw dX3_factFits_47
  replace hw := hw.2
  by_cases c4 : p1 = (1 : Int32)
  · have ec4 : (p1).toInt = 1 := by rw [c4]; rfl
    refine lv_tableIn (tgt := 48) hx hb dX3_factFits_1 (by rw [ec4]; decide) (by rw [ec4]; decide) (by rw [ec4]; rfl) (by decide) ?_
    replace hw := hw.1 c4
    refine lv_iload_n hx hb dX3_factFits_48 rfl (lv_at hl 2 rfl) ?_
    refine lv_if_lt (tgt := 63) hx hb dX3_factFits_49 (by decide) (fun c5 => ?_) (fun c5 => ?_)
    · replace hw := hw.1 c5
      refine lv_iconst (v := (0 : Int32)) hx hb dX3_factFits_63 (by decide) ?_
      exact k_zret X hk hw dX3_factFits_64
    · replace hw := hw.2 c5
      refine lv_iload_n hx hb dX3_factFits_52 rfl (lv_at hl 2 rfl) ?_
      refine lv_sipush (v := (300 : Int32)) hx hb dX3_factFits_53 (by decide) ?_
      refine lv_icmp_gt (tgt := 63) hx hb dX3_factFits_56 (by decide) (fun c6 => ?_) (fun c6 => ?_)
      · replace hw := hw.1 c6
        refine lv_iconst (v := (0 : Int32)) hx hb dX3_factFits_63 (by decide) ?_
        exact k_zret X hk hw dX3_factFits_64
      · replace hw := hw.2 c6
        refine lv_iconst (v := (1 : Int32)) hx hb dX3_factFits_59 (by decide) ?_
        refine lv_goto (tgt := 64) hx hb dX3_factFits_60 (by decide) ?_
        exact k_zret X hk hw dX3_factFits_64
  replace hw := hw.2
  by_cases c7 : p1 = (2 : Int32)
  · have ec7 : (p1).toInt = 2 := by rw [c7]; rfl
    refine lv_tableIn (tgt := 65) hx hb dX3_factFits_1 (by rw [ec7]; decide) (by rw [ec7]; decide) (by rw [ec7]; rfl) (by decide) ?_
    replace hw := hw.1 c7
    refine lv_iload_n hx hb dX3_factFits_65 rfl (lv_at hl 2 rfl) ?_
    refine lv_if_lt (tgt := 79) hx hb dX3_factFits_66 (by decide) (fun c8 => ?_) (fun c8 => ?_)
    · replace hw := hw.1 c8
      refine lv_iconst (v := (0 : Int32)) hx hb dX3_factFits_79 (by decide) ?_
      exact k_zret X hk hw dX3_factFits_80
    · replace hw := hw.2 c8
      refine lv_iload_n hx hb dX3_factFits_69 rfl (lv_at hl 2 rfl) ?_
      refine lv_bipush (v := (20 : Int32)) hx hb dX3_factFits_70 (by decide) ?_
      refine lv_icmp_gt (tgt := 79) hx hb dX3_factFits_72 (by decide) (fun c9 => ?_) (fun c9 => ?_)
      · replace hw := hw.1 c9
        refine lv_iconst (v := (0 : Int32)) hx hb dX3_factFits_79 (by decide) ?_
        exact k_zret X hk hw dX3_factFits_80
      · replace hw := hw.2 c9
        refine lv_iconst (v := (1 : Int32)) hx hb dX3_factFits_75 (by decide) ?_
        refine lv_goto (tgt := 80) hx hb dX3_factFits_76 (by decide) ?_
        exact k_zret X hk hw dX3_factFits_80
  replace hw := hw.2
  by_cases c10 : p1 = (3 : Int32)
  · have ec10 : (p1).toInt = 3 := by rw [c10]; rfl
    refine lv_tableIn (tgt := 81) hx hb dX3_factFits_1 (by rw [ec10]; decide) (by rw [ec10]; decide) (by rw [ec10]; rfl) (by decide) ?_
    replace hw := hw.1 c10
    refine lv_iload_n hx hb dX3_factFits_81 rfl (lv_at hl 2 rfl) ?_
    refine lv_if_lt (tgt := 96) hx hb dX3_factFits_82 (by decide) (fun c11 => ?_) (fun c11 => ?_)
    · replace hw := hw.1 c11
      refine lv_iconst (v := (0 : Int32)) hx hb dX3_factFits_96 (by decide) ?_
      exact k_zret X hk hw dX3_factFits_97
    · replace hw := hw.2 c11
      refine lv_iload_n hx hb dX3_factFits_85 rfl (lv_at hl 2 rfl) ?_
      refine lv_sipush (v := (300 : Int32)) hx hb dX3_factFits_86 (by decide) ?_
      refine lv_icmp_gt (tgt := 96) hx hb dX3_factFits_89 (by decide) (fun c12 => ?_) (fun c12 => ?_)
      · replace hw := hw.1 c12
        refine lv_iconst (v := (0 : Int32)) hx hb dX3_factFits_96 (by decide) ?_
        exact k_zret X hk hw dX3_factFits_97
      · replace hw := hw.2 c12
        refine lv_iconst (v := (1 : Int32)) hx hb dX3_factFits_92 (by decide) ?_
        refine lv_goto (tgt := 97) hx hb dX3_factFits_93 (by decide) ?_
        exact k_zret X hk hw dX3_factFits_97
  replace hw := hw.2
  have ec1 := lv_neT (a := 0) c1 rfl
  have ec4 := lv_neT (a := 1) c4 rfl
  have ec7 := lv_neT (a := 2) c7 rfl
  have ec10 := lv_neT (a := 3) c10 rfl
  refine lv_tableOut (tgt := 98) hx hb dX3_factFits_1 (by omega) (by decide) ?_
  replace hw := hw c1 c4 c7 c10
  refine lv_iconst (v := (0 : Int32)) hx hb dX3_factFits_98 (by decide) ?_
  exact k_zret X hk hw dX3_factFits_99
def rm_X3_roadFits : Room := { frames := 1, cells := 0, slots := 0, locals := 21 }
abbrev wz_X3_roadFits : List Cond := Cond.code yX3_roadFits cX3_roadFits 4 (some .boolean) :: wsA
theorem hd_X3_roadFits : yX3_roadFits.cls = RX3 ∧ yX3_roadFits.cls ≠ "java/lang/invoke/MethodHandle" ∧ yX3_roadFits.cls ≠ "java/lang/invoke/VarHandle" ∧ (parseMethodDescriptor yX3_roadFits.desc).map (fun d => d.parameters.length) = some 3 := by decide +kernel
def wp_X3_roadFits (σ : Sg) (p1 p2 p3 : Int32) (Q : Int32 → Sg → Prop) : Prop := (p1 = (0 : Int32) → (wp_X3_hasPlace σ p2 (fun r3 σ2 => bz r3 ∧ Q r3 σ2))) ∧ (p1 = (1 : Int32) → (wp_X3_hasPlace σ p2 (fun r6 σ5 => (r6 = 0 → (bz (0 : Int32) ∧ Q (0 : Int32) σ5)) ∧ (¬ (r6 = 0) → ((p2 = p3 → (bz (0 : Int32) ∧ Q (0 : Int32) σ5)) ∧ (¬ (p2 = p3) → (bz (1 : Int32) ∧ Q (1 : Int32) σ5))))))) ∧ (p1 = (2 : Int32) → ((p2 < (1 : Int32) → (bz (0 : Int32) ∧ Q (0 : Int32) σ)) ∧ (¬ (p2 < (1 : Int32)) → (((9 : Int32) < p2 → (bz (0 : Int32) ∧ Q (0 : Int32) σ)) ∧ (¬ ((9 : Int32) < p2) → (bz (1 : Int32) ∧ Q (1 : Int32) σ)))))) ∧ (p1 = (3 : Int32) → ((p2 < 0 → (bz (0 : Int32) ∧ Q (0 : Int32) σ)) ∧ (¬ (p2 < 0) → (((9 : Int32) < p2 → (bz (0 : Int32) ∧ Q (0 : Int32) σ)) ∧ (¬ ((9 : Int32) < p2) → (bz (1 : Int32) ∧ Q (1 : Int32) σ)))))) ∧ (¬ p1 = (0 : Int32) → ¬ p1 = (1 : Int32) → ¬ p1 = (2 : Int32) → ¬ p1 = (3 : Int32) → ((p2 < 0 → (bz (0 : Int32) ∧ Q (0 : Int32) σ)) ∧ (¬ (p2 < 0) → (((9 : Int32) < p2 → (bz (0 : Int32) ∧ Q (0 : Int32) σ)) ∧ (¬ ((9 : Int32) < p2) → ((0 < p2 → (bz (1 : Int32) ∧ Q (1 : Int32) σ)) ∧ (¬ (0 < p2) → ((p3 ≤ 0 → (bz (0 : Int32) ∧ Q (0 : Int32) σ)) ∧ (¬ (p3 ≤ 0) → (bz (1 : Int32) ∧ Q (1 : Int32) σ))))))))))
set_option maxHeartbeats 4000000 in
set_option maxRecDepth 100000 in
theorem c_X3_roadFits (l : Launch) (G : Gw) (σ : Sg) (p1 p2 p3 : Int32) (Q : Int32 → Sg → Prop) (hw : wp_X3_roadFits σ p1 p2 p3 Q) : MetI l yX3_roadFits wz_X3_roadFits rm_X3_roadFits G σ [.ref (G.1 1), .int p1, .int p2, .int p3] Q := by
  refine MetI.of cX3_roadFits 4 (some .boolean) (by decide) rfl (Nat.le_of_ble_eq_true rfl) ?_
  intro p e s m below meth c X hk ls hl
  have X : KC p m meth c cX3_roadFits 4 s _ wz_X3_roadFits RX3 (some .boolean) G := X
  have hl : lv_has ls 4 [(0, .ref (G.1 1)), (1, .int p1), (2, .int p2), (3, .int p3)] := hl
  unfold wp_X3_roadFits at hw
  have hx := X.1.1
  have hb := X.1.2.1
  refine lv_iload_n hx hb dX3_roadFits_0 rfl (lv_at hl 1 rfl) ?_
  by_cases c1 : p1 = (0 : Int32)
  · have ec1 : (p1).toInt = 0 := by rw [c1]; rfl
    refine lv_tableIn (tgt := 32) hx hb dX3_roadFits_1 (by rw [ec1]; decide) (by rw [ec1]; decide) (by rw [ec1]; rfl) (by decide) ?_
    replace hw := hw.1 c1
    refine lv_aload_n hx hb dX3_roadFits_32 rfl (lv_at hl 0 rfl) ?_
    refine lv_iload_n hx hb dX3_roadFits_33 rfl (lv_at hl 2 rfl) ?_
    refine k_callVi (rest := []) X hk (c_X3_hasPlace l G _ _ _ hw) (cwV 1 X.1.2.2.2.2 (gzV (aw_r12 _ (List.mem_of_getElem? (i := 10) rfl)) (aw_r12 _ (List.mem_of_getElem? (i := 11) rfl)) (aw_r12 _ (List.mem_of_getElem? (i := 12) rfl)) (aw_r1 _ (List.mem_of_getElem? (i := 15) rfl)) (aw_r12 _ (List.mem_of_getElem? (i := 13) rfl))) rfl rfl rfl hd_X3_hasPlace ⟨(Nat.le_of_ble_eq_true rfl), (Nat.le_of_ble_eq_true rfl)⟩) (wg_1 G _) rfl rfl hl.1 rfl (Nat.le_of_ble_eq_true rfl) dX3_roadFits_34 ⟨Nat.zero_le _, Nat.zero_le _⟩ (fun r3 σ2 H locs hw hk => ?_)
    exact k_zret X hk hw dX3_roadFits_37
  replace hw := hw.2
  by_cases c4 : p1 = (1 : Int32)
  · have ec4 : (p1).toInt = 1 := by rw [c4]; rfl
    refine lv_tableIn (tgt := 38) hx hb dX3_roadFits_1 (by rw [ec4]; decide) (by rw [ec4]; decide) (by rw [ec4]; rfl) (by decide) ?_
    replace hw := hw.1 c4
    refine lv_aload_n hx hb dX3_roadFits_38 rfl (lv_at hl 0 rfl) ?_
    refine lv_iload_n hx hb dX3_roadFits_39 rfl (lv_at hl 2 rfl) ?_
    refine k_callVi (rest := []) X hk (c_X3_hasPlace l G _ _ _ hw) (cwV 1 X.1.2.2.2.2 (gzV (aw_r12 _ (List.mem_of_getElem? (i := 10) rfl)) (aw_r12 _ (List.mem_of_getElem? (i := 11) rfl)) (aw_r12 _ (List.mem_of_getElem? (i := 12) rfl)) (aw_r1 _ (List.mem_of_getElem? (i := 15) rfl)) (aw_r12 _ (List.mem_of_getElem? (i := 13) rfl))) rfl rfl rfl hd_X3_hasPlace ⟨(Nat.le_of_ble_eq_true rfl), (Nat.le_of_ble_eq_true rfl)⟩) (wg_1 G _) rfl rfl hl.1 rfl (Nat.le_of_ble_eq_true rfl) dX3_roadFits_40 ⟨Nat.zero_le _, Nat.zero_le _⟩ (fun r6 σ5 H locs hw hk => ?_)
    refine lv_if_eq (tgt := 55) hx hb dX3_roadFits_43 (by decide) (fun c7 => ?_) (fun c7 => ?_)
    · replace hw := hw.1 c7
      refine lv_iconst (v := (0 : Int32)) hx hb dX3_roadFits_55 (by decide) ?_
      exact k_zret X hk hw dX3_roadFits_56
    · replace hw := hw.2 c7
      refine lv_iload_n hx hb dX3_roadFits_46 rfl (lv_at hl 2 rfl) ?_
      refine lv_iload_n hx hb dX3_roadFits_47 rfl (lv_at hl 3 rfl) ?_
      refine lv_icmp_eq (tgt := 55) hx hb dX3_roadFits_48 (by decide) (fun c8 => ?_) (fun c8 => ?_)
      · replace hw := hw.1 c8
        refine lv_iconst (v := (0 : Int32)) hx hb dX3_roadFits_55 (by decide) ?_
        exact k_zret X hk hw dX3_roadFits_56
      · replace hw := hw.2 c8
        refine lv_iconst (v := (1 : Int32)) hx hb dX3_roadFits_51 (by decide) ?_
        refine lv_goto (tgt := 56) hx hb dX3_roadFits_52 (by decide) ?_
        exact k_zret X hk hw dX3_roadFits_56
  replace hw := hw.2
  by_cases c9 : p1 = (2 : Int32)
  · have ec9 : (p1).toInt = 2 := by rw [c9]; rfl
    refine lv_tableIn (tgt := 57) hx hb dX3_roadFits_1 (by rw [ec9]; decide) (by rw [ec9]; decide) (by rw [ec9]; rfl) (by decide) ?_
    replace hw := hw.1 c9
    refine lv_iload_n hx hb dX3_roadFits_57 rfl (lv_at hl 2 rfl) ?_
    refine lv_iconst (v := (1 : Int32)) hx hb dX3_roadFits_58 (by decide) ?_
    refine lv_icmp_lt (tgt := 72) hx hb dX3_roadFits_59 (by decide) (fun c10 => ?_) (fun c10 => ?_)
    · replace hw := hw.1 c10
      refine lv_iconst (v := (0 : Int32)) hx hb dX3_roadFits_72 (by decide) ?_
      exact k_zret X hk hw dX3_roadFits_73
    · replace hw := hw.2 c10
      refine lv_iload_n hx hb dX3_roadFits_62 rfl (lv_at hl 2 rfl) ?_
      refine lv_bipush (v := (9 : Int32)) hx hb dX3_roadFits_63 (by decide) ?_
      refine lv_icmp_gt (tgt := 72) hx hb dX3_roadFits_65 (by decide) (fun c11 => ?_) (fun c11 => ?_)
      · replace hw := hw.1 c11
        refine lv_iconst (v := (0 : Int32)) hx hb dX3_roadFits_72 (by decide) ?_
        exact k_zret X hk hw dX3_roadFits_73
      · replace hw := hw.2 c11
        refine lv_iconst (v := (1 : Int32)) hx hb dX3_roadFits_68 (by decide) ?_
        refine lv_goto (tgt := 73) hx hb dX3_roadFits_69 (by decide) ?_
        exact k_zret X hk hw dX3_roadFits_73
  replace hw := hw.2
  by_cases c12 : p1 = (3 : Int32)
  · have ec12 : (p1).toInt = 3 := by rw [c12]; rfl
    refine lv_tableIn (tgt := 74) hx hb dX3_roadFits_1 (by rw [ec12]; decide) (by rw [ec12]; decide) (by rw [ec12]; rfl) (by decide) ?_
    replace hw := hw.1 c12
    refine lv_iload_n hx hb dX3_roadFits_74 rfl (lv_at hl 2 rfl) ?_
    refine lv_if_lt (tgt := 88) hx hb dX3_roadFits_75 (by decide) (fun c13 => ?_) (fun c13 => ?_)
    · replace hw := hw.1 c13
      refine lv_iconst (v := (0 : Int32)) hx hb dX3_roadFits_88 (by decide) ?_
      exact k_zret X hk hw dX3_roadFits_89
    · replace hw := hw.2 c13
      refine lv_iload_n hx hb dX3_roadFits_78 rfl (lv_at hl 2 rfl) ?_
      refine lv_bipush (v := (9 : Int32)) hx hb dX3_roadFits_79 (by decide) ?_
      refine lv_icmp_gt (tgt := 88) hx hb dX3_roadFits_81 (by decide) (fun c14 => ?_) (fun c14 => ?_)
      · replace hw := hw.1 c14
        refine lv_iconst (v := (0 : Int32)) hx hb dX3_roadFits_88 (by decide) ?_
        exact k_zret X hk hw dX3_roadFits_89
      · replace hw := hw.2 c14
        refine lv_iconst (v := (1 : Int32)) hx hb dX3_roadFits_84 (by decide) ?_
        refine lv_goto (tgt := 89) hx hb dX3_roadFits_85 (by decide) ?_
        exact k_zret X hk hw dX3_roadFits_89
  replace hw := hw.2
  have ec1 := lv_neT (a := 0) c1 rfl
  have ec4 := lv_neT (a := 1) c4 rfl
  have ec9 := lv_neT (a := 2) c9 rfl
  have ec12 := lv_neT (a := 3) c12 rfl
  refine lv_tableOut (tgt := 90) hx hb dX3_roadFits_1 (by omega) (by decide) ?_
  replace hw := hw c1 c4 c9 c12
  refine lv_iload_n hx hb dX3_roadFits_90 rfl (lv_at hl 2 rfl) ?_
  refine lv_if_lt (tgt := 112) hx hb dX3_roadFits_91 (by decide) (fun c15 => ?_) (fun c15 => ?_)
  · replace hw := hw.1 c15
    refine lv_iconst (v := (0 : Int32)) hx hb dX3_roadFits_112 (by decide) ?_
    exact k_zret X hk hw dX3_roadFits_113
  · replace hw := hw.2 c15
    refine lv_iload_n hx hb dX3_roadFits_94 rfl (lv_at hl 2 rfl) ?_
    refine lv_bipush (v := (9 : Int32)) hx hb dX3_roadFits_95 (by decide) ?_
    refine lv_icmp_gt (tgt := 112) hx hb dX3_roadFits_97 (by decide) (fun c16 => ?_) (fun c16 => ?_)
    · replace hw := hw.1 c16
      refine lv_iconst (v := (0 : Int32)) hx hb dX3_roadFits_112 (by decide) ?_
      exact k_zret X hk hw dX3_roadFits_113
    · replace hw := hw.2 c16
      refine lv_iload_n hx hb dX3_roadFits_100 rfl (lv_at hl 2 rfl) ?_
      refine lv_if_gt (tgt := 108) hx hb dX3_roadFits_101 (by decide) (fun c17 => ?_) (fun c17 => ?_)
      · replace hw := hw.1 c17
        refine lv_iconst (v := (1 : Int32)) hx hb dX3_roadFits_108 (by decide) ?_
        refine lv_goto (tgt := 113) hx hb dX3_roadFits_109 (by decide) ?_
        exact k_zret X hk hw dX3_roadFits_113
      · replace hw := hw.2 c17
        refine lv_iload_n hx hb dX3_roadFits_104 rfl (lv_at hl 3 rfl) ?_
        refine lv_if_le (tgt := 112) hx hb dX3_roadFits_105 (by decide) (fun c18 => ?_) (fun c18 => ?_)
        · replace hw := hw.1 c18
          refine lv_iconst (v := (0 : Int32)) hx hb dX3_roadFits_112 (by decide) ?_
          exact k_zret X hk hw dX3_roadFits_113
        · replace hw := hw.2 c18
          refine lv_iconst (v := (1 : Int32)) hx hb dX3_roadFits_108 (by decide) ?_
          refine lv_goto (tgt := 113) hx hb dX3_roadFits_109 (by decide) ?_
          exact k_zret X hk hw dX3_roadFits_113
def rm_X3_turnFits : Room := { frames := 1, cells := 0, slots := 0, locals := 21 }
abbrev wz_X3_turnFits : List Cond := Cond.code yX3_turnFits cX3_turnFits 3 (some .boolean) :: wsA
theorem hd_X3_turnFits : yX3_turnFits.cls = RX3 ∧ yX3_turnFits.cls ≠ "java/lang/invoke/MethodHandle" ∧ yX3_turnFits.cls ≠ "java/lang/invoke/VarHandle" ∧ (parseMethodDescriptor yX3_turnFits.desc).map (fun d => d.parameters.length) = some 2 := by decide +kernel
def wp_X3_turnFits (σ : Sg) (p1 p2 : Int32) (Q : Int32 → Sg → Prop) : Prop := wp_X3_hasRoad σ p1 (fun r2 σ1 => (r2 = 0 → (bz (0 : Int32) ∧ Q (0 : Int32) σ1)) ∧ (¬ (r2 = 0) → ((p2 = 0 → (bz (0 : Int32) ∧ Q (0 : Int32) σ1)) ∧ (¬ (p2 = 0) → (vp_in ((2 : Int32) * p1) 24 ∧ ((p2 < (-(σ1 8 (((2 : Int32) * p1)).toNatClampNeg)) → (bz (0 : Int32) ∧ Q (0 : Int32) σ1)) ∧ (¬ (p2 < (-(σ1 8 (((2 : Int32) * p1)).toNatClampNeg))) → (vp_in (((2 : Int32) * p1) + (1 : Int32)) 24 ∧ (((σ1 8 ((((2 : Int32) * p1) + (1 : Int32))).toNatClampNeg) < p2 → (bz (0 : Int32) ∧ Q (0 : Int32) σ1)) ∧ (¬ ((σ1 8 ((((2 : Int32) * p1) + (1 : Int32))).toNatClampNeg) < p2) → (bz (1 : Int32) ∧ Q (1 : Int32) σ1)))))))))))
set_option maxHeartbeats 4000000 in
set_option maxRecDepth 100000 in
theorem c_X3_turnFits (l : Launch) (G : Gw) (σ : Sg) (p1 p2 : Int32) (Q : Int32 → Sg → Prop) (hw : wp_X3_turnFits σ p1 p2 Q) : MetI l yX3_turnFits wz_X3_turnFits rm_X3_turnFits G σ [.ref (G.1 1), .int p1, .int p2] Q := by
  refine MetI.of cX3_turnFits 3 (some .boolean) (by decide) rfl (Nat.le_of_ble_eq_true rfl) ?_
  intro p e s m below meth c X hk ls hl
  have X : KC p m meth c cX3_turnFits 3 s _ wz_X3_turnFits RX3 (some .boolean) G := X
  have hl : lv_has ls 3 [(0, .ref (G.1 1)), (1, .int p1), (2, .int p2)] := hl
  unfold wp_X3_turnFits at hw
  have hx := X.1.1
  have hb := X.1.2.1
  refine lv_aload_n hx hb dX3_turnFits_0 rfl (lv_at hl 0 rfl) ?_
  refine lv_iload_n hx hb dX3_turnFits_1 rfl (lv_at hl 1 rfl) ?_
  refine k_callVi (rest := []) X hk (c_X3_hasRoad l G _ _ _ hw) (cwV 1 X.1.2.2.2.2 (gzV (aw_r13 _ (List.mem_of_getElem? (i := 0) rfl)) (aw_r12 _ (List.mem_of_getElem? (i := 16) rfl)) (aw_r12 _ (List.mem_of_getElem? (i := 17) rfl)) (aw_r1 _ (List.mem_of_getElem? (i := 15) rfl)) (aw_r12 _ (List.mem_of_getElem? (i := 18) rfl))) rfl rfl rfl hd_X3_hasRoad ⟨(Nat.le_of_ble_eq_true rfl), (Nat.le_of_ble_eq_true rfl)⟩) (wg_1 G _) rfl rfl hl.1 rfl (Nat.le_of_ble_eq_true rfl) dX3_turnFits_2 ⟨Nat.zero_le _, Nat.zero_le _⟩ (fun r2 σ1 H locs hw hk => ?_)
  refine lv_if_eq (tgt := 43) hx hb dX3_turnFits_5 (by decide) (fun c3 => ?_) (fun c3 => ?_)
  · replace hw := hw.1 c3
    refine lv_iconst (v := (0 : Int32)) hx hb dX3_turnFits_43 (by decide) ?_
    exact k_zret X hk hw dX3_turnFits_44
  · replace hw := hw.2 c3
    refine lv_iload_n hx hb dX3_turnFits_8 rfl (lv_at hl 2 rfl) ?_
    refine lv_if_eq (tgt := 43) hx hb dX3_turnFits_9 (by decide) (fun c4 => ?_) (fun c4 => ?_)
    · replace hw := hw.1 c4
      refine lv_iconst (v := (0 : Int32)) hx hb dX3_turnFits_43 (by decide) ?_
      exact k_zret X hk hw dX3_turnFits_44
    · replace hw := hw.2 c4
      refine lv_iload_n hx hb dX3_turnFits_12 rfl (lv_at hl 2 rfl) ?_
      refine lv_aload_n hx hb dX3_turnFits_13 rfl (lv_at hl 0 rfl) ?_
      refine k_get 4 X hk (wg_1 G _) rfl (hz_wsX30 _) (Nat.le_of_ble_eq_true rfl) (List.mem_cons_of_mem _ (aw_r2 _ (List.mem_of_getElem? (i := 15) rfl))) rfl dX3_turnFits_14 ?_
      refine lv_iconst (v := (2 : Int32)) hx hb dX3_turnFits_17 (by decide) ?_
      refine lv_iload_n hx hb dX3_turnFits_18 rfl (lv_at hl 1 rfl) ?_
      refine lv_imul hx hb dX3_turnFits_19 ?_
      refine k_iald X hk (wg_8 G _) hw.1 dX3_turnFits_20 ?_
      replace hw := hw.2
      refine lv_ineg hx hb dX3_turnFits_21 ?_
      refine lv_icmp_lt (tgt := 43) hx hb dX3_turnFits_22 (by decide) (fun c5 => ?_) (fun c5 => ?_)
      · replace hw := hw.1 c5
        refine lv_iconst (v := (0 : Int32)) hx hb dX3_turnFits_43 (by decide) ?_
        exact k_zret X hk hw dX3_turnFits_44
      · replace hw := hw.2 c5
        refine lv_iload_n hx hb dX3_turnFits_25 rfl (lv_at hl 2 rfl) ?_
        refine lv_aload_n hx hb dX3_turnFits_26 rfl (lv_at hl 0 rfl) ?_
        refine k_get 4 X hk (wg_1 G _) rfl (hz_wsX30 _) (Nat.le_of_ble_eq_true rfl) (List.mem_cons_of_mem _ (aw_r2 _ (List.mem_of_getElem? (i := 15) rfl))) rfl dX3_turnFits_27 ?_
        refine lv_iconst (v := (2 : Int32)) hx hb dX3_turnFits_30 (by decide) ?_
        refine lv_iload_n hx hb dX3_turnFits_31 rfl (lv_at hl 1 rfl) ?_
        refine lv_imul hx hb dX3_turnFits_32 ?_
        refine lv_iconst (v := (1 : Int32)) hx hb dX3_turnFits_33 (by decide) ?_
        refine lv_iadd hx hb dX3_turnFits_34 ?_
        refine k_iald X hk (wg_8 G _) hw.1 dX3_turnFits_35 ?_
        replace hw := hw.2
        refine lv_icmp_gt (tgt := 43) hx hb dX3_turnFits_36 (by decide) (fun c6 => ?_) (fun c6 => ?_)
        · replace hw := hw.1 c6
          refine lv_iconst (v := (0 : Int32)) hx hb dX3_turnFits_43 (by decide) ?_
          exact k_zret X hk hw dX3_turnFits_44
        · replace hw := hw.2 c6
          refine lv_iconst (v := (1 : Int32)) hx hb dX3_turnFits_39 (by decide) ?_
          refine lv_goto (tgt := 44) hx hb dX3_turnFits_40 (by decide) ?_
          exact k_zret X hk hw dX3_turnFits_44
def rm_X3_shiftLanes : Room := { frames := 0, cells := 0, slots := 0, locals := 0 }
abbrev wz_X3_shiftLanes : List Cond := Cond.code yX3_shiftLanes cX3_shiftLanes 3 none :: wsA
theorem hd_X3_shiftLanes : yX3_shiftLanes.cls = RX3 ∧ yX3_shiftLanes.cls ≠ "java/lang/invoke/MethodHandle" ∧ yX3_shiftLanes.cls ≠ "java/lang/invoke/VarHandle" ∧ (parseMethodDescriptor yX3_shiftLanes.desc).map (fun d => d.parameters.length) = some 2 := by decide +kernel
def wp_X3_shiftLanes (σ : Sg) (p1 p2 : Int32) (Q : Sg → Prop) : Prop := vp_in ((2 : Int32) * p1) 24 ∧ (vp_in ((2 : Int32) * p1) 24 ∧ (∀ σ1 : Sg, σ1 = (put σ 8 (((2 : Int32) * p1)).toNatClampNeg ((σ 8 (((2 : Int32) * p1)).toNatClampNeg) + p2)) → (vp_in (((2 : Int32) * p1) + (1 : Int32)) 24 ∧ (vp_in (((2 : Int32) * p1) + (1 : Int32)) 24 ∧ (∀ σ2 : Sg, σ2 = (put σ1 8 ((((2 : Int32) * p1) + (1 : Int32))).toNatClampNeg ((σ1 8 ((((2 : Int32) * p1) + (1 : Int32))).toNatClampNeg) - p2)) → (Q σ2))))))
set_option maxHeartbeats 4000000 in
set_option maxRecDepth 100000 in
theorem c_X3_shiftLanes (l : Launch) (G : Gw) (σ : Sg) (p1 p2 : Int32) (Q : Sg → Prop) (hw : wp_X3_shiftLanes σ p1 p2 Q) : MetV l yX3_shiftLanes wz_X3_shiftLanes rm_X3_shiftLanes G σ [.ref (G.1 1), .int p1, .int p2] Q := by
  refine MetV.of cX3_shiftLanes 3 none (by decide) rfl (Nat.le_of_ble_eq_true rfl) ?_
  intro p e s m below meth c X hk ls hl
  have X : KC p m meth c cX3_shiftLanes 3 s _ wz_X3_shiftLanes RX3 none G := X
  have hl : lv_has ls 3 [(0, .ref (G.1 1)), (1, .int p1), (2, .int p2)] := hl
  unfold wp_X3_shiftLanes at hw
  have hx := X.1.1
  have hb := X.1.2.1
  refine lv_aload_n hx hb dX3_shiftLanes_0 rfl (lv_at hl 0 rfl) ?_
  refine k_get 4 X hk (wg_1 G _) rfl (hz_wsX30 _) (Nat.le_of_ble_eq_true rfl) (List.mem_cons_of_mem _ (aw_r2 _ (List.mem_of_getElem? (i := 15) rfl))) rfl dX3_shiftLanes_1 ?_
  refine lv_iconst (v := (2 : Int32)) hx hb dX3_shiftLanes_4 (by decide) ?_
  refine lv_iload_n hx hb dX3_shiftLanes_5 rfl (lv_at hl 1 rfl) ?_
  refine lv_imul hx hb dX3_shiftLanes_6 ?_
  refine lv_dup2_11 hx hb dX3_shiftLanes_7 rfl rfl ?_
  refine k_iald X hk (wg_8 G _) hw.1 dX3_shiftLanes_8 ?_
  replace hw := hw.2
  refine lv_iload_n hx hb dX3_shiftLanes_9 rfl (lv_at hl 2 rfl) ?_
  refine lv_iadd hx hb dX3_shiftLanes_10 ?_
  refine k_iast X hk (wg_8 G _) (ws_8 G _) rfl hw.1 dX3_shiftLanes_11 (fun H locs hk => ?_)
  replace hw := hw.2
  obtain ⟨σ1, eσ1⟩ : ∃ y : Sg, y = (put σ 8 (((2 : Int32) * p1)).toNatClampNeg ((σ 8 (((2 : Int32) * p1)).toNatClampNeg) + p2)) := ⟨_, rfl⟩
  rw [← eσ1] at hk
  replace hw := hw σ1 eσ1
  refine lv_aload_n hx hb dX3_shiftLanes_12 rfl (lv_at hl 0 rfl) ?_
  refine k_get 4 X hk (wg_1 G _) rfl (hz_wsX30 _) (Nat.le_of_ble_eq_true rfl) (List.mem_cons_of_mem _ (aw_r2 _ (List.mem_of_getElem? (i := 15) rfl))) rfl dX3_shiftLanes_13 ?_
  refine lv_iconst (v := (2 : Int32)) hx hb dX3_shiftLanes_16 (by decide) ?_
  refine lv_iload_n hx hb dX3_shiftLanes_17 rfl (lv_at hl 1 rfl) ?_
  refine lv_imul hx hb dX3_shiftLanes_18 ?_
  refine lv_iconst (v := (1 : Int32)) hx hb dX3_shiftLanes_19 (by decide) ?_
  refine lv_iadd hx hb dX3_shiftLanes_20 ?_
  refine lv_dup2_11 hx hb dX3_shiftLanes_21 rfl rfl ?_
  refine k_iald X hk (wg_8 G _) hw.1 dX3_shiftLanes_22 ?_
  replace hw := hw.2
  refine lv_iload_n hx hb dX3_shiftLanes_23 rfl (lv_at hl 2 rfl) ?_
  refine lv_isub hx hb dX3_shiftLanes_24 ?_
  refine k_iast X hk (wg_8 G _) (ws_8 G _) rfl hw.1 dX3_shiftLanes_25 (fun H locs hk => ?_)
  replace hw := hw.2
  obtain ⟨σ2, eσ2⟩ : ∃ y : Sg, y = (put σ1 8 ((((2 : Int32) * p1) + (1 : Int32))).toNatClampNeg ((σ1 8 ((((2 : Int32) * p1) + (1 : Int32))).toNatClampNeg) - p2)) := ⟨_, rfl⟩
  rw [← eσ2] at hk
  replace hw := hw σ2 eσ2
  exact k_vret X hk hw dX3_shiftLanes_26
def rm_X3_addPlace : Room := { frames := 1, cells := 0, slots := 0, locals := 23 }
abbrev wz_X3_addPlace : List Cond := Cond.code yX3_addPlace cX3_addPlace 5 (some .int) :: wsA
theorem hd_X3_addPlace : yX3_addPlace.cls = RX3 ∧ yX3_addPlace.cls ≠ "java/lang/invoke/MethodHandle" ∧ yX3_addPlace.cls ≠ "java/lang/invoke/VarHandle" ∧ (parseMethodDescriptor yX3_addPlace.desc).map (fun d => d.parameters.length) = some 4 := by decide +kernel
def wp_X3_addPlace (σ : Sg) (p1 p2 p3 p4 : Int32) (Q : Int32 → Sg → Prop) : Prop := wp_X3_change σ (σ 1 0) (0 : Int32) p1 (fun σ1 => wp_X3_change σ1 (σ1 1 0) (1 : Int32) p2 (fun σ3 => wp_X3_change σ3 (σ3 1 0) (2 : Int32) p3 (fun σ5 => wp_X3_change σ5 (σ5 1 0) (3 : Int32) p4 (fun σ7 => ∀ σ9 : Sg, σ9 = (put σ7 1 0 ((σ7 1 0) + (1 : Int32))) → (Q ((σ9 1 0) - (1 : Int32)) σ9)))))
set_option maxHeartbeats 4000000 in
set_option maxRecDepth 100000 in
theorem c_X3_addPlace (l : Launch) (G : Gw) (σ : Sg) (p1 p2 p3 p4 : Int32) (Q : Int32 → Sg → Prop) (hw : wp_X3_addPlace σ p1 p2 p3 p4 Q) : MetI l yX3_addPlace wz_X3_addPlace rm_X3_addPlace G σ [.ref (G.1 1), .int p1, .int p2, .int p3, .int p4] Q := by
  refine MetI.of cX3_addPlace 5 (some .int) (by decide) rfl (Nat.le_of_ble_eq_true rfl) ?_
  intro p e s m below meth c X hk ls hl
  have X : KC p m meth c cX3_addPlace 5 s _ wz_X3_addPlace RX3 (some .int) G := X
  have hl : lv_has ls 5 [(0, .ref (G.1 1)), (1, .int p1), (2, .int p2), (3, .int p3), (4, .int p4)] := hl
  unfold wp_X3_addPlace at hw
  have hx := X.1.1
  have hb := X.1.2.1
  refine lv_aload_n hx hb dX3_addPlace_0 rfl (lv_at hl 0 rfl) ?_
  refine lv_aload_n hx hb dX3_addPlace_1 rfl (lv_at hl 0 rfl) ?_
  refine k_get 0 X hk (wg_1 G _) rfl (hz_wsX30 _) (Nat.le_of_ble_eq_true rfl) (List.mem_cons_of_mem _ (aw_r12 _ (List.mem_of_getElem? (i := 14) rfl))) rfl dX3_addPlace_2 ?_
  refine lv_iconst (v := (0 : Int32)) hx hb dX3_addPlace_5 (by decide) ?_
  refine lv_iload_n hx hb dX3_addPlace_6 rfl (lv_at hl 1 rfl) ?_
  refine k_callVv (rest := []) X hk (c_X3_change l G _ _ _ _ _ hw) (cwV 3 X.1.2.2.2.2 (gzV (aw_r13 _ (List.mem_of_getElem? (i := 14) rfl)) (aw_r13 _ (List.mem_of_getElem? (i := 15) rfl)) (aw_r13 _ (List.mem_of_getElem? (i := 16) rfl)) (aw_r1 _ (List.mem_of_getElem? (i := 15) rfl)) (aw_r13 _ (List.mem_of_getElem? (i := 17) rfl))) rfl rfl rfl hd_X3_change ⟨(Nat.le_of_ble_eq_true rfl), (Nat.le_of_ble_eq_true rfl)⟩) (wg_1 G _) rfl rfl hl.1 rfl (Nat.le_of_ble_eq_true rfl) dX3_addPlace_7 ⟨Nat.zero_le _, Nat.zero_le _⟩ (fun σ1 H locs hw hk => ?_)
  refine lv_aload_n hx hb dX3_addPlace_10 rfl (lv_at hl 0 rfl) ?_
  refine lv_aload_n hx hb dX3_addPlace_11 rfl (lv_at hl 0 rfl) ?_
  refine k_get 0 X hk (wg_1 G _) rfl (hz_wsX30 _) (Nat.le_of_ble_eq_true rfl) (List.mem_cons_of_mem _ (aw_r12 _ (List.mem_of_getElem? (i := 14) rfl))) rfl dX3_addPlace_12 ?_
  refine lv_iconst (v := (1 : Int32)) hx hb dX3_addPlace_15 (by decide) ?_
  refine lv_iload_n hx hb dX3_addPlace_16 rfl (lv_at hl 2 rfl) ?_
  refine k_callVv (rest := []) X hk (c_X3_change l G _ _ _ _ _ hw) (cwV 3 X.1.2.2.2.2 (gzV (aw_r13 _ (List.mem_of_getElem? (i := 14) rfl)) (aw_r13 _ (List.mem_of_getElem? (i := 15) rfl)) (aw_r13 _ (List.mem_of_getElem? (i := 16) rfl)) (aw_r1 _ (List.mem_of_getElem? (i := 15) rfl)) (aw_r13 _ (List.mem_of_getElem? (i := 17) rfl))) rfl rfl rfl hd_X3_change ⟨(Nat.le_of_ble_eq_true rfl), (Nat.le_of_ble_eq_true rfl)⟩) (wg_1 G _) rfl rfl hl.1 rfl (Nat.le_of_ble_eq_true rfl) dX3_addPlace_17 ⟨Nat.zero_le _, Nat.zero_le _⟩ (fun σ3 H locs hw hk => ?_)
  refine lv_aload_n hx hb dX3_addPlace_20 rfl (lv_at hl 0 rfl) ?_
  refine lv_aload_n hx hb dX3_addPlace_21 rfl (lv_at hl 0 rfl) ?_
  refine k_get 0 X hk (wg_1 G _) rfl (hz_wsX30 _) (Nat.le_of_ble_eq_true rfl) (List.mem_cons_of_mem _ (aw_r12 _ (List.mem_of_getElem? (i := 14) rfl))) rfl dX3_addPlace_22 ?_
  refine lv_iconst (v := (2 : Int32)) hx hb dX3_addPlace_25 (by decide) ?_
  refine lv_iload_n hx hb dX3_addPlace_26 rfl (lv_at hl 3 rfl) ?_
  refine k_callVv (rest := []) X hk (c_X3_change l G _ _ _ _ _ hw) (cwV 3 X.1.2.2.2.2 (gzV (aw_r13 _ (List.mem_of_getElem? (i := 14) rfl)) (aw_r13 _ (List.mem_of_getElem? (i := 15) rfl)) (aw_r13 _ (List.mem_of_getElem? (i := 16) rfl)) (aw_r1 _ (List.mem_of_getElem? (i := 15) rfl)) (aw_r13 _ (List.mem_of_getElem? (i := 17) rfl))) rfl rfl rfl hd_X3_change ⟨(Nat.le_of_ble_eq_true rfl), (Nat.le_of_ble_eq_true rfl)⟩) (wg_1 G _) rfl rfl hl.1 rfl (Nat.le_of_ble_eq_true rfl) dX3_addPlace_27 ⟨Nat.zero_le _, Nat.zero_le _⟩ (fun σ5 H locs hw hk => ?_)
  refine lv_aload_n hx hb dX3_addPlace_30 rfl (lv_at hl 0 rfl) ?_
  refine lv_aload_n hx hb dX3_addPlace_31 rfl (lv_at hl 0 rfl) ?_
  refine k_get 0 X hk (wg_1 G _) rfl (hz_wsX30 _) (Nat.le_of_ble_eq_true rfl) (List.mem_cons_of_mem _ (aw_r12 _ (List.mem_of_getElem? (i := 14) rfl))) rfl dX3_addPlace_32 ?_
  refine lv_iconst (v := (3 : Int32)) hx hb dX3_addPlace_35 (by decide) ?_
  refine lv_iload hx hb dX3_addPlace_36 (lv_at hl 4 rfl) ?_
  refine k_callVv (rest := []) X hk (c_X3_change l G _ _ _ _ _ hw) (cwV 3 X.1.2.2.2.2 (gzV (aw_r13 _ (List.mem_of_getElem? (i := 14) rfl)) (aw_r13 _ (List.mem_of_getElem? (i := 15) rfl)) (aw_r13 _ (List.mem_of_getElem? (i := 16) rfl)) (aw_r1 _ (List.mem_of_getElem? (i := 15) rfl)) (aw_r13 _ (List.mem_of_getElem? (i := 17) rfl))) rfl rfl rfl hd_X3_change ⟨(Nat.le_of_ble_eq_true rfl), (Nat.le_of_ble_eq_true rfl)⟩) (wg_1 G _) rfl rfl hl.1 rfl (Nat.le_of_ble_eq_true rfl) dX3_addPlace_38 ⟨Nat.zero_le _, Nat.zero_le _⟩ (fun σ7 H locs hw hk => ?_)
  refine lv_aload_n hx hb dX3_addPlace_41 rfl (lv_at hl 0 rfl) ?_
  refine lv_dup hx hb dX3_addPlace_42 rfl ?_
  refine k_get 0 X hk (wg_1 G _) rfl (hz_wsX30 _) (Nat.le_of_ble_eq_true rfl) (List.mem_cons_of_mem _ (aw_r12 _ (List.mem_of_getElem? (i := 14) rfl))) rfl dX3_addPlace_43 ?_
  refine lv_iconst (v := (1 : Int32)) hx hb dX3_addPlace_46 (by decide) ?_
  refine lv_iadd hx hb dX3_addPlace_47 ?_
  refine k_put 0 X hk (wg_1 G _) rfl (hz_wsX30 _) tyX3_ok nmX3 (Nat.le_of_ble_eq_true rfl) (List.mem_cons_of_mem _ (aw_r12 _ (List.mem_of_getElem? (i := 14) rfl))) rfl rfl (Nat.le_of_ble_eq_true rfl) (ws_1_0 G _ _) dX3_addPlace_48 (fun H locs hk => ?_)
  obtain ⟨σ9, eσ9⟩ : ∃ y : Sg, y = (put σ7 1 0 ((σ7 1 0) + (1 : Int32))) := ⟨_, rfl⟩
  rw [← eσ9] at hk
  replace hw := hw σ9 eσ9
  refine lv_aload_n hx hb dX3_addPlace_51 rfl (lv_at hl 0 rfl) ?_
  refine k_get 0 X hk (wg_1 G _) rfl (hz_wsX30 _) (Nat.le_of_ble_eq_true rfl) (List.mem_cons_of_mem _ (aw_r12 _ (List.mem_of_getElem? (i := 14) rfl))) rfl dX3_addPlace_52 ?_
  refine lv_iconst (v := (1 : Int32)) hx hb dX3_addPlace_55 (by decide) ?_
  refine lv_isub hx hb dX3_addPlace_56 ?_
  exact k_iret X hk hw dX3_addPlace_57
def rm_X3_addRoad : Room := { frames := 0, cells := 0, slots := 0, locals := 0 }
abbrev wz_X3_addRoad : List Cond := Cond.code yX3_addRoad cX3_addRoad 6 (some .int) :: wsA
theorem hd_X3_addRoad : yX3_addRoad.cls = RX3 ∧ yX3_addRoad.cls ≠ "java/lang/invoke/MethodHandle" ∧ yX3_addRoad.cls ≠ "java/lang/invoke/VarHandle" ∧ (parseMethodDescriptor yX3_addRoad.desc).map (fun d => d.parameters.length) = some 5 := by decide +kernel
def wp_X3_addRoad (σ : Sg) (p1 p2 p3 p4 p5 : Int32) (Q : Int32 → Sg → Prop) : Prop := vp_in ((2 : Int32) * (σ 1 1)) 24 ∧ (∀ σ1 : Sg, σ1 = (put σ 7 (((2 : Int32) * (σ 1 1))).toNatClampNeg p1) → (vp_in (((2 : Int32) * (σ1 1 1)) + (1 : Int32)) 24 ∧ (∀ σ2 : Sg, σ2 = (put σ1 7 ((((2 : Int32) * (σ1 1 1)) + (1 : Int32))).toNatClampNeg p2) → (vp_in (σ2 1 1) 12 ∧ (∀ σ3 : Sg, σ3 = (put σ2 6 ((σ2 1 1)).toNatClampNeg p3) → (vp_in ((2 : Int32) * (σ3 1 1)) 24 ∧ (∀ σ4 : Sg, σ4 = (put σ3 8 (((2 : Int32) * (σ3 1 1))).toNatClampNeg p4) → (vp_in (((2 : Int32) * (σ4 1 1)) + (1 : Int32)) 24 ∧ (∀ σ5 : Sg, σ5 = (put σ4 8 ((((2 : Int32) * (σ4 1 1)) + (1 : Int32))).toNatClampNeg p5) → (∀ σ6 : Sg, σ6 = (put σ5 1 1 ((σ5 1 1) + (1 : Int32))) → (Q ((σ6 1 1) - (1 : Int32)) σ6)))))))))))
set_option maxHeartbeats 4000000 in
set_option maxRecDepth 100000 in
theorem c_X3_addRoad (l : Launch) (G : Gw) (σ : Sg) (p1 p2 p3 p4 p5 : Int32) (Q : Int32 → Sg → Prop) (hw : wp_X3_addRoad σ p1 p2 p3 p4 p5 Q) : MetI l yX3_addRoad wz_X3_addRoad rm_X3_addRoad G σ [.ref (G.1 1), .int p1, .int p2, .int p3, .int p4, .int p5] Q := by
  refine MetI.of cX3_addRoad 6 (some .int) (by decide) rfl (Nat.le_of_ble_eq_true rfl) ?_
  intro p e s m below meth c X hk ls hl
  have X : KC p m meth c cX3_addRoad 6 s _ wz_X3_addRoad RX3 (some .int) G := X
  have hl : lv_has ls 6 [(0, .ref (G.1 1)), (1, .int p1), (2, .int p2), (3, .int p3), (4, .int p4), (5, .int p5)] := hl
  unfold wp_X3_addRoad at hw
  have hx := X.1.1
  have hb := X.1.2.1
  refine lv_aload_n hx hb dX3_addRoad_0 rfl (lv_at hl 0 rfl) ?_
  refine k_get 3 X hk (wg_1 G _) rfl (hz_wsX30 _) (Nat.le_of_ble_eq_true rfl) (List.mem_cons_of_mem _ (aw_r2 _ (List.mem_of_getElem? (i := 14) rfl))) rfl dX3_addRoad_1 ?_
  refine lv_iconst (v := (2 : Int32)) hx hb dX3_addRoad_4 (by decide) ?_
  refine lv_aload_n hx hb dX3_addRoad_5 rfl (lv_at hl 0 rfl) ?_
  refine k_get 1 X hk (wg_1 G _) rfl (hz_wsX30 _) (Nat.le_of_ble_eq_true rfl) (List.mem_cons_of_mem _ (aw_r12 _ (List.mem_of_getElem? (i := 19) rfl))) rfl dX3_addRoad_6 ?_
  refine lv_imul hx hb dX3_addRoad_9 ?_
  refine lv_iload_n hx hb dX3_addRoad_10 rfl (lv_at hl 1 rfl) ?_
  refine k_iast X hk (wg_7 G _) (ws_7 G _) rfl hw.1 dX3_addRoad_11 (fun H locs hk => ?_)
  replace hw := hw.2
  obtain ⟨σ1, eσ1⟩ : ∃ y : Sg, y = (put σ 7 (((2 : Int32) * (σ 1 1))).toNatClampNeg p1) := ⟨_, rfl⟩
  rw [← eσ1] at hk
  replace hw := hw σ1 eσ1
  refine lv_aload_n hx hb dX3_addRoad_12 rfl (lv_at hl 0 rfl) ?_
  refine k_get 3 X hk (wg_1 G _) rfl (hz_wsX30 _) (Nat.le_of_ble_eq_true rfl) (List.mem_cons_of_mem _ (aw_r2 _ (List.mem_of_getElem? (i := 14) rfl))) rfl dX3_addRoad_13 ?_
  refine lv_iconst (v := (2 : Int32)) hx hb dX3_addRoad_16 (by decide) ?_
  refine lv_aload_n hx hb dX3_addRoad_17 rfl (lv_at hl 0 rfl) ?_
  refine k_get 1 X hk (wg_1 G _) rfl (hz_wsX30 _) (Nat.le_of_ble_eq_true rfl) (List.mem_cons_of_mem _ (aw_r12 _ (List.mem_of_getElem? (i := 19) rfl))) rfl dX3_addRoad_18 ?_
  refine lv_imul hx hb dX3_addRoad_21 ?_
  refine lv_iconst (v := (1 : Int32)) hx hb dX3_addRoad_22 (by decide) ?_
  refine lv_iadd hx hb dX3_addRoad_23 ?_
  refine lv_iload_n hx hb dX3_addRoad_24 rfl (lv_at hl 2 rfl) ?_
  refine k_iast X hk (wg_7 G _) (ws_7 G _) rfl hw.1 dX3_addRoad_25 (fun H locs hk => ?_)
  replace hw := hw.2
  obtain ⟨σ2, eσ2⟩ : ∃ y : Sg, y = (put σ1 7 ((((2 : Int32) * (σ1 1 1)) + (1 : Int32))).toNatClampNeg p2) := ⟨_, rfl⟩
  rw [← eσ2] at hk
  replace hw := hw σ2 eσ2
  refine lv_aload_n hx hb dX3_addRoad_26 rfl (lv_at hl 0 rfl) ?_
  refine k_get 2 X hk (wg_1 G _) rfl (hz_wsX30 _) (Nat.le_of_ble_eq_true rfl) (List.mem_cons_of_mem _ (aw_r2 _ (List.mem_of_getElem? (i := 13) rfl))) rfl dX3_addRoad_27 ?_
  refine lv_aload_n hx hb dX3_addRoad_30 rfl (lv_at hl 0 rfl) ?_
  refine k_get 1 X hk (wg_1 G _) rfl (hz_wsX30 _) (Nat.le_of_ble_eq_true rfl) (List.mem_cons_of_mem _ (aw_r12 _ (List.mem_of_getElem? (i := 19) rfl))) rfl dX3_addRoad_31 ?_
  refine lv_iload_n hx hb dX3_addRoad_34 rfl (lv_at hl 3 rfl) ?_
  refine k_iast X hk (wg_6 G _) (ws_6 G _) rfl hw.1 dX3_addRoad_35 (fun H locs hk => ?_)
  replace hw := hw.2
  obtain ⟨σ3, eσ3⟩ : ∃ y : Sg, y = (put σ2 6 ((σ2 1 1)).toNatClampNeg p3) := ⟨_, rfl⟩
  rw [← eσ3] at hk
  replace hw := hw σ3 eσ3
  refine lv_aload_n hx hb dX3_addRoad_36 rfl (lv_at hl 0 rfl) ?_
  refine k_get 4 X hk (wg_1 G _) rfl (hz_wsX30 _) (Nat.le_of_ble_eq_true rfl) (List.mem_cons_of_mem _ (aw_r2 _ (List.mem_of_getElem? (i := 15) rfl))) rfl dX3_addRoad_37 ?_
  refine lv_iconst (v := (2 : Int32)) hx hb dX3_addRoad_40 (by decide) ?_
  refine lv_aload_n hx hb dX3_addRoad_41 rfl (lv_at hl 0 rfl) ?_
  refine k_get 1 X hk (wg_1 G _) rfl (hz_wsX30 _) (Nat.le_of_ble_eq_true rfl) (List.mem_cons_of_mem _ (aw_r12 _ (List.mem_of_getElem? (i := 19) rfl))) rfl dX3_addRoad_42 ?_
  refine lv_imul hx hb dX3_addRoad_45 ?_
  refine lv_iload hx hb dX3_addRoad_46 (lv_at hl 4 rfl) ?_
  refine k_iast X hk (wg_8 G _) (ws_8 G _) rfl hw.1 dX3_addRoad_48 (fun H locs hk => ?_)
  replace hw := hw.2
  obtain ⟨σ4, eσ4⟩ : ∃ y : Sg, y = (put σ3 8 (((2 : Int32) * (σ3 1 1))).toNatClampNeg p4) := ⟨_, rfl⟩
  rw [← eσ4] at hk
  replace hw := hw σ4 eσ4
  refine lv_aload_n hx hb dX3_addRoad_49 rfl (lv_at hl 0 rfl) ?_
  refine k_get 4 X hk (wg_1 G _) rfl (hz_wsX30 _) (Nat.le_of_ble_eq_true rfl) (List.mem_cons_of_mem _ (aw_r2 _ (List.mem_of_getElem? (i := 15) rfl))) rfl dX3_addRoad_50 ?_
  refine lv_iconst (v := (2 : Int32)) hx hb dX3_addRoad_53 (by decide) ?_
  refine lv_aload_n hx hb dX3_addRoad_54 rfl (lv_at hl 0 rfl) ?_
  refine k_get 1 X hk (wg_1 G _) rfl (hz_wsX30 _) (Nat.le_of_ble_eq_true rfl) (List.mem_cons_of_mem _ (aw_r12 _ (List.mem_of_getElem? (i := 19) rfl))) rfl dX3_addRoad_55 ?_
  refine lv_imul hx hb dX3_addRoad_58 ?_
  refine lv_iconst (v := (1 : Int32)) hx hb dX3_addRoad_59 (by decide) ?_
  refine lv_iadd hx hb dX3_addRoad_60 ?_
  refine lv_iload hx hb dX3_addRoad_61 (lv_at hl 5 rfl) ?_
  refine k_iast X hk (wg_8 G _) (ws_8 G _) rfl hw.1 dX3_addRoad_63 (fun H locs hk => ?_)
  replace hw := hw.2
  obtain ⟨σ5, eσ5⟩ : ∃ y : Sg, y = (put σ4 8 ((((2 : Int32) * (σ4 1 1)) + (1 : Int32))).toNatClampNeg p5) := ⟨_, rfl⟩
  rw [← eσ5] at hk
  replace hw := hw σ5 eσ5
  refine lv_aload_n hx hb dX3_addRoad_64 rfl (lv_at hl 0 rfl) ?_
  refine lv_dup hx hb dX3_addRoad_65 rfl ?_
  refine k_get 1 X hk (wg_1 G _) rfl (hz_wsX30 _) (Nat.le_of_ble_eq_true rfl) (List.mem_cons_of_mem _ (aw_r12 _ (List.mem_of_getElem? (i := 19) rfl))) rfl dX3_addRoad_66 ?_
  refine lv_iconst (v := (1 : Int32)) hx hb dX3_addRoad_69 (by decide) ?_
  refine lv_iadd hx hb dX3_addRoad_70 ?_
  refine k_put 1 X hk (wg_1 G _) rfl (hz_wsX30 _) tyX3_ok nmX3 (Nat.le_of_ble_eq_true rfl) (List.mem_cons_of_mem _ (aw_r12 _ (List.mem_of_getElem? (i := 19) rfl))) rfl rfl (Nat.le_of_ble_eq_true rfl) (ws_1_1 G _ _) dX3_addRoad_71 (fun H locs hk => ?_)
  obtain ⟨σ6, eσ6⟩ : ∃ y : Sg, y = (put σ5 1 1 ((σ5 1 1) + (1 : Int32))) := ⟨_, rfl⟩
  rw [← eσ6] at hk
  replace hw := hw σ6 eσ6
  refine lv_aload_n hx hb dX3_addRoad_74 rfl (lv_at hl 0 rfl) ?_
  refine k_get 1 X hk (wg_1 G _) rfl (hz_wsX30 _) (Nat.le_of_ble_eq_true rfl) (List.mem_cons_of_mem _ (aw_r12 _ (List.mem_of_getElem? (i := 19) rfl))) rfl dX3_addRoad_75 ?_
  refine lv_iconst (v := (1 : Int32)) hx hb dX3_addRoad_78 (by decide) ?_
  refine lv_isub hx hb dX3_addRoad_79 ?_
  exact k_iret X hk hw dX3_addRoad_80
