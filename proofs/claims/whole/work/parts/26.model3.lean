def rm_X6_shut : Room := { frames := 6, cells := 0, slots := 0, locals := 133 }
abbrev wz_X6_shut : List Cond := Cond.code yX6_shut cX6_shut 3 (some .int) :: wsA
theorem hd_X6_shut : yX6_shut.cls = RX6 ∧ yX6_shut.cls ≠ "java/lang/invoke/MethodHandle" ∧ yX6_shut.cls ≠ "java/lang/invoke/VarHandle" ∧ (parseMethodDescriptor yX6_shut.desc).map (fun d => d.parameters.length) = some 1 := by decide +kernel
def wp_X6_shut (σ : Sg) (p1 : Int32) (Q : Int32 → Sg → Prop) : Prop := ∀ σ1 : Sg, σ1 = (put σ 30 0 (0 : Int32)) → (wp_X6_isRoad σ1 p1 (fun r3 σ2 => (r3 = 0 → (Q (-2 : Int32) σ2)) ∧ (¬ (r3 = 0) → (wp_X6_keeps σ2  (fun σ5 => wp_X6_lanes σ5 p1 (0 : Int32) (0 : Int32) (fun σ7 => wp_X6_quickestNow σ7  (fun r10 σ9 => wp_X6_comesBack σ9  (fun σ11 => Q r10 σ11))))))))
set_option maxHeartbeats 4000000 in
set_option maxRecDepth 100000 in
theorem c_X6_shut (l : Launch) (G : Gw) (σ : Sg) (p1 : Int32) (Q : Int32 → Sg → Prop) (hw : wp_X6_shut σ p1 Q) : MetI l yX6_shut wz_X6_shut rm_X6_shut G σ [.ref (G.1 30), .int p1] Q := by
  refine MetI.of cX6_shut 3 (some .int) (by decide) rfl (Nat.le_of_ble_eq_true rfl) ?_
  intro p e s m below meth c X hk ls hl
  have X : KC p m meth c cX6_shut 3 s _ wz_X6_shut RX6 (some .int) G := X
  have hl : lv_has ls 3 [(0, .ref (G.1 30)), (1, .int p1)] := hl
  unfold wp_X6_shut at hw
  have hx := X.1.1
  have hb := X.1.2.1
  refine lv_aload_n hx hb dX6_shut_0 rfl (lv_at hl 0 rfl) ?_
  refine lv_iconst (v := (0 : Int32)) hx hb dX6_shut_1 (by decide) ?_
  refine k_put 0 X hk (wg_30 G _) rfl (hz_wsX60 _) tyX6_ok nmX6 (Nat.le_of_ble_eq_true rfl) (List.mem_cons_of_mem _ (aw_r6 _ (List.mem_of_getElem? (i := 3) rfl))) rfl rfl (Nat.le_of_ble_eq_true rfl) (ws_30_0 G _ _) dX6_shut_2 (fun H locs hk => ?_)
  obtain ⟨σ1, eσ1⟩ : ∃ y : Sg, y = (put σ 30 0 (0 : Int32)) := ⟨_, rfl⟩
  rw [← eσ1] at hk
  replace hw := hw σ1 eσ1
  refine lv_aload_n hx hb dX6_shut_5 rfl (lv_at hl 0 rfl) ?_
  refine lv_iload_n hx hb dX6_shut_6 rfl (lv_at hl 1 rfl) ?_
  refine k_callVi (rest := []) X hk (c_X6_isRoad l G _ _ _ hw) (cwV 1 X.1.2.2.2.2 (gzV (aw_r17 _ (List.mem_of_getElem? (i := 10) rfl)) (aw_r17 _ (List.mem_of_getElem? (i := 11) rfl)) (aw_r17 _ (List.mem_of_getElem? (i := 12) rfl)) (aw_r1 _ (List.mem_of_getElem? (i := 5) rfl)) (aw_r17 _ (List.mem_of_getElem? (i := 13) rfl))) rfl rfl rfl hd_X6_isRoad ⟨(Nat.le_of_ble_eq_true rfl), (Nat.le_of_ble_eq_true rfl)⟩) (wg_30 G _) rfl rfl hl.1 rfl (Nat.le_of_ble_eq_true rfl) dX6_shut_7 ⟨Nat.zero_le _, Nat.zero_le _⟩ (fun r3 σ2 H locs hw hk => ?_)
  refine lv_if_ne (tgt := 16) hx hb dX6_shut_10 (by decide) (fun c4 => ?_) (fun c4 => ?_)
  · replace hw := hw.2 c4
    refine lv_aload_n hx hb dX6_shut_16 rfl (lv_at hl 0 rfl) ?_
    refine k_callVv (rest := []) X hk (c_X6_keeps l G _  _ hw) (cwV 0 X.1.2.2.2.2 (gzV (aw_r14 _ (List.mem_of_getElem? (i := 14) rfl)) (aw_r14 _ (List.mem_of_getElem? (i := 15) rfl)) (aw_r14 _ (List.mem_of_getElem? (i := 16) rfl)) (aw_r1 _ (List.mem_of_getElem? (i := 5) rfl)) (aw_r14 _ (List.mem_of_getElem? (i := 17) rfl))) rfl rfl rfl hd_X6_keeps ⟨(Nat.le_of_ble_eq_true rfl), (Nat.le_of_ble_eq_true rfl)⟩) (wg_30 G _) rfl rfl hl.1 rfl (Nat.le_of_ble_eq_true rfl) dX6_shut_17 ⟨Nat.zero_le _, Nat.zero_le _⟩ (fun σ5 H locs hw hk => ?_)
    refine lv_aload_n hx hb dX6_shut_20 rfl (lv_at hl 0 rfl) ?_
    refine lv_iload_n hx hb dX6_shut_21 rfl (lv_at hl 1 rfl) ?_
    refine lv_iconst (v := (0 : Int32)) hx hb dX6_shut_22 (by decide) ?_
    refine lv_iconst (v := (0 : Int32)) hx hb dX6_shut_23 (by decide) ?_
    refine k_callVv (rest := []) X hk (c_X6_lanes l G _ _ _ _ _ hw) (cwV 3 X.1.2.2.2.2 (gzV (aw_r33 _ (List.mem_of_getElem? (i := 10) rfl)) (aw_r33 _ (List.mem_of_getElem? (i := 11) rfl)) (aw_r33 _ (List.mem_of_getElem? (i := 12) rfl)) (aw_r1 _ (List.mem_of_getElem? (i := 5) rfl)) (aw_r33 _ (List.mem_of_getElem? (i := 13) rfl))) rfl rfl rfl hd_X6_lanes ⟨(Nat.le_of_ble_eq_true rfl), (Nat.le_of_ble_eq_true rfl)⟩) (wg_30 G _) rfl rfl hl.1 rfl (Nat.le_of_ble_eq_true rfl) dX6_shut_24 ⟨Nat.zero_le _, Nat.zero_le _⟩ (fun σ7 H locs hw hk => ?_)
    refine lv_aload_n hx hb dX6_shut_27 rfl (lv_at hl 0 rfl) ?_
    refine k_callVi (rest := []) X hk (c_X6_quickestNow l G _  _ hw) (cwV 0 X.1.2.2.2.2 (gzV (aw_r31 _ (List.mem_of_getElem? (i := 5) rfl)) (aw_r31 _ (List.mem_of_getElem? (i := 6) rfl)) (aw_r31 _ (List.mem_of_getElem? (i := 7) rfl)) (aw_r1 _ (List.mem_of_getElem? (i := 5) rfl)) (aw_r31 _ (List.mem_of_getElem? (i := 8) rfl))) rfl rfl rfl hd_X6_quickestNow ⟨(Nat.le_of_ble_eq_true rfl), (Nat.le_of_ble_eq_true rfl)⟩) (wg_30 G _) rfl rfl hl.1 rfl (Nat.le_of_ble_eq_true rfl) dX6_shut_28 ⟨Nat.zero_le _, Nat.zero_le _⟩ (fun r10 σ9 H locs hw hk => ?_)
    refine lv_istore_n (lv' := [(2, .int r10), (0, .ref (G.1 30)), (1, .int p1)]) hx hb dX6_shut_31 rfl hl (Nat.le_of_ble_eq_true rfl) rfl (fun ls hl => ?_)
    refine lv_aload_n hx hb dX6_shut_32 rfl (lv_at hl 1 rfl) ?_
    refine k_callVv (rest := []) X hk (c_X6_comesBack l G _  _ hw) (cwV 0 X.1.2.2.2.2 (gzV (aw_r18 _ (List.mem_of_getElem? (i := 10) rfl)) (aw_r18 _ (List.mem_of_getElem? (i := 11) rfl)) (aw_r18 _ (List.mem_of_getElem? (i := 12) rfl)) (aw_r1 _ (List.mem_of_getElem? (i := 5) rfl)) (aw_r18 _ (List.mem_of_getElem? (i := 13) rfl))) rfl rfl rfl hd_X6_comesBack ⟨(Nat.le_of_ble_eq_true rfl), (Nat.le_of_ble_eq_true rfl)⟩) (wg_30 G _) rfl rfl hl.1 rfl (Nat.le_of_ble_eq_true rfl) dX6_shut_33 ⟨Nat.zero_le _, Nat.zero_le _⟩ (fun σ11 H locs hw hk => ?_)
    refine lv_iload_n hx hb dX6_shut_36 rfl (lv_at hl 0 rfl) ?_
    exact k_iret X hk hw dX6_shut_37
  · replace hw := hw.1 c4
    refine lv_bipush (v := (-2 : Int32)) hx hb dX6_shut_13 (by decide) ?_
    exact k_iret X hk hw dX6_shut_15
def rm_X6_mayWiden : Room := { frames := 2, cells := 0, slots := 0, locals := 43 }
abbrev wz_X6_mayWiden : List Cond := Cond.code yX6_mayWiden cX6_mayWiden 4 (some .boolean) :: wsA
theorem hd_X6_mayWiden : yX6_mayWiden.cls = RX6 ∧ yX6_mayWiden.cls ≠ "java/lang/invoke/MethodHandle" ∧ yX6_mayWiden.cls ≠ "java/lang/invoke/VarHandle" ∧ (parseMethodDescriptor yX6_mayWiden.desc).map (fun d => d.parameters.length) = some 3 := by decide +kernel
def wp_X6_mayWiden_30 (Q : Int32 → Sg → Prop)  (x3 y1 y2 : Int32) (σ : Sg) : Prop := wp_X6_ofRoad σ y1 y2 (fun r9 σ8 => ((r9 + x3) < 0 → (bz (0 : Int32) ∧ Q (0 : Int32) σ8)) ∧ (¬ ((r9 + x3) < 0) → (bz (1 : Int32) ∧ Q (1 : Int32) σ8)))
set_option maxHeartbeats 4000000 in
set_option maxRecDepth 100000 in
theorem t_X6_mayWiden_30 {p : Program} {l : Launch} {e : Env} {s : State} {m : MethodId} {args : Array Value} {below : List Frame} {meth : Method} {c : Code} {G : Gw} (X : KC p m meth c cX6_mayWiden 4 s args wz_X6_mayWiden RX6 (some .boolean) G) (Q : Int32 → Sg → Prop)  : ∀ (σ : Sg) (x3 y1 y2 : Int32) (H : Heap) (locs : List Loc) (ls : Array Slot), wp_X6_mayWiden_30 Q  x3 y1 y2 σ → WK G s H locs σ → lv_has ls 4 [(3, .int x3)] → W p l e rm_X6_mayWiden s m args below meth c H locs 0 0 (ZI below args s G Q) (F0 m 30 ls [.int y2, .int y1, .ref (G.1 30)]) := by
  have hx := X.1.1
  have hb := X.1.2.1
  intro σ x3 y1 y2 H locs ls hw hk hl
  unfold wp_X6_mayWiden_30 at hw
  refine k_callVi (rest := []) X hk (c_X6_ofRoad l G _ _ _ _ hw) (cwV 2 X.1.2.2.2.2 (gzV (aw_r17 _ (List.mem_of_getElem? (i := 14) rfl)) (aw_r17 _ (List.mem_of_getElem? (i := 15) rfl)) (aw_r17 _ (List.mem_of_getElem? (i := 16) rfl)) (aw_r1 _ (List.mem_of_getElem? (i := 5) rfl)) (aw_r17 _ (List.mem_of_getElem? (i := 17) rfl))) rfl rfl rfl hd_X6_ofRoad ⟨(Nat.le_of_ble_eq_true rfl), (Nat.le_of_ble_eq_true rfl)⟩) (wg_30 G _) rfl rfl hl.1 rfl (Nat.le_of_ble_eq_true rfl) dX6_mayWiden_30 ⟨Nat.zero_le _, Nat.zero_le _⟩ (fun r9 σ8 H locs hw hk => ?_)
  refine lv_iload_n hx hb dX6_mayWiden_33 rfl (lv_at hl 0 rfl) ?_
  refine lv_iadd hx hb dX6_mayWiden_34 ?_
  refine lv_if_lt (tgt := 42) hx hb dX6_mayWiden_35 (by decide) (fun c10 => ?_) (fun c10 => ?_)
  · replace hw := hw.1 c10
    refine lv_iconst (v := (0 : Int32)) hx hb dX6_mayWiden_42 (by decide) ?_
    exact k_zret X hk hw dX6_mayWiden_43
  · replace hw := hw.2 c10
    refine lv_iconst (v := (1 : Int32)) hx hb dX6_mayWiden_38 (by decide) ?_
    refine lv_goto (tgt := 43) hx hb dX6_mayWiden_39 (by decide) ?_
    exact k_zret X hk hw dX6_mayWiden_43
def wp_X6_mayWiden (σ : Sg) (p1 p2 p3 : Int32) (Q : Int32 → Sg → Prop) : Prop := wp_X6_isRoad σ p1 (fun r2 σ1 => (r2 = 0 → (bz (0 : Int32) ∧ Q (0 : Int32) σ1)) ∧ (¬ (r2 = 0) → (wp_X6_isIn σ1 p3 (-9 : Int32) (30 : Int32) (fun r5 σ4 => (r5 = 0 → (bz (0 : Int32) ∧ Q (0 : Int32) σ4)) ∧ (¬ (r5 = 0) → ((p2 = 0 → (wp_X6_mayWiden_30 Q  p3 p1 (3 : Int32) σ4)) ∧ (¬ (p2 = 0) → (wp_X6_mayWiden_30 Q  p3 p1 (4 : Int32) σ4))))))))
set_option maxHeartbeats 4000000 in
set_option maxRecDepth 100000 in
theorem c_X6_mayWiden (l : Launch) (G : Gw) (σ : Sg) (p1 p2 p3 : Int32) (Q : Int32 → Sg → Prop) (hw : wp_X6_mayWiden σ p1 p2 p3 Q) : MetI l yX6_mayWiden wz_X6_mayWiden rm_X6_mayWiden G σ [.ref (G.1 30), .int p1, .int p2, .int p3] Q := by
  refine MetI.of cX6_mayWiden 4 (some .boolean) (by decide) rfl (Nat.le_of_ble_eq_true rfl) ?_
  intro p e s m below meth c X hk ls hl
  have X : KC p m meth c cX6_mayWiden 4 s _ wz_X6_mayWiden RX6 (some .boolean) G := X
  have hl : lv_has ls 4 [(0, .ref (G.1 30)), (1, .int p1), (2, .int p2), (3, .int p3)] := hl
  unfold wp_X6_mayWiden at hw
  have hx := X.1.1
  have hb := X.1.2.1
  refine lv_aload_n hx hb dX6_mayWiden_0 rfl (lv_at hl 0 rfl) ?_
  refine lv_iload_n hx hb dX6_mayWiden_1 rfl (lv_at hl 1 rfl) ?_
  refine k_callVi (rest := []) X hk (c_X6_isRoad l G _ _ _ hw) (cwV 1 X.1.2.2.2.2 (gzV (aw_r17 _ (List.mem_of_getElem? (i := 10) rfl)) (aw_r17 _ (List.mem_of_getElem? (i := 11) rfl)) (aw_r17 _ (List.mem_of_getElem? (i := 12) rfl)) (aw_r1 _ (List.mem_of_getElem? (i := 5) rfl)) (aw_r17 _ (List.mem_of_getElem? (i := 13) rfl))) rfl rfl rfl hd_X6_isRoad ⟨(Nat.le_of_ble_eq_true rfl), (Nat.le_of_ble_eq_true rfl)⟩) (wg_30 G _) rfl rfl hl.1 rfl (Nat.le_of_ble_eq_true rfl) dX6_mayWiden_2 ⟨Nat.zero_le _, Nat.zero_le _⟩ (fun r2 σ1 H locs hw hk => ?_)
  refine lv_if_eq (tgt := 42) hx hb dX6_mayWiden_5 (by decide) (fun c3 => ?_) (fun c3 => ?_)
  · replace hw := hw.1 c3
    refine lv_iconst (v := (0 : Int32)) hx hb dX6_mayWiden_42 (by decide) ?_
    exact k_zret X hk hw dX6_mayWiden_43
  · replace hw := hw.2 c3
    refine lv_iload_n hx hb dX6_mayWiden_8 rfl (lv_at hl 3 rfl) ?_
    refine lv_bipush (v := (-9 : Int32)) hx hb dX6_mayWiden_9 (by decide) ?_
    refine lv_bipush (v := (30 : Int32)) hx hb dX6_mayWiden_11 (by decide) ?_
    refine k_callSi (rest := []) X hk (c_X6_isIn l G _ _ _ _ _ hw) (va_cwS 3 X.1.2.2.2.2 (gzS (aw_r6 _ (List.mem_of_getElem? (i := 17) rfl)) (aw_r6 _ (List.mem_of_getElem? (i := 18) rfl)) (aw_r1 _ (List.mem_of_getElem? (i := 5) rfl)) (aw_r6 _ (List.mem_of_getElem? (i := 19) rfl))) rfl rfl rfl hds_X6_isIn ⟨(Nat.le_of_ble_eq_true rfl), (Nat.le_of_ble_eq_true rfl)⟩) rfl hl.1 rfl (Nat.le_of_ble_eq_true rfl) dX6_mayWiden_13 ⟨Nat.zero_le _, Nat.zero_le _⟩ (fun r5 σ4 H locs hw hk => ?_)
    refine lv_if_eq (tgt := 42) hx hb dX6_mayWiden_16 (by decide) (fun c6 => ?_) (fun c6 => ?_)
    · replace hw := hw.1 c6
      refine lv_iconst (v := (0 : Int32)) hx hb dX6_mayWiden_42 (by decide) ?_
      exact k_zret X hk hw dX6_mayWiden_43
    · replace hw := hw.2 c6
      refine lv_aload_n hx hb dX6_mayWiden_19 rfl (lv_at hl 0 rfl) ?_
      refine lv_iload_n hx hb dX6_mayWiden_20 rfl (lv_at hl 1 rfl) ?_
      refine lv_iload_n hx hb dX6_mayWiden_21 rfl (lv_at hl 2 rfl) ?_
      refine lv_if_eq (tgt := 29) hx hb dX6_mayWiden_22 (by decide) (fun c7 => ?_) (fun c7 => ?_)
      · replace hw := hw.1 c7
        refine lv_iconst (v := (3 : Int32)) hx hb dX6_mayWiden_29 (by decide) ?_
        exact t_X6_mayWiden_30 X Q   _ _ _ _ _ _ _ hw hk (lv_sub hl [3] rfl)
      · replace hw := hw.2 c7
        refine lv_iconst (v := (4 : Int32)) hx hb dX6_mayWiden_25 (by decide) ?_
        refine lv_goto (tgt := 30) hx hb dX6_mayWiden_26 (by decide) ?_
        exact t_X6_mayWiden_30 X Q   _ _ _ _ _ _ _ hw hk (lv_sub hl [3] rfl)
def rm_X6_wider : Room := { frames := 6, cells := 0, slots := 0, locals := 133 }
abbrev wz_X6_wider : List Cond := Cond.code yX6_wider cX6_wider 5 (some .int) :: wsA
theorem hd_X6_wider : yX6_wider.cls = RX6 ∧ yX6_wider.cls ≠ "java/lang/invoke/MethodHandle" ∧ yX6_wider.cls ≠ "java/lang/invoke/VarHandle" ∧ (parseMethodDescriptor yX6_wider.desc).map (fun d => d.parameters.length) = some 3 := by decide +kernel
def wp_X6_wider_41 (Q : Int32 → Sg → Prop)  (x3 y1 y2 : Int32) (σ : Sg) : Prop := vp_in (y1 + y2) 256 ∧ (vp_in (y1 + y2) 256 ∧ (∀ σ8 : Sg, σ8 = (put σ 31 ((y1 + y2)).toNatClampNeg ((σ 31 ((y1 + y2)).toNatClampNeg) + x3)) → (wp_X6_quickestNow σ8  (fun r10 σ9 => wp_X6_comesBack σ9  (fun σ11 => Q r10 σ11)))))
set_option maxHeartbeats 4000000 in
set_option maxRecDepth 100000 in
theorem t_X6_wider_41 {p : Program} {l : Launch} {e : Env} {s : State} {m : MethodId} {args : Array Value} {below : List Frame} {meth : Method} {c : Code} {G : Gw} (X : KC p m meth c cX6_wider 5 s args wz_X6_wider RX6 (some .int) G) (Q : Int32 → Sg → Prop)  : ∀ (σ : Sg) (x3 y1 y2 : Int32) (H : Heap) (locs : List Loc) (ls : Array Slot), wp_X6_wider_41 Q  x3 y1 y2 σ → WK G s H locs σ → lv_has ls 5 [(0, .ref (G.1 30)), (3, .int x3)] → W p l e rm_X6_wider s m args below meth c H locs 0 0 (ZI below args s G Q) (F0 m 41 ls [.int y2, .int y1, .ref (G.1 31)]) := by
  have hx := X.1.1
  have hb := X.1.2.1
  intro σ x3 y1 y2 H locs ls hw hk hl
  unfold wp_X6_wider_41 at hw
  refine lv_iadd hx hb dX6_wider_41 ?_
  refine lv_dup2_11 hx hb dX6_wider_42 rfl rfl ?_
  refine k_iald X hk (wg_31 G _) hw.1 dX6_wider_43 ?_
  replace hw := hw.2
  refine lv_iload_n hx hb dX6_wider_44 rfl (lv_at hl 1 rfl) ?_
  refine lv_iadd hx hb dX6_wider_45 ?_
  refine k_iast X hk (wg_31 G _) (ws_31 G _) rfl hw.1 dX6_wider_46 (fun H locs hk => ?_)
  replace hw := hw.2
  obtain ⟨σ8, eσ8⟩ : ∃ y : Sg, y = (put σ 31 ((y1 + y2)).toNatClampNeg ((σ 31 ((y1 + y2)).toNatClampNeg) + x3)) := ⟨_, rfl⟩
  rw [← eσ8] at hk
  replace hw := hw σ8 eσ8
  refine lv_aload_n hx hb dX6_wider_47 rfl (lv_at hl 0 rfl) ?_
  refine k_callVi (rest := []) X hk (c_X6_quickestNow l G _  _ hw) (cwV 0 X.1.2.2.2.2 (gzV (aw_r31 _ (List.mem_of_getElem? (i := 5) rfl)) (aw_r31 _ (List.mem_of_getElem? (i := 6) rfl)) (aw_r31 _ (List.mem_of_getElem? (i := 7) rfl)) (aw_r1 _ (List.mem_of_getElem? (i := 5) rfl)) (aw_r31 _ (List.mem_of_getElem? (i := 8) rfl))) rfl rfl rfl hd_X6_quickestNow ⟨(Nat.le_of_ble_eq_true rfl), (Nat.le_of_ble_eq_true rfl)⟩) (wg_30 G _) rfl rfl hl.1 rfl (Nat.le_of_ble_eq_true rfl) dX6_wider_48 ⟨Nat.zero_le _, Nat.zero_le _⟩ (fun r10 σ9 H locs hw hk => ?_)
  refine lv_istore (lv' := [(4, .int r10), (0, .ref (G.1 30)), (3, .int x3)]) hx hb dX6_wider_51 hl (Nat.le_of_ble_eq_true rfl) rfl (fun ls hl => ?_)
  refine lv_aload_n hx hb dX6_wider_53 rfl (lv_at hl 1 rfl) ?_
  refine k_callVv (rest := []) X hk (c_X6_comesBack l G _  _ hw) (cwV 0 X.1.2.2.2.2 (gzV (aw_r18 _ (List.mem_of_getElem? (i := 10) rfl)) (aw_r18 _ (List.mem_of_getElem? (i := 11) rfl)) (aw_r18 _ (List.mem_of_getElem? (i := 12) rfl)) (aw_r1 _ (List.mem_of_getElem? (i := 5) rfl)) (aw_r18 _ (List.mem_of_getElem? (i := 13) rfl))) rfl rfl rfl hd_X6_comesBack ⟨(Nat.le_of_ble_eq_true rfl), (Nat.le_of_ble_eq_true rfl)⟩) (wg_30 G _) rfl rfl hl.1 rfl (Nat.le_of_ble_eq_true rfl) dX6_wider_54 ⟨Nat.zero_le _, Nat.zero_le _⟩ (fun σ11 H locs hw hk => ?_)
  refine lv_iload hx hb dX6_wider_57 (lv_at hl 0 rfl) ?_
  exact k_iret X hk hw dX6_wider_59
def wp_X6_wider (σ : Sg) (p1 p2 p3 : Int32) (Q : Int32 → Sg → Prop) : Prop := ∀ σ1 : Sg, σ1 = (put σ 30 0 (0 : Int32)) → (wp_X6_mayWiden σ1 p1 p2 p3 (fun r3 σ2 => (r3 = 0 → (Q (-2 : Int32) σ2)) ∧ (¬ (r3 = 0) → (wp_X6_keeps σ2  (fun σ5 => (p2 = 0 → (wp_X6_wider_41 Q  p3 ((35 : Int32) + ((5 : Int32) * p1)) (3 : Int32) σ5)) ∧ (¬ (p2 = 0) → (wp_X6_wider_41 Q  p3 ((35 : Int32) + ((5 : Int32) * p1)) (4 : Int32) σ5)))))))
set_option maxHeartbeats 4000000 in
set_option maxRecDepth 100000 in
theorem c_X6_wider (l : Launch) (G : Gw) (σ : Sg) (p1 p2 p3 : Int32) (Q : Int32 → Sg → Prop) (hw : wp_X6_wider σ p1 p2 p3 Q) : MetI l yX6_wider wz_X6_wider rm_X6_wider G σ [.ref (G.1 30), .int p1, .int p2, .int p3] Q := by
  refine MetI.of cX6_wider 5 (some .int) (by decide) rfl (Nat.le_of_ble_eq_true rfl) ?_
  intro p e s m below meth c X hk ls hl
  have X : KC p m meth c cX6_wider 5 s _ wz_X6_wider RX6 (some .int) G := X
  have hl : lv_has ls 5 [(0, .ref (G.1 30)), (1, .int p1), (2, .int p2), (3, .int p3)] := hl
  unfold wp_X6_wider at hw
  have hx := X.1.1
  have hb := X.1.2.1
  refine lv_aload_n hx hb dX6_wider_0 rfl (lv_at hl 0 rfl) ?_
  refine lv_iconst (v := (0 : Int32)) hx hb dX6_wider_1 (by decide) ?_
  refine k_put 0 X hk (wg_30 G _) rfl (hz_wsX60 _) tyX6_ok nmX6 (Nat.le_of_ble_eq_true rfl) (List.mem_cons_of_mem _ (aw_r6 _ (List.mem_of_getElem? (i := 3) rfl))) rfl rfl (Nat.le_of_ble_eq_true rfl) (ws_30_0 G _ _) dX6_wider_2 (fun H locs hk => ?_)
  obtain ⟨σ1, eσ1⟩ : ∃ y : Sg, y = (put σ 30 0 (0 : Int32)) := ⟨_, rfl⟩
  rw [← eσ1] at hk
  replace hw := hw σ1 eσ1
  refine lv_aload_n hx hb dX6_wider_5 rfl (lv_at hl 0 rfl) ?_
  refine lv_iload_n hx hb dX6_wider_6 rfl (lv_at hl 1 rfl) ?_
  refine lv_iload_n hx hb dX6_wider_7 rfl (lv_at hl 2 rfl) ?_
  refine lv_iload_n hx hb dX6_wider_8 rfl (lv_at hl 3 rfl) ?_
  refine k_callVi (rest := []) X hk (c_X6_mayWiden l G _ _ _ _ _ hw) (cwV 3 X.1.2.2.2.2 (gzV (aw_r34 _ (List.mem_of_getElem? (i := 1) rfl)) (aw_r34 _ (List.mem_of_getElem? (i := 2) rfl)) (aw_r34 _ (List.mem_of_getElem? (i := 3) rfl)) (aw_r1 _ (List.mem_of_getElem? (i := 5) rfl)) (aw_r34 _ (List.mem_of_getElem? (i := 4) rfl))) rfl rfl rfl hd_X6_mayWiden ⟨(Nat.le_of_ble_eq_true rfl), (Nat.le_of_ble_eq_true rfl)⟩) (wg_30 G _) rfl rfl hl.1 rfl (Nat.le_of_ble_eq_true rfl) dX6_wider_9 ⟨Nat.zero_le _, Nat.zero_le _⟩ (fun r3 σ2 H locs hw hk => ?_)
  refine lv_if_ne (tgt := 18) hx hb dX6_wider_12 (by decide) (fun c4 => ?_) (fun c4 => ?_)
  · replace hw := hw.2 c4
    refine lv_aload_n hx hb dX6_wider_18 rfl (lv_at hl 0 rfl) ?_
    refine k_callVv (rest := []) X hk (c_X6_keeps l G _  _ hw) (cwV 0 X.1.2.2.2.2 (gzV (aw_r14 _ (List.mem_of_getElem? (i := 14) rfl)) (aw_r14 _ (List.mem_of_getElem? (i := 15) rfl)) (aw_r14 _ (List.mem_of_getElem? (i := 16) rfl)) (aw_r1 _ (List.mem_of_getElem? (i := 5) rfl)) (aw_r14 _ (List.mem_of_getElem? (i := 17) rfl))) rfl rfl rfl hd_X6_keeps ⟨(Nat.le_of_ble_eq_true rfl), (Nat.le_of_ble_eq_true rfl)⟩) (wg_30 G _) rfl rfl hl.1 rfl (Nat.le_of_ble_eq_true rfl) dX6_wider_19 ⟨Nat.zero_le _, Nat.zero_le _⟩ (fun σ5 H locs hw hk => ?_)
    refine lv_aload_n hx hb dX6_wider_22 rfl (lv_at hl 0 rfl) ?_
    refine k_get 1 X hk (wg_30 G _) rfl (hz_wsX60 _) (Nat.le_of_ble_eq_true rfl) (List.mem_cons_of_mem _ (aw_r4 _ (List.mem_of_getElem? (i := 16) rfl))) rfl dX6_wider_23 ?_
    refine lv_bipush (v := (35 : Int32)) hx hb dX6_wider_26 (by decide) ?_
    refine lv_iconst (v := (5 : Int32)) hx hb dX6_wider_28 (by decide) ?_
    refine lv_iload_n hx hb dX6_wider_29 rfl (lv_at hl 1 rfl) ?_
    refine lv_imul hx hb dX6_wider_30 ?_
    refine lv_iadd hx hb dX6_wider_31 ?_
    refine lv_iload_n hx hb dX6_wider_32 rfl (lv_at hl 2 rfl) ?_
    refine lv_if_eq (tgt := 40) hx hb dX6_wider_33 (by decide) (fun c7 => ?_) (fun c7 => ?_)
    · replace hw := hw.1 c7
      refine lv_iconst (v := (3 : Int32)) hx hb dX6_wider_40 (by decide) ?_
      exact t_X6_wider_41 X Q   _ _ _ _ _ _ _ hw hk (lv_sub hl [0, 3] rfl)
    · replace hw := hw.2 c7
      refine lv_iconst (v := (4 : Int32)) hx hb dX6_wider_36 (by decide) ?_
      refine lv_goto (tgt := 41) hx hb dX6_wider_37 (by decide) ?_
      exact t_X6_wider_41 X Q   _ _ _ _ _ _ _ hw hk (lv_sub hl [0, 3] rfl)
  · replace hw := hw.1 c4
    refine lv_bipush (v := (-2 : Int32)) hx hb dX6_wider_15 (by decide) ?_
    exact k_iret X hk hw dX6_wider_17
def rm_X6_turned : Room := { frames := 6, cells := 0, slots := 0, locals := 133 }
abbrev wz_X6_turned : List Cond := Cond.code yX6_turned cX6_turned 4 (some .int) :: wsA
theorem hd_X6_turned : yX6_turned.cls = RX6 ∧ yX6_turned.cls ≠ "java/lang/invoke/MethodHandle" ∧ yX6_turned.cls ≠ "java/lang/invoke/VarHandle" ∧ (parseMethodDescriptor yX6_turned.desc).map (fun d => d.parameters.length) = some 2 := by decide +kernel
def wp_X6_turned (σ : Sg) (p1 p2 : Int32) (Q : Int32 → Sg → Prop) : Prop := ∀ σ1 : Sg, σ1 = (put σ 30 0 (0 : Int32)) → (wp_X6_mayTurn σ1 p1 p2 (fun r3 σ2 => (r3 = 0 → (Q (-2 : Int32) σ2)) ∧ (¬ (r3 = 0) → (wp_X6_keeps σ2  (fun σ5 => wp_X6_turnsRoad σ5 p1 p2 (fun σ7 => wp_X6_quickestNow σ7  (fun r10 σ9 => wp_X6_comesBack σ9  (fun σ11 => Q r10 σ11))))))))
set_option maxHeartbeats 4000000 in
set_option maxRecDepth 100000 in
theorem c_X6_turned (l : Launch) (G : Gw) (σ : Sg) (p1 p2 : Int32) (Q : Int32 → Sg → Prop) (hw : wp_X6_turned σ p1 p2 Q) : MetI l yX6_turned wz_X6_turned rm_X6_turned G σ [.ref (G.1 30), .int p1, .int p2] Q := by
  refine MetI.of cX6_turned 4 (some .int) (by decide) rfl (Nat.le_of_ble_eq_true rfl) ?_
  intro p e s m below meth c X hk ls hl
  have X : KC p m meth c cX6_turned 4 s _ wz_X6_turned RX6 (some .int) G := X
  have hl : lv_has ls 4 [(0, .ref (G.1 30)), (1, .int p1), (2, .int p2)] := hl
  unfold wp_X6_turned at hw
  have hx := X.1.1
  have hb := X.1.2.1
  refine lv_aload_n hx hb dX6_turned_0 rfl (lv_at hl 0 rfl) ?_
  refine lv_iconst (v := (0 : Int32)) hx hb dX6_turned_1 (by decide) ?_
  refine k_put 0 X hk (wg_30 G _) rfl (hz_wsX60 _) tyX6_ok nmX6 (Nat.le_of_ble_eq_true rfl) (List.mem_cons_of_mem _ (aw_r6 _ (List.mem_of_getElem? (i := 3) rfl))) rfl rfl (Nat.le_of_ble_eq_true rfl) (ws_30_0 G _ _) dX6_turned_2 (fun H locs hk => ?_)
  obtain ⟨σ1, eσ1⟩ : ∃ y : Sg, y = (put σ 30 0 (0 : Int32)) := ⟨_, rfl⟩
  rw [← eσ1] at hk
  replace hw := hw σ1 eσ1
  refine lv_aload_n hx hb dX6_turned_5 rfl (lv_at hl 0 rfl) ?_
  refine lv_iload_n hx hb dX6_turned_6 rfl (lv_at hl 1 rfl) ?_
  refine lv_iload_n hx hb dX6_turned_7 rfl (lv_at hl 2 rfl) ?_
  refine k_callVi (rest := []) X hk (c_X6_mayTurn l G _ _ _ _ hw) (cwV 2 X.1.2.2.2.2 (gzV (aw_r17 _ (List.mem_of_getElem? (i := 6) rfl)) (aw_r17 _ (List.mem_of_getElem? (i := 7) rfl)) (aw_r17 _ (List.mem_of_getElem? (i := 8) rfl)) (aw_r1 _ (List.mem_of_getElem? (i := 5) rfl)) (aw_r17 _ (List.mem_of_getElem? (i := 9) rfl))) rfl rfl rfl hd_X6_mayTurn ⟨(Nat.le_of_ble_eq_true rfl), (Nat.le_of_ble_eq_true rfl)⟩) (wg_30 G _) rfl rfl hl.1 rfl (Nat.le_of_ble_eq_true rfl) dX6_turned_8 ⟨Nat.zero_le _, Nat.zero_le _⟩ (fun r3 σ2 H locs hw hk => ?_)
  refine lv_if_ne (tgt := 17) hx hb dX6_turned_11 (by decide) (fun c4 => ?_) (fun c4 => ?_)
  · replace hw := hw.2 c4
    refine lv_aload_n hx hb dX6_turned_17 rfl (lv_at hl 0 rfl) ?_
    refine k_callVv (rest := []) X hk (c_X6_keeps l G _  _ hw) (cwV 0 X.1.2.2.2.2 (gzV (aw_r14 _ (List.mem_of_getElem? (i := 14) rfl)) (aw_r14 _ (List.mem_of_getElem? (i := 15) rfl)) (aw_r14 _ (List.mem_of_getElem? (i := 16) rfl)) (aw_r1 _ (List.mem_of_getElem? (i := 5) rfl)) (aw_r14 _ (List.mem_of_getElem? (i := 17) rfl))) rfl rfl rfl hd_X6_keeps ⟨(Nat.le_of_ble_eq_true rfl), (Nat.le_of_ble_eq_true rfl)⟩) (wg_30 G _) rfl rfl hl.1 rfl (Nat.le_of_ble_eq_true rfl) dX6_turned_18 ⟨Nat.zero_le _, Nat.zero_le _⟩ (fun σ5 H locs hw hk => ?_)
    refine lv_aload_n hx hb dX6_turned_21 rfl (lv_at hl 0 rfl) ?_
    refine lv_iload_n hx hb dX6_turned_22 rfl (lv_at hl 1 rfl) ?_
    refine lv_iload_n hx hb dX6_turned_23 rfl (lv_at hl 2 rfl) ?_
    refine k_callVv (rest := []) X hk (c_X6_turnsRoad l G _ _ _ _ hw) (cwV 2 X.1.2.2.2.2 (gzV (aw_r17 _ (List.mem_of_getElem? (i := 18) rfl)) (aw_r17 _ (List.mem_of_getElem? (i := 19) rfl)) (aw_r17 _ (List.mem_of_getElem? (i := 20) rfl)) (aw_r1 _ (List.mem_of_getElem? (i := 5) rfl)) (aw_r17 _ (List.mem_of_getElem? (i := 21) rfl))) rfl rfl rfl hd_X6_turnsRoad ⟨(Nat.le_of_ble_eq_true rfl), (Nat.le_of_ble_eq_true rfl)⟩) (wg_30 G _) rfl rfl hl.1 rfl (Nat.le_of_ble_eq_true rfl) dX6_turned_24 ⟨Nat.zero_le _, Nat.zero_le _⟩ (fun σ7 H locs hw hk => ?_)
    refine lv_aload_n hx hb dX6_turned_27 rfl (lv_at hl 0 rfl) ?_
    refine k_callVi (rest := []) X hk (c_X6_quickestNow l G _  _ hw) (cwV 0 X.1.2.2.2.2 (gzV (aw_r31 _ (List.mem_of_getElem? (i := 5) rfl)) (aw_r31 _ (List.mem_of_getElem? (i := 6) rfl)) (aw_r31 _ (List.mem_of_getElem? (i := 7) rfl)) (aw_r1 _ (List.mem_of_getElem? (i := 5) rfl)) (aw_r31 _ (List.mem_of_getElem? (i := 8) rfl))) rfl rfl rfl hd_X6_quickestNow ⟨(Nat.le_of_ble_eq_true rfl), (Nat.le_of_ble_eq_true rfl)⟩) (wg_30 G _) rfl rfl hl.1 rfl (Nat.le_of_ble_eq_true rfl) dX6_turned_28 ⟨Nat.zero_le _, Nat.zero_le _⟩ (fun r10 σ9 H locs hw hk => ?_)
    refine lv_istore_n (lv' := [(3, .int r10), (0, .ref (G.1 30)), (1, .int p1), (2, .int p2)]) hx hb dX6_turned_31 rfl hl (Nat.le_of_ble_eq_true rfl) rfl (fun ls hl => ?_)
    refine lv_aload_n hx hb dX6_turned_32 rfl (lv_at hl 1 rfl) ?_
    refine k_callVv (rest := []) X hk (c_X6_comesBack l G _  _ hw) (cwV 0 X.1.2.2.2.2 (gzV (aw_r18 _ (List.mem_of_getElem? (i := 10) rfl)) (aw_r18 _ (List.mem_of_getElem? (i := 11) rfl)) (aw_r18 _ (List.mem_of_getElem? (i := 12) rfl)) (aw_r1 _ (List.mem_of_getElem? (i := 5) rfl)) (aw_r18 _ (List.mem_of_getElem? (i := 13) rfl))) rfl rfl rfl hd_X6_comesBack ⟨(Nat.le_of_ble_eq_true rfl), (Nat.le_of_ble_eq_true rfl)⟩) (wg_30 G _) rfl rfl hl.1 rfl (Nat.le_of_ble_eq_true rfl) dX6_turned_33 ⟨Nat.zero_le _, Nat.zero_le _⟩ (fun σ11 H locs hw hk => ?_)
    refine lv_iload_n hx hb dX6_turned_36 rfl (lv_at hl 0 rfl) ?_
    exact k_iret X hk hw dX6_turned_37
  · replace hw := hw.1 c4
    refine lv_bipush (v := (-2 : Int32)) hx hb dX6_turned_14 (by decide) ?_
    exact k_iret X hk hw dX6_turned_16
def rm_X6_bestTurn : Room := { frames := 6, cells := 0, slots := 0, locals := 133 }
abbrev wz_X6_bestTurn : List Cond := Cond.code yX6_bestTurn cX6_bestTurn 10 (some .int) :: wsA
theorem hd_X6_bestTurn : yX6_bestTurn.cls = RX6 ∧ yX6_bestTurn.cls ≠ "java/lang/invoke/MethodHandle" ∧ yX6_bestTurn.cls ≠ "java/lang/invoke/VarHandle" ∧ (parseMethodDescriptor yX6_bestTurn.desc).map (fun d => d.parameters.length) = some 1 := by decide +kernel
def wp_X6_bestTurn_144 (Q : Int32 → Sg → Prop) (K47 : Int32 → Int32 → Int32 → Int32 → Int32 → Sg → Prop) (K57 : Int32 → Int32 → Int32 → Int32 → Int32 → Int32 → Sg → Prop) (x1 x3 x4 x5 x6 x7 : Int32) (σ : Sg) : Prop := ∀ x7_30 : Int32, x7_30 = (x7 + (1 : Int32)) → (K57 x1 x3 x4 x5 x6 x7_30 σ)
set_option maxHeartbeats 4000000 in
set_option maxRecDepth 100000 in
theorem t_X6_bestTurn_144 {p : Program} {l : Launch} {e : Env} {s : State} {m : MethodId} {args : Array Value} {below : List Frame} {meth : Method} {c : Code} {G : Gw} (X : KC p m meth c cX6_bestTurn 10 s args wz_X6_bestTurn RX6 (some .int) G) (Q : Int32 → Sg → Prop) (K47 : Int32 → Int32 → Int32 → Int32 → Int32 → Sg → Prop) (K57 : Int32 → Int32 → Int32 → Int32 → Int32 → Int32 → Sg → Prop) (hK47 : ∀ (σ : Sg) (x1 x3 x4 x5 x6 : Int32) (H : Heap) (locs : List Loc) (ls : Array Slot), K47 x1 x3 x4 x5 x6 σ → WK G s H locs σ → lv_has ls 10 [(0, .ref (G.1 30)), (1, .int x1), (3, .int x3), (4, .int x4), (5, .int x5), (6, .int x6)] → W p l e rm_X6_bestTurn s m args below meth c H locs 0 0 (ZI below args s G Q) (F0 m 47 ls [])) (hK57 : ∀ (σ : Sg) (x1 x3 x4 x5 x6 x7 : Int32) (H : Heap) (locs : List Loc) (ls : Array Slot), K57 x1 x3 x4 x5 x6 x7 σ → WK G s H locs σ → lv_has ls 10 [(0, .ref (G.1 30)), (1, .int x1), (3, .int x3), (4, .int x4), (5, .int x5), (6, .int x6), (7, .int x7)] → W p l e rm_X6_bestTurn s m args below meth c H locs 0 0 (ZI below args s G Q) (F0 m 57 ls [])) : ∀ (σ : Sg) (x1 x3 x4 x5 x6 x7 : Int32) (H : Heap) (locs : List Loc) (ls : Array Slot), wp_X6_bestTurn_144 Q K47 K57 x1 x3 x4 x5 x6 x7 σ → WK G s H locs σ → lv_has ls 10 [(0, .ref (G.1 30)), (1, .int x1), (3, .int x3), (4, .int x4), (5, .int x5), (6, .int x6), (7, .int x7)] → W p l e rm_X6_bestTurn s m args below meth c H locs 0 0 (ZI below args s G Q) (F0 m 144 ls []) := by
  have hx := X.1.1
  have hb := X.1.2.1
  intro σ x1 x3 x4 x5 x6 x7 H locs ls hw hk hl
  unfold wp_X6_bestTurn_144 at hw
  obtain ⟨x7_30, ex7_30⟩ : ∃ y : Int32, y = (x7 + (1 : Int32)) := ⟨_, rfl⟩
  replace hw := hw x7_30 ex7_30
  refine lv_iinc (v := x7_30) (lv' := [(7, .int x7_30), (0, .ref (G.1 30)), (1, .int x1), (3, .int x3), (4, .int x4), (5, .int x5), (6, .int x6)]) hx hb dX6_bestTurn_144 hl (k := 6) rfl (by rw [ex7_30]; rfl) (Nat.le_of_ble_eq_true rfl) rfl (fun ls hl => ?_)
  refine lv_goto (tgt := 57) hx hb dX6_bestTurn_147 (by decide) ?_
  exact hK57 _ _ _ _ _ _ _ _ _ _ hw hk (lv_sub hl [1, 2, 3, 4, 5, 6, 0] rfl)
def wp_X6_bestTurn_83 (Q : Int32 → Sg → Prop) (K47 : Int32 → Int32 → Int32 → Int32 → Int32 → Sg → Prop) (K57 : Int32 → Int32 → Int32 → Int32 → Int32 → Int32 → Sg → Prop) (x1 x3 x4 x5 x6 x7 y0 : Int32) (σ : Sg) : Prop := wp_X6_mayTurn σ (x7 / (2 : Int32)) y0 (fun r20 σ19 => (r20 = 0 → (wp_X6_bestTurn_144 Q K47 K57 x1 x3 x4 x5 x6 x7 σ19)) ∧ (¬ (r20 = 0) → (wp_X6_turnsRoad σ19 (x7 / (2 : Int32)) y0 (fun σ22 => wp_X6_quickestBelow σ22 x3 (fun r25 σ24 => wp_X6_comesBack σ24  (fun σ26 => (r25 = (-1 : Int32) → (wp_X6_bestTurn_144 Q K47 K57 x1 x3 x4 x5 x6 x7 σ26)) ∧ (¬ (r25 = (-1 : Int32)) → (∀ x4_29 : Int32, x4_29 = (x7 / (2 : Int32)) → (wp_X6_bestTurn_144 Q K47 K57 x1 r25 x4_29 y0 x6 x7 σ26)))))))))
set_option maxHeartbeats 4000000 in
set_option maxRecDepth 100000 in
theorem t_X6_bestTurn_83 {p : Program} {l : Launch} {e : Env} {s : State} {m : MethodId} {args : Array Value} {below : List Frame} {meth : Method} {c : Code} {G : Gw} (X : KC p m meth c cX6_bestTurn 10 s args wz_X6_bestTurn RX6 (some .int) G) (Q : Int32 → Sg → Prop) (K47 : Int32 → Int32 → Int32 → Int32 → Int32 → Sg → Prop) (K57 : Int32 → Int32 → Int32 → Int32 → Int32 → Int32 → Sg → Prop) (hK47 : ∀ (σ : Sg) (x1 x3 x4 x5 x6 : Int32) (H : Heap) (locs : List Loc) (ls : Array Slot), K47 x1 x3 x4 x5 x6 σ → WK G s H locs σ → lv_has ls 10 [(0, .ref (G.1 30)), (1, .int x1), (3, .int x3), (4, .int x4), (5, .int x5), (6, .int x6)] → W p l e rm_X6_bestTurn s m args below meth c H locs 0 0 (ZI below args s G Q) (F0 m 47 ls [])) (hK57 : ∀ (σ : Sg) (x1 x3 x4 x5 x6 x7 : Int32) (H : Heap) (locs : List Loc) (ls : Array Slot), K57 x1 x3 x4 x5 x6 x7 σ → WK G s H locs σ → lv_has ls 10 [(0, .ref (G.1 30)), (1, .int x1), (3, .int x3), (4, .int x4), (5, .int x5), (6, .int x6), (7, .int x7)] → W p l e rm_X6_bestTurn s m args below meth c H locs 0 0 (ZI below args s G Q) (F0 m 57 ls [])) : ∀ (σ : Sg) (x1 x3 x4 x5 x6 x7 y0 : Int32) (H : Heap) (locs : List Loc) (ls : Array Slot), wp_X6_bestTurn_83 Q K47 K57 x1 x3 x4 x5 x6 x7 y0 σ → WK G s H locs σ → lv_has ls 10 [(0, .ref (G.1 30)), (1, .int x1), (3, .int x3), (4, .int x4), (5, .int x5), (6, .int x6), (7, .int x7)] → W p l e rm_X6_bestTurn s m args below meth c H locs 0 0 (ZI below args s G Q) (F0 m 83 ls [.int y0]) := by
  have hx := X.1.1
  have hb := X.1.2.1
  intro σ x1 x3 x4 x5 x6 x7 y0 H locs ls hw hk hl
  unfold wp_X6_bestTurn_83 at hw
  refine lv_istore (lv' := [(8, .int y0), (0, .ref (G.1 30)), (1, .int x1), (3, .int x3), (4, .int x4), (5, .int x5), (6, .int x6), (7, .int x7)]) hx hb dX6_bestTurn_83 hl (Nat.le_of_ble_eq_true rfl) rfl (fun ls hl => ?_)
  refine lv_aload_n hx hb dX6_bestTurn_85 rfl (lv_at hl 1 rfl) ?_
  refine lv_iload hx hb dX6_bestTurn_86 (lv_at hl 7 rfl) ?_
  refine lv_iconst (v := (2 : Int32)) hx hb dX6_bestTurn_88 (by decide) ?_
  refine lv_idiv hx hb dX6_bestTurn_89 (by decide) ?_
  refine lv_iload hx hb dX6_bestTurn_90 (lv_at hl 0 rfl) ?_
  refine k_callVi (rest := []) X hk (c_X6_mayTurn l G _ _ _ _ hw) (cwV 2 X.1.2.2.2.2 (gzV (aw_r17 _ (List.mem_of_getElem? (i := 6) rfl)) (aw_r17 _ (List.mem_of_getElem? (i := 7) rfl)) (aw_r17 _ (List.mem_of_getElem? (i := 8) rfl)) (aw_r1 _ (List.mem_of_getElem? (i := 5) rfl)) (aw_r17 _ (List.mem_of_getElem? (i := 9) rfl))) rfl rfl rfl hd_X6_mayTurn ⟨(Nat.le_of_ble_eq_true rfl), (Nat.le_of_ble_eq_true rfl)⟩) (wg_30 G _) rfl rfl hl.1 rfl (Nat.le_of_ble_eq_true rfl) dX6_bestTurn_92 ⟨Nat.zero_le _, Nat.zero_le _⟩ (fun r20 σ19 H locs hw hk => ?_)
  refine lv_if_ne (tgt := 101) hx hb dX6_bestTurn_95 (by decide) (fun c21 => ?_) (fun c21 => ?_)
  · replace hw := hw.2 c21
    refine lv_aload_n hx hb dX6_bestTurn_101 rfl (lv_at hl 1 rfl) ?_
    refine lv_iload hx hb dX6_bestTurn_102 (lv_at hl 7 rfl) ?_
    refine lv_iconst (v := (2 : Int32)) hx hb dX6_bestTurn_104 (by decide) ?_
    refine lv_idiv hx hb dX6_bestTurn_105 (by decide) ?_
    refine lv_iload hx hb dX6_bestTurn_106 (lv_at hl 0 rfl) ?_
    refine k_callVv (rest := []) X hk (c_X6_turnsRoad l G _ _ _ _ hw) (cwV 2 X.1.2.2.2.2 (gzV (aw_r17 _ (List.mem_of_getElem? (i := 18) rfl)) (aw_r17 _ (List.mem_of_getElem? (i := 19) rfl)) (aw_r17 _ (List.mem_of_getElem? (i := 20) rfl)) (aw_r1 _ (List.mem_of_getElem? (i := 5) rfl)) (aw_r17 _ (List.mem_of_getElem? (i := 21) rfl))) rfl rfl rfl hd_X6_turnsRoad ⟨(Nat.le_of_ble_eq_true rfl), (Nat.le_of_ble_eq_true rfl)⟩) (wg_30 G _) rfl rfl hl.1 rfl (Nat.le_of_ble_eq_true rfl) dX6_bestTurn_108 ⟨Nat.zero_le _, Nat.zero_le _⟩ (fun σ22 H locs hw hk => ?_)
    refine lv_aload_n hx hb dX6_bestTurn_111 rfl (lv_at hl 1 rfl) ?_
    refine lv_iload_n hx hb dX6_bestTurn_112 rfl (lv_at hl 3 rfl) ?_
    refine k_callVi (rest := []) X hk (c_X6_quickestBelow l G _ _ _ hw) (cwV 1 X.1.2.2.2.2 (gzV (aw_r31 _ (List.mem_of_getElem? (i := 9) rfl)) (aw_r31 _ (List.mem_of_getElem? (i := 10) rfl)) (aw_r31 _ (List.mem_of_getElem? (i := 11) rfl)) (aw_r1 _ (List.mem_of_getElem? (i := 5) rfl)) (aw_r31 _ (List.mem_of_getElem? (i := 12) rfl))) rfl rfl rfl hd_X6_quickestBelow ⟨(Nat.le_of_ble_eq_true rfl), (Nat.le_of_ble_eq_true rfl)⟩) (wg_30 G _) rfl rfl hl.1 rfl (Nat.le_of_ble_eq_true rfl) dX6_bestTurn_113 ⟨Nat.zero_le _, Nat.zero_le _⟩ (fun r25 σ24 H locs hw hk => ?_)
    refine lv_istore (lv' := [(9, .int r25), (8, .int y0), (0, .ref (G.1 30)), (1, .int x1), (3, .int x3), (4, .int x4), (5, .int x5), (6, .int x6), (7, .int x7)]) hx hb dX6_bestTurn_116 hl (Nat.le_of_ble_eq_true rfl) rfl (fun ls hl => ?_)
    refine lv_aload_n hx hb dX6_bestTurn_118 rfl (lv_at hl 2 rfl) ?_
    refine k_callVv (rest := []) X hk (c_X6_comesBack l G _  _ hw) (cwV 0 X.1.2.2.2.2 (gzV (aw_r18 _ (List.mem_of_getElem? (i := 10) rfl)) (aw_r18 _ (List.mem_of_getElem? (i := 11) rfl)) (aw_r18 _ (List.mem_of_getElem? (i := 12) rfl)) (aw_r1 _ (List.mem_of_getElem? (i := 5) rfl)) (aw_r18 _ (List.mem_of_getElem? (i := 13) rfl))) rfl rfl rfl hd_X6_comesBack ⟨(Nat.le_of_ble_eq_true rfl), (Nat.le_of_ble_eq_true rfl)⟩) (wg_30 G _) rfl rfl hl.1 rfl (Nat.le_of_ble_eq_true rfl) dX6_bestTurn_119 ⟨Nat.zero_le _, Nat.zero_le _⟩ (fun σ26 H locs hw hk => ?_)
    refine lv_iload hx hb dX6_bestTurn_122 (lv_at hl 0 rfl) ?_
    refine lv_iconst (v := (-1 : Int32)) hx hb dX6_bestTurn_124 (by decide) ?_
    refine lv_icmp_ne (tgt := 131) hx hb dX6_bestTurn_125 (by decide) (fun c28 => ?_) (fun c28 => ?_)
    · replace hw := hw.2 c28
      refine lv_iload hx hb dX6_bestTurn_131 (lv_at hl 0 rfl) ?_
      refine lv_istore_n (lv' := [(3, .int r25), (9, .int r25), (8, .int y0), (0, .ref (G.1 30)), (1, .int x1), (4, .int x4), (5, .int x5), (6, .int x6), (7, .int x7)]) hx hb dX6_bestTurn_133 rfl hl (Nat.le_of_ble_eq_true rfl) rfl (fun ls hl => ?_)
      refine lv_iload hx hb dX6_bestTurn_134 (lv_at hl 8 rfl) ?_
      refine lv_iconst (v := (2 : Int32)) hx hb dX6_bestTurn_136 (by decide) ?_
      refine lv_idiv hx hb dX6_bestTurn_137 (by decide) ?_
      refine lv_topi (fun x4_29 ex4_29 => ?_)
      replace hw := hw x4_29 ex4_29
      refine lv_istore (lv' := [(4, .int x4_29), (3, .int r25), (9, .int r25), (8, .int y0), (0, .ref (G.1 30)), (1, .int x1), (5, .int x5), (6, .int x6), (7, .int x7)]) hx hb dX6_bestTurn_138 hl (Nat.le_of_ble_eq_true rfl) rfl (fun ls hl => ?_)
      refine lv_iload hx hb dX6_bestTurn_140 (lv_at hl 3 rfl) ?_
      refine lv_istore (lv' := [(5, .int y0), (4, .int x4_29), (3, .int r25), (9, .int r25), (8, .int y0), (0, .ref (G.1 30)), (1, .int x1), (6, .int x6), (7, .int x7)]) hx hb dX6_bestTurn_142 hl (Nat.le_of_ble_eq_true rfl) rfl (fun ls hl => ?_)
      exact t_X6_bestTurn_144 X Q _ _ hK47 hK57 _ _ _ _ _ _ _ _ _ _ hw hk (lv_sub hl [5, 6, 2, 1, 0, 7, 8] rfl)
    · replace hw := hw.1 c28
      refine lv_goto (tgt := 144) hx hb dX6_bestTurn_128 (by decide) ?_
      exact t_X6_bestTurn_144 X Q _ _ hK47 hK57 _ _ _ _ _ _ _ _ _ _ hw hk (lv_sub hl [2, 3, 4, 5, 6, 7, 8] rfl)
  · replace hw := hw.1 c21
    refine lv_goto (tgt := 144) hx hb dX6_bestTurn_98 (by decide) ?_
    exact t_X6_bestTurn_144 X Q _ _ hK47 hK57 _ _ _ _ _ _ _ _ _ _ hw hk (lv_sub hl [1, 2, 3, 4, 5, 6, 7] rfl)
def wp_X6_bestTurn_57 (Q : Int32 → Sg → Prop) (K47 : Int32 → Int32 → Int32 → Int32 → Int32 → Sg → Prop) : Nat → Int32 → Int32 → Int32 → Int32 → Int32 → Int32 → Sg → Prop
  | 0, _, _, _, _, _, _, _ => False
  | n + 1, x1, x3, x4, x5, x6, x7, σ => wp_X6_roads σ  (fun r15 σ14 => (((2 : Int32) * r15) ≤ x7 → (∀ x6_17 : Int32, x6_17 = (x6 + (1 : Int32)) → (K47 x1 x3 x4 x5 x6_17 σ14))) ∧ (¬ (((2 : Int32) * r15) ≤ x7) → (((x7 - x7 / (2 : Int32) * (2 : Int32)) = 0 → (wp_X6_bestTurn_83 Q K47 (fun z1 z3 z4 z5 z6 z7 σ => wp_X6_bestTurn_57 Q K47 n z1 z3 z4 z5 z6 z7 σ) x1 x3 x4 x5 x6 x7 x6 σ14)) ∧ (¬ ((x7 - x7 / (2 : Int32) * (2 : Int32)) = 0) → (wp_X6_bestTurn_83 Q K47 (fun z1 z3 z4 z5 z6 z7 σ => wp_X6_bestTurn_57 Q K47 n z1 z3 z4 z5 z6 z7 σ) x1 x3 x4 x5 x6 x7 (-x6) σ14)))))
set_option maxHeartbeats 4000000 in
set_option maxRecDepth 100000 in
theorem t_X6_bestTurn_57 {p : Program} {l : Launch} {e : Env} {s : State} {m : MethodId} {args : Array Value} {below : List Frame} {meth : Method} {c : Code} {G : Gw} (X : KC p m meth c cX6_bestTurn 10 s args wz_X6_bestTurn RX6 (some .int) G) (Q : Int32 → Sg → Prop) (K47 : Int32 → Int32 → Int32 → Int32 → Int32 → Sg → Prop) (hK47 : ∀ (σ : Sg) (x1 x3 x4 x5 x6 : Int32) (H : Heap) (locs : List Loc) (ls : Array Slot), K47 x1 x3 x4 x5 x6 σ → WK G s H locs σ → lv_has ls 10 [(0, .ref (G.1 30)), (1, .int x1), (3, .int x3), (4, .int x4), (5, .int x5), (6, .int x6)] → W p l e rm_X6_bestTurn s m args below meth c H locs 0 0 (ZI below args s G Q) (F0 m 47 ls [])) : ∀ (n : Nat) (σ : Sg) (x1 x3 x4 x5 x6 x7 : Int32) (H : Heap) (locs : List Loc) (ls : Array Slot), wp_X6_bestTurn_57 Q K47 n x1 x3 x4 x5 x6 x7 σ → WK G s H locs σ → lv_has ls 10 [(0, .ref (G.1 30)), (1, .int x1), (3, .int x3), (4, .int x4), (5, .int x5), (6, .int x6), (7, .int x7)] → W p l e rm_X6_bestTurn s m args below meth c H locs 0 0 (ZI below args s G Q) (F0 m 57 ls []) := by
  have hx := X.1.1
  have hb := X.1.2.1
  intro n
  induction n with
  | zero =>
    intro σ x1 x3 x4 x5 x6 x7 H locs ls hw hk hl
    exact False.elim hw
  | succ n ih =>
    intro σ x1 x3 x4 x5 x6 x7 H locs ls hw hk hl
    rw [wp_X6_bestTurn_57] at hw
    refine lv_iload hx hb dX6_bestTurn_57 (lv_at hl 6 rfl) ?_
    refine lv_iconst (v := (2 : Int32)) hx hb dX6_bestTurn_59 (by decide) ?_
    refine lv_aload_n hx hb dX6_bestTurn_60 rfl (lv_at hl 0 rfl) ?_
    refine k_callVi (rest := [.int (2 : Int32), .int x7]) X hk (c_X6_roads l G _  _ hw) (cwV 0 X.1.2.2.2.2 (gzV (aw_r16 _ (List.mem_of_getElem? (i := 18) rfl)) (aw_r16 _ (List.mem_of_getElem? (i := 19) rfl)) (aw_r16 _ (List.mem_of_getElem? (i := 20) rfl)) (aw_r1 _ (List.mem_of_getElem? (i := 5) rfl)) (aw_r16 _ (List.mem_of_getElem? (i := 21) rfl))) rfl rfl rfl hd_X6_roads ⟨(Nat.le_of_ble_eq_true rfl), (Nat.le_of_ble_eq_true rfl)⟩) (wg_30 G _) rfl rfl hl.1 rfl (Nat.le_of_ble_eq_true rfl) dX6_bestTurn_61 ⟨Nat.zero_le _, Nat.zero_le _⟩ (fun r15 σ14 H locs hw hk => ?_)
    refine lv_imul hx hb dX6_bestTurn_64 ?_
    refine lv_icmp_ge (tgt := 150) hx hb dX6_bestTurn_65 (by decide) (fun c16 => ?_) (fun c16 => ?_)
    · replace hw := hw.1 c16
      obtain ⟨x6_17, ex6_17⟩ : ∃ y : Int32, y = (x6 + (1 : Int32)) := ⟨_, rfl⟩
      replace hw := hw x6_17 ex6_17
      refine lv_iinc (v := x6_17) (lv' := [(6, .int x6_17), (0, .ref (G.1 30)), (1, .int x1), (3, .int x3), (4, .int x4), (5, .int x5), (7, .int x7)]) hx hb dX6_bestTurn_150 hl (k := 5) rfl (by rw [ex6_17]; rfl) (Nat.le_of_ble_eq_true rfl) rfl (fun ls hl => ?_)
      refine lv_goto (tgt := 47) hx hb dX6_bestTurn_153 (by decide) ?_
      exact hK47 _ _ _ _ _ _ _ _ _ hw hk (lv_sub hl [1, 2, 3, 4, 5, 0] rfl)
    · replace hw := hw.2 c16
      refine lv_iload hx hb dX6_bestTurn_68 (lv_at hl 6 rfl) ?_
      refine lv_iconst (v := (2 : Int32)) hx hb dX6_bestTurn_70 (by decide) ?_
      refine lv_irem hx hb dX6_bestTurn_71 (by decide) ?_
      refine lv_if_ne (tgt := 80) hx hb dX6_bestTurn_72 (by decide) (fun c18 => ?_) (fun c18 => ?_)
      · replace hw := hw.2 c18
        refine lv_iload hx hb dX6_bestTurn_80 (lv_at hl 5 rfl) ?_
        refine lv_ineg hx hb dX6_bestTurn_82 ?_
        exact t_X6_bestTurn_83 X Q _ _ hK47 ih _ _ _ _ _ _ _ _ _ _ _ hw hk hl
      · replace hw := hw.1 c18
        refine lv_iload hx hb dX6_bestTurn_75 (lv_at hl 5 rfl) ?_
        refine lv_goto (tgt := 83) hx hb dX6_bestTurn_77 (by decide) ?_
        exact t_X6_bestTurn_83 X Q _ _ hK47 ih _ _ _ _ _ _ _ _ _ _ _ hw hk hl
def wp_X6_bestTurn_47 (Q : Int32 → Sg → Prop)  : Nat → Int32 → Int32 → Int32 → Int32 → Int32 → Sg → Prop
  | 0, _, _, _, _, _, _ => False
  | n + 1, x1, x3, x4, x5, x6, σ => ((99 : Int32) ≤ x6 → ((x4 = (-1 : Int32) → (Q (-2 : Int32) σ)) ∧ (¬ (x4 = (-1 : Int32)) → ((x1 = 0 → (Q x3 σ)) ∧ (¬ (x1 = 0) → ((x1 = (1 : Int32) → (Q x4 σ)) ∧ (¬ (x1 = (1 : Int32)) → (Q x5 σ)))))))) ∧ (¬ ((99 : Int32) ≤ x6) → (∃ n0, wp_X6_bestTurn_57 Q (fun z1 z3 z4 z5 z6 σ => wp_X6_bestTurn_47 Q  n z1 z3 z4 z5 z6 σ) n0 x1 x3 x4 x5 x6 (0 : Int32) σ))
set_option maxHeartbeats 4000000 in
set_option maxRecDepth 100000 in
theorem t_X6_bestTurn_47 {p : Program} {l : Launch} {e : Env} {s : State} {m : MethodId} {args : Array Value} {below : List Frame} {meth : Method} {c : Code} {G : Gw} (X : KC p m meth c cX6_bestTurn 10 s args wz_X6_bestTurn RX6 (some .int) G) (Q : Int32 → Sg → Prop)  : ∀ (n : Nat) (σ : Sg) (x1 x3 x4 x5 x6 : Int32) (H : Heap) (locs : List Loc) (ls : Array Slot), wp_X6_bestTurn_47 Q  n x1 x3 x4 x5 x6 σ → WK G s H locs σ → lv_has ls 10 [(0, .ref (G.1 30)), (1, .int x1), (3, .int x3), (4, .int x4), (5, .int x5), (6, .int x6)] → W p l e rm_X6_bestTurn s m args below meth c H locs 0 0 (ZI below args s G Q) (F0 m 47 ls []) := by
  have hx := X.1.1
  have hb := X.1.2.1
  intro n
  induction n with
  | zero =>
    intro σ x1 x3 x4 x5 x6 H locs ls hw hk hl
    exact False.elim hw
  | succ n ih =>
    intro σ x1 x3 x4 x5 x6 H locs ls hw hk hl
    rw [wp_X6_bestTurn_47] at hw
    refine lv_iload hx hb dX6_bestTurn_47 (lv_at hl 5 rfl) ?_
    refine lv_bipush (v := (99 : Int32)) hx hb dX6_bestTurn_49 (by decide) ?_
    refine lv_icmp_ge (tgt := 156) hx hb dX6_bestTurn_51 (by decide) (fun c10 => ?_) (fun c10 => ?_)
    · replace hw := hw.1 c10
      refine lv_iload hx hb dX6_bestTurn_156 (lv_at hl 3 rfl) ?_
      refine lv_iconst (v := (-1 : Int32)) hx hb dX6_bestTurn_158 (by decide) ?_
      refine lv_icmp_ne (tgt := 165) hx hb dX6_bestTurn_159 (by decide) (fun c11 => ?_) (fun c11 => ?_)
      · replace hw := hw.2 c11
        refine lv_iload_n hx hb dX6_bestTurn_165 rfl (lv_at hl 1 rfl) ?_
        refine lv_if_ne (tgt := 173) hx hb dX6_bestTurn_166 (by decide) (fun c12 => ?_) (fun c12 => ?_)
        · replace hw := hw.2 c12
          refine lv_iload_n hx hb dX6_bestTurn_173 rfl (lv_at hl 1 rfl) ?_
          refine lv_iconst (v := (1 : Int32)) hx hb dX6_bestTurn_174 (by decide) ?_
          refine lv_icmp_ne (tgt := 183) hx hb dX6_bestTurn_175 (by decide) (fun c13 => ?_) (fun c13 => ?_)
          · replace hw := hw.2 c13
            refine lv_iload hx hb dX6_bestTurn_183 (lv_at hl 4 rfl) ?_
            exact k_iret X hk hw dX6_bestTurn_185
          · replace hw := hw.1 c13
            refine lv_iload hx hb dX6_bestTurn_178 (lv_at hl 3 rfl) ?_
            refine lv_goto (tgt := 185) hx hb dX6_bestTurn_180 (by decide) ?_
            exact k_iret X hk hw dX6_bestTurn_185
        · replace hw := hw.1 c12
          refine lv_iload_n hx hb dX6_bestTurn_169 rfl (lv_at hl 2 rfl) ?_
          refine lv_goto (tgt := 185) hx hb dX6_bestTurn_170 (by decide) ?_
          exact k_iret X hk hw dX6_bestTurn_185
      · replace hw := hw.1 c11
        refine lv_bipush (v := (-2 : Int32)) hx hb dX6_bestTurn_162 (by decide) ?_
        exact k_iret X hk hw dX6_bestTurn_164
    · replace hw := hw.2 c10
      refine lv_iconst (v := (0 : Int32)) hx hb dX6_bestTurn_54 (by decide) ?_
      refine lv_istore (lv' := [(7, .int (0 : Int32)), (0, .ref (G.1 30)), (1, .int x1), (3, .int x3), (4, .int x4), (5, .int x5), (6, .int x6)]) hx hb dX6_bestTurn_55 hl (Nat.le_of_ble_eq_true rfl) rfl (fun ls hl => ?_)
      obtain ⟨n0, hw⟩ := hw
      exact t_X6_bestTurn_57 X Q _ ih n0 _ _ _ _ _ _ _ _ _ _ hw hk (lv_sub hl [1, 2, 3, 4, 5, 6, 0] rfl)
def wp_X6_bestTurn_33 (Q : Int32 → Sg → Prop)  (x1 y0 : Int32) (σ : Sg) : Prop := wp_X6_keeps σ  (fun σ8 => ∃ n0, wp_X6_bestTurn_47 Q  n0 x1 y0 (-1 : Int32) (0 : Int32) (1 : Int32) σ8)
set_option maxHeartbeats 4000000 in
set_option maxRecDepth 100000 in
theorem t_X6_bestTurn_33 {p : Program} {l : Launch} {e : Env} {s : State} {m : MethodId} {args : Array Value} {below : List Frame} {meth : Method} {c : Code} {G : Gw} (X : KC p m meth c cX6_bestTurn 10 s args wz_X6_bestTurn RX6 (some .int) G) (Q : Int32 → Sg → Prop)  : ∀ (σ : Sg) (x1 y0 : Int32) (H : Heap) (locs : List Loc) (ls : Array Slot), wp_X6_bestTurn_33 Q  x1 y0 σ → WK G s H locs σ → lv_has ls 10 [(0, .ref (G.1 30)), (1, .int x1)] → W p l e rm_X6_bestTurn s m args below meth c H locs 0 0 (ZI below args s G Q) (F0 m 33 ls [.int y0]) := by
  have hx := X.1.1
  have hb := X.1.2.1
  intro σ x1 y0 H locs ls hw hk hl
  unfold wp_X6_bestTurn_33 at hw
  refine lv_istore_n (lv' := [(3, .int y0), (0, .ref (G.1 30)), (1, .int x1)]) hx hb dX6_bestTurn_33 rfl hl (Nat.le_of_ble_eq_true rfl) rfl (fun ls hl => ?_)
  refine lv_iconst (v := (-1 : Int32)) hx hb dX6_bestTurn_34 (by decide) ?_
  refine lv_istore (lv' := [(4, .int (-1 : Int32)), (3, .int y0), (0, .ref (G.1 30)), (1, .int x1)]) hx hb dX6_bestTurn_35 hl (Nat.le_of_ble_eq_true rfl) rfl (fun ls hl => ?_)
  refine lv_iconst (v := (0 : Int32)) hx hb dX6_bestTurn_37 (by decide) ?_
  refine lv_istore (lv' := [(5, .int (0 : Int32)), (4, .int (-1 : Int32)), (3, .int y0), (0, .ref (G.1 30)), (1, .int x1)]) hx hb dX6_bestTurn_38 hl (Nat.le_of_ble_eq_true rfl) rfl (fun ls hl => ?_)
  refine lv_aload_n hx hb dX6_bestTurn_40 rfl (lv_at hl 3 rfl) ?_
  refine k_callVv (rest := []) X hk (c_X6_keeps l G _  _ hw) (cwV 0 X.1.2.2.2.2 (gzV (aw_r14 _ (List.mem_of_getElem? (i := 14) rfl)) (aw_r14 _ (List.mem_of_getElem? (i := 15) rfl)) (aw_r14 _ (List.mem_of_getElem? (i := 16) rfl)) (aw_r1 _ (List.mem_of_getElem? (i := 5) rfl)) (aw_r14 _ (List.mem_of_getElem? (i := 17) rfl))) rfl rfl rfl hd_X6_keeps ⟨(Nat.le_of_ble_eq_true rfl), (Nat.le_of_ble_eq_true rfl)⟩) (wg_30 G _) rfl rfl hl.1 rfl (Nat.le_of_ble_eq_true rfl) dX6_bestTurn_41 ⟨Nat.zero_le _, Nat.zero_le _⟩ (fun σ8 H locs hw hk => ?_)
  refine lv_iconst (v := (1 : Int32)) hx hb dX6_bestTurn_44 (by decide) ?_
  refine lv_istore (lv' := [(6, .int (1 : Int32)), (5, .int (0 : Int32)), (4, .int (-1 : Int32)), (3, .int y0), (0, .ref (G.1 30)), (1, .int x1)]) hx hb dX6_bestTurn_45 hl (Nat.le_of_ble_eq_true rfl) rfl (fun ls hl => ?_)
  obtain ⟨n0, hw⟩ := hw
  exact t_X6_bestTurn_47 X Q   n0 _ _ _ _ _ _ _ _ _ hw hk (lv_sub hl [4, 5, 3, 2, 1, 0] rfl)
def wp_X6_bestTurn (σ : Sg) (p1 : Int32) (Q : Int32 → Sg → Prop) : Prop := ∀ σ1 : Sg, σ1 = (put σ 30 0 (0 : Int32)) → (wp_X6_isIn σ1 p1 (0 : Int32) (2 : Int32) (fun r3 σ2 => (r3 = 0 → (Q (-2 : Int32) σ2)) ∧ (¬ (r3 = 0) → (wp_X6_quickestNow σ2  (fun r6 σ5 => (r6 = (-1 : Int32) → (wp_X6_bestTurn_33 Q  p1 (41 : Int32) σ5)) ∧ (¬ (r6 = (-1 : Int32)) → (wp_X6_bestTurn_33 Q  p1 r6 σ5)))))))
set_option maxHeartbeats 4000000 in
set_option maxRecDepth 100000 in
theorem c_X6_bestTurn (l : Launch) (G : Gw) (σ : Sg) (p1 : Int32) (Q : Int32 → Sg → Prop) (hw : wp_X6_bestTurn σ p1 Q) : MetI l yX6_bestTurn wz_X6_bestTurn rm_X6_bestTurn G σ [.ref (G.1 30), .int p1] Q := by
  refine MetI.of cX6_bestTurn 10 (some .int) (by decide) rfl (Nat.le_of_ble_eq_true rfl) ?_
  intro p e s m below meth c X hk ls hl
  have X : KC p m meth c cX6_bestTurn 10 s _ wz_X6_bestTurn RX6 (some .int) G := X
  have hl : lv_has ls 10 [(0, .ref (G.1 30)), (1, .int p1)] := hl
  unfold wp_X6_bestTurn at hw
  have hx := X.1.1
  have hb := X.1.2.1
  refine lv_aload_n hx hb dX6_bestTurn_0 rfl (lv_at hl 0 rfl) ?_
  refine lv_iconst (v := (0 : Int32)) hx hb dX6_bestTurn_1 (by decide) ?_
  refine k_put 0 X hk (wg_30 G _) rfl (hz_wsX60 _) tyX6_ok nmX6 (Nat.le_of_ble_eq_true rfl) (List.mem_cons_of_mem _ (aw_r6 _ (List.mem_of_getElem? (i := 3) rfl))) rfl rfl (Nat.le_of_ble_eq_true rfl) (ws_30_0 G _ _) dX6_bestTurn_2 (fun H locs hk => ?_)
  obtain ⟨σ1, eσ1⟩ : ∃ y : Sg, y = (put σ 30 0 (0 : Int32)) := ⟨_, rfl⟩
  rw [← eσ1] at hk
  replace hw := hw σ1 eσ1
  refine lv_iload_n hx hb dX6_bestTurn_5 rfl (lv_at hl 1 rfl) ?_
  refine lv_iconst (v := (0 : Int32)) hx hb dX6_bestTurn_6 (by decide) ?_
  refine lv_iconst (v := (2 : Int32)) hx hb dX6_bestTurn_7 (by decide) ?_
  refine k_callSi (rest := []) X hk (c_X6_isIn l G _ _ _ _ _ hw) (va_cwS 3 X.1.2.2.2.2 (gzS (aw_r6 _ (List.mem_of_getElem? (i := 17) rfl)) (aw_r6 _ (List.mem_of_getElem? (i := 18) rfl)) (aw_r1 _ (List.mem_of_getElem? (i := 5) rfl)) (aw_r6 _ (List.mem_of_getElem? (i := 19) rfl))) rfl rfl rfl hds_X6_isIn ⟨(Nat.le_of_ble_eq_true rfl), (Nat.le_of_ble_eq_true rfl)⟩) rfl hl.1 rfl (Nat.le_of_ble_eq_true rfl) dX6_bestTurn_8 ⟨Nat.zero_le _, Nat.zero_le _⟩ (fun r3 σ2 H locs hw hk => ?_)
  refine lv_if_ne (tgt := 17) hx hb dX6_bestTurn_11 (by decide) (fun c4 => ?_) (fun c4 => ?_)
  · replace hw := hw.2 c4
    refine lv_aload_n hx hb dX6_bestTurn_17 rfl (lv_at hl 0 rfl) ?_
    refine k_callVi (rest := []) X hk (c_X6_quickestNow l G _  _ hw) (cwV 0 X.1.2.2.2.2 (gzV (aw_r31 _ (List.mem_of_getElem? (i := 5) rfl)) (aw_r31 _ (List.mem_of_getElem? (i := 6) rfl)) (aw_r31 _ (List.mem_of_getElem? (i := 7) rfl)) (aw_r1 _ (List.mem_of_getElem? (i := 5) rfl)) (aw_r31 _ (List.mem_of_getElem? (i := 8) rfl))) rfl rfl rfl hd_X6_quickestNow ⟨(Nat.le_of_ble_eq_true rfl), (Nat.le_of_ble_eq_true rfl)⟩) (wg_30 G _) rfl rfl hl.1 rfl (Nat.le_of_ble_eq_true rfl) dX6_bestTurn_18 ⟨Nat.zero_le _, Nat.zero_le _⟩ (fun r6 σ5 H locs hw hk => ?_)
    refine lv_istore_n (lv' := [(2, .int r6), (0, .ref (G.1 30)), (1, .int p1)]) hx hb dX6_bestTurn_21 rfl hl (Nat.le_of_ble_eq_true rfl) rfl (fun ls hl => ?_)
    refine lv_iload_n hx hb dX6_bestTurn_22 rfl (lv_at hl 0 rfl) ?_
    refine lv_iconst (v := (-1 : Int32)) hx hb dX6_bestTurn_23 (by decide) ?_
    refine lv_icmp_ne (tgt := 32) hx hb dX6_bestTurn_24 (by decide) (fun c7 => ?_) (fun c7 => ?_)
    · replace hw := hw.2 c7
      refine lv_iload_n hx hb dX6_bestTurn_32 rfl (lv_at hl 0 rfl) ?_
      exact t_X6_bestTurn_33 X Q   _ _ _ _ _ _ hw hk (lv_sub hl [1, 2] rfl)
    · replace hw := hw.1 c7
      refine lv_bipush (v := (41 : Int32)) hx hb dX6_bestTurn_27 (by decide) ?_
      refine lv_goto (tgt := 33) hx hb dX6_bestTurn_29 (by decide) ?_
      exact t_X6_bestTurn_33 X Q   _ _ _ _ _ _ hw hk (lv_sub hl [1, 2] rfl)
  · replace hw := hw.1 c4
    refine lv_bipush (v := (-2 : Int32)) hx hb dX6_bestTurn_14 (by decide) ?_
    exact k_iret X hk hw dX6_bestTurn_16
def rm_X6_bits : Room := { frames := 0, cells := 0, slots := 0, locals := 0 }
abbrev wz_X6_bits : List Cond := Cond.code yX6_bits cX6_bits 3 (some .int) :: wsA
theorem hds_X6_bits : yX6_bits.cls ≠ "java/lang/invoke/MethodHandle" ∧ yX6_bits.cls ≠ "java/lang/invoke/VarHandle" ∧ (parseMethodDescriptor yX6_bits.desc).map (fun d => d.parameters.length) = some 1 := by decide +kernel
def wp_X6_bits_4 (Q : Int32 → Sg → Prop)  : Nat → Int32 → Int32 → Sg → Prop
  | 0, _, _, _ => False
  | n + 1, x1, x2, σ => (x2 ≤ 0 → (Q x1 σ)) ∧ (¬ (x2 ≤ 0) → (∀ x1_2 : Int32, x1_2 = (x1 + (x2 - x2 / (2 : Int32) * (2 : Int32))) → (∀ x2_3 : Int32, x2_3 = (x2 / (2 : Int32)) → (wp_X6_bits_4 Q  n x1_2 x2_3 σ))))
set_option maxHeartbeats 4000000 in
set_option maxRecDepth 100000 in
theorem t_X6_bits_4 {p : Program} {l : Launch} {e : Env} {s : State} {m : MethodId} {args : Array Value} {below : List Frame} {meth : Method} {c : Code} {G : Gw} (X : KC p m meth c cX6_bits 3 s args wz_X6_bits RX6 (some .int) G) (Q : Int32 → Sg → Prop)  : ∀ (n : Nat) (σ : Sg) (x1 x2 : Int32) (H : Heap) (locs : List Loc) (ls : Array Slot), wp_X6_bits_4 Q  n x1 x2 σ → WK G s H locs σ → lv_has ls 3 [(1, .int x1), (2, .int x2)] → W p l e rm_X6_bits s m args below meth c H locs 0 0 (ZI below args s G Q) (F0 m 4 ls []) := by
  have hx := X.1.1
  have hb := X.1.2.1
  intro n
  induction n with
  | zero =>
    intro σ x1 x2 H locs ls hw hk hl
    exact False.elim hw
  | succ n ih =>
    intro σ x1 x2 H locs ls hw hk hl
    rw [wp_X6_bits_4] at hw
    refine lv_iload_n hx hb dX6_bits_4 rfl (lv_at hl 1 rfl) ?_
    refine lv_if_le (tgt := 21) hx hb dX6_bits_5 (by decide) (fun c1 => ?_) (fun c1 => ?_)
    · replace hw := hw.1 c1
      refine lv_iload_n hx hb dX6_bits_21 rfl (lv_at hl 0 rfl) ?_
      exact k_iret X hk hw dX6_bits_22
    · replace hw := hw.2 c1
      refine lv_iload_n hx hb dX6_bits_8 rfl (lv_at hl 0 rfl) ?_
      refine lv_iload_n hx hb dX6_bits_9 rfl (lv_at hl 1 rfl) ?_
      refine lv_iconst (v := (2 : Int32)) hx hb dX6_bits_10 (by decide) ?_
      refine lv_irem hx hb dX6_bits_11 (by decide) ?_
      refine lv_iadd hx hb dX6_bits_12 ?_
      refine lv_topi (fun x1_2 ex1_2 => ?_)
      replace hw := hw x1_2 ex1_2
      refine lv_istore_n (lv' := [(1, .int x1_2), (2, .int x2)]) hx hb dX6_bits_13 rfl hl (Nat.le_of_ble_eq_true rfl) rfl (fun ls hl => ?_)
      refine lv_iload_n hx hb dX6_bits_14 rfl (lv_at hl 1 rfl) ?_
      refine lv_iconst (v := (2 : Int32)) hx hb dX6_bits_15 (by decide) ?_
      refine lv_idiv hx hb dX6_bits_16 (by decide) ?_
      refine lv_topi (fun x2_3 ex2_3 => ?_)
      replace hw := hw x2_3 ex2_3
      refine lv_istore_n (lv' := [(2, .int x2_3), (1, .int x1_2)]) hx hb dX6_bits_17 rfl hl (Nat.le_of_ble_eq_true rfl) rfl (fun ls hl => ?_)
      refine lv_goto (tgt := 4) hx hb dX6_bits_18 (by decide) ?_
      exact ih _ _ _ _ _ _ hw hk (lv_sub hl [1, 0] rfl)
def wp_X6_bits (σ : Sg) (p0 : Int32) (Q : Int32 → Sg → Prop) : Prop := ∃ n0, wp_X6_bits_4 Q  n0 (0 : Int32) p0 σ
set_option maxHeartbeats 4000000 in
set_option maxRecDepth 100000 in
theorem c_X6_bits (l : Launch) (G : Gw) (σ : Sg) (p0 : Int32) (Q : Int32 → Sg → Prop) (hw : wp_X6_bits σ p0 Q) : MetI l yX6_bits wz_X6_bits rm_X6_bits G σ [.int p0] Q := by
  refine MetI.of cX6_bits 3 (some .int) (by decide) rfl (Nat.le_of_ble_eq_true rfl) ?_
  intro p e s m below meth c X hk ls hl
  have X : KC p m meth c cX6_bits 3 s _ wz_X6_bits RX6 (some .int) G := X
  have hl : lv_has ls 3 [(0, .int p0)] := hl
  unfold wp_X6_bits at hw
  have hx := X.1.1
  have hb := X.1.2.1
  refine lv_iconst (v := (0 : Int32)) hx hb dX6_bits_0 (by decide) ?_
  refine lv_istore_n (lv' := [(1, .int (0 : Int32)), (0, .int p0)]) hx hb dX6_bits_1 rfl hl (Nat.le_of_ble_eq_true rfl) rfl (fun ls hl => ?_)
  refine lv_iload_n hx hb dX6_bits_2 rfl (lv_at hl 1 rfl) ?_
  refine lv_istore_n (lv' := [(2, .int p0), (1, .int (0 : Int32)), (0, .int p0)]) hx hb dX6_bits_3 rfl hl (Nat.le_of_ble_eq_true rfl) rfl (fun ls hl => ?_)
  obtain ⟨n0, hw⟩ := hw
  exact t_X6_bits_4 X Q   n0 _ _ _ _ _ _ hw hk (lv_sub hl [1, 0] rfl)
def rm_X6_laysRow : Room := { frames := 1, cells := 0, slots := 0, locals := 23 }
abbrev wz_X6_laysRow : List Cond := Cond.code yX6_laysRow cX6_laysRow 9 (some .int) :: wsA
theorem hd_X6_laysRow : yX6_laysRow.cls = RX6 ∧ yX6_laysRow.cls ≠ "java/lang/invoke/MethodHandle" ∧ yX6_laysRow.cls ≠ "java/lang/invoke/VarHandle" ∧ (parseMethodDescriptor yX6_laysRow.desc).map (fun d => d.parameters.length) = some 3 := by decide +kernel
def wp_X6_laysRow_110 (Q : Int32 → Sg → Prop) (K10 : Int32 → Int32 → Int32 → Int32 → Int32 → Sg → Prop) (x1 x3 x4 x5 x6 : Int32) (σ : Sg) : Prop := ∀ x6_13 : Int32, x6_13 = (x6 + (-1 : Int32)) → (K10 x1 x3 x4 x5 x6_13 σ)
set_option maxHeartbeats 4000000 in
set_option maxRecDepth 100000 in
theorem t_X6_laysRow_110 {p : Program} {l : Launch} {e : Env} {s : State} {m : MethodId} {args : Array Value} {below : List Frame} {meth : Method} {c : Code} {G : Gw} (X : KC p m meth c cX6_laysRow 9 s args wz_X6_laysRow RX6 (some .int) G) (Q : Int32 → Sg → Prop) (K10 : Int32 → Int32 → Int32 → Int32 → Int32 → Sg → Prop) (hK10 : ∀ (σ : Sg) (x1 x3 x4 x5 x6 : Int32) (H : Heap) (locs : List Loc) (ls : Array Slot), K10 x1 x3 x4 x5 x6 σ → WK G s H locs σ → lv_has ls 9 [(0, .ref (G.1 30)), (1, .int x1), (3, .int x3), (4, .int x4), (5, .int x5), (6, .int x6)] → W p l e rm_X6_laysRow s m args below meth c H locs 0 0 (ZI below args s G Q) (F0 m 10 ls [])) : ∀ (σ : Sg) (x1 x3 x4 x5 x6 : Int32) (H : Heap) (locs : List Loc) (ls : Array Slot), wp_X6_laysRow_110 Q K10 x1 x3 x4 x5 x6 σ → WK G s H locs σ → lv_has ls 9 [(0, .ref (G.1 30)), (1, .int x1), (3, .int x3), (4, .int x4), (5, .int x5), (6, .int x6)] → W p l e rm_X6_laysRow s m args below meth c H locs 0 0 (ZI below args s G Q) (F0 m 110 ls []) := by
  have hx := X.1.1
  have hb := X.1.2.1
  intro σ x1 x3 x4 x5 x6 H locs ls hw hk hl
  unfold wp_X6_laysRow_110 at hw
  obtain ⟨x6_13, ex6_13⟩ : ∃ y : Int32, y = (x6 + (-1 : Int32)) := ⟨_, rfl⟩
  replace hw := hw x6_13 ex6_13
  refine lv_iinc (v := x6_13) (lv' := [(6, .int x6_13), (0, .ref (G.1 30)), (1, .int x1), (3, .int x3), (4, .int x4), (5, .int x5)]) hx hb dX6_laysRow_110 hl (k := 5) rfl (by rw [ex6_13]; rfl) (Nat.le_of_ble_eq_true rfl) rfl (fun ls hl => ?_)
  refine lv_goto (tgt := 10) hx hb dX6_laysRow_113 (by decide) ?_
  exact hK10 _ _ _ _ _ _ _ _ _ hw hk (lv_sub hl [1, 2, 3, 4, 5, 0] rfl)
def wp_X6_laysRow_107 (Q : Int32 → Sg → Prop) (K10 : Int32 → Int32 → Int32 → Int32 → Int32 → Sg → Prop) (x1 x3 x4 x5 x6 y1 y2 y3 : Int32) (σ : Sg) : Prop := wp_X6_lanes σ y1 y2 y3 (fun σ17 => wp_X6_laysRow_110 Q K10 x1 x3 x4 x5 x6 σ17)
set_option maxHeartbeats 4000000 in
set_option maxRecDepth 100000 in
theorem t_X6_laysRow_107 {p : Program} {l : Launch} {e : Env} {s : State} {m : MethodId} {args : Array Value} {below : List Frame} {meth : Method} {c : Code} {G : Gw} (X : KC p m meth c cX6_laysRow 9 s args wz_X6_laysRow RX6 (some .int) G) (Q : Int32 → Sg → Prop) (K10 : Int32 → Int32 → Int32 → Int32 → Int32 → Sg → Prop) (hK10 : ∀ (σ : Sg) (x1 x3 x4 x5 x6 : Int32) (H : Heap) (locs : List Loc) (ls : Array Slot), K10 x1 x3 x4 x5 x6 σ → WK G s H locs σ → lv_has ls 9 [(0, .ref (G.1 30)), (1, .int x1), (3, .int x3), (4, .int x4), (5, .int x5), (6, .int x6)] → W p l e rm_X6_laysRow s m args below meth c H locs 0 0 (ZI below args s G Q) (F0 m 10 ls [])) : ∀ (σ : Sg) (x1 x3 x4 x5 x6 y1 y2 y3 : Int32) (H : Heap) (locs : List Loc) (ls : Array Slot), wp_X6_laysRow_107 Q K10 x1 x3 x4 x5 x6 y1 y2 y3 σ → WK G s H locs σ → lv_has ls 9 [(0, .ref (G.1 30)), (1, .int x1), (3, .int x3), (4, .int x4), (5, .int x5), (6, .int x6)] → W p l e rm_X6_laysRow s m args below meth c H locs 0 0 (ZI below args s G Q) (F0 m 107 ls [.int y3, .int y2, .int y1, .ref (G.1 30)]) := by
  have hx := X.1.1
  have hb := X.1.2.1
  intro σ x1 x3 x4 x5 x6 y1 y2 y3 H locs ls hw hk hl
  unfold wp_X6_laysRow_107 at hw
  refine k_callVv (rest := []) X hk (c_X6_lanes l G _ _ _ _ _ hw) (cwV 3 X.1.2.2.2.2 (gzV (aw_r33 _ (List.mem_of_getElem? (i := 10) rfl)) (aw_r33 _ (List.mem_of_getElem? (i := 11) rfl)) (aw_r33 _ (List.mem_of_getElem? (i := 12) rfl)) (aw_r1 _ (List.mem_of_getElem? (i := 5) rfl)) (aw_r33 _ (List.mem_of_getElem? (i := 13) rfl))) rfl rfl rfl hd_X6_lanes ⟨(Nat.le_of_ble_eq_true rfl), (Nat.le_of_ble_eq_true rfl)⟩) (wg_30 G _) rfl rfl hl.1 rfl (Nat.le_of_ble_eq_true rfl) dX6_laysRow_107 ⟨Nat.zero_le _, Nat.zero_le _⟩ (fun σ17 H locs hw hk => ?_)
  exact t_X6_laysRow_110 X Q _ hK10 _ _ _ _ _ _ _ _ _ hw hk hl
def wp_X6_laysRow_95 (Q : Int32 → Sg → Prop) (K10 : Int32 → Int32 → Int32 → Int32 → Int32 → Sg → Prop) (x1 x3 x4 x5 x6 x7 x8 y1 y2 : Int32) (σ : Sg) : Prop := (x7 = (1 : Int32) → (wp_X6_laysRow_107 Q K10 x1 x3 x4 x5 x6 y1 y2 (0 : Int32) σ)) ∧ (¬ (x7 = (1 : Int32)) → (wp_X6_laysRow_107 Q K10 x1 x3 x4 x5 x6 y1 y2 x8 σ))
set_option maxHeartbeats 4000000 in
set_option maxRecDepth 100000 in
theorem t_X6_laysRow_95 {p : Program} {l : Launch} {e : Env} {s : State} {m : MethodId} {args : Array Value} {below : List Frame} {meth : Method} {c : Code} {G : Gw} (X : KC p m meth c cX6_laysRow 9 s args wz_X6_laysRow RX6 (some .int) G) (Q : Int32 → Sg → Prop) (K10 : Int32 → Int32 → Int32 → Int32 → Int32 → Sg → Prop) (hK10 : ∀ (σ : Sg) (x1 x3 x4 x5 x6 : Int32) (H : Heap) (locs : List Loc) (ls : Array Slot), K10 x1 x3 x4 x5 x6 σ → WK G s H locs σ → lv_has ls 9 [(0, .ref (G.1 30)), (1, .int x1), (3, .int x3), (4, .int x4), (5, .int x5), (6, .int x6)] → W p l e rm_X6_laysRow s m args below meth c H locs 0 0 (ZI below args s G Q) (F0 m 10 ls [])) : ∀ (σ : Sg) (x1 x3 x4 x5 x6 x7 x8 y1 y2 : Int32) (H : Heap) (locs : List Loc) (ls : Array Slot), wp_X6_laysRow_95 Q K10 x1 x3 x4 x5 x6 x7 x8 y1 y2 σ → WK G s H locs σ → lv_has ls 9 [(0, .ref (G.1 30)), (1, .int x1), (3, .int x3), (4, .int x4), (5, .int x5), (6, .int x6), (7, .int x7), (8, .int x8)] → W p l e rm_X6_laysRow s m args below meth c H locs 0 0 (ZI below args s G Q) (F0 m 95 ls [.int y2, .int y1, .ref (G.1 30)]) := by
  have hx := X.1.1
  have hb := X.1.2.1
  intro σ x1 x3 x4 x5 x6 x7 x8 y1 y2 H locs ls hw hk hl
  unfold wp_X6_laysRow_95 at hw
  refine lv_iload hx hb dX6_laysRow_95 (lv_at hl 6 rfl) ?_
  refine lv_iconst (v := (1 : Int32)) hx hb dX6_laysRow_97 (by decide) ?_
  refine lv_icmp_ne (tgt := 105) hx hb dX6_laysRow_98 (by decide) (fun c16 => ?_) (fun c16 => ?_)
  · replace hw := hw.2 c16
    refine lv_iload hx hb dX6_laysRow_105 (lv_at hl 7 rfl) ?_
    exact t_X6_laysRow_107 X Q _ hK10 _ _ _ _ _ _ _ _ _ _ _ _ hw hk (lv_sub hl [0, 1, 2, 3, 4, 5] rfl)
  · replace hw := hw.1 c16
    refine lv_iconst (v := (0 : Int32)) hx hb dX6_laysRow_101 (by decide) ?_
    refine lv_goto (tgt := 107) hx hb dX6_laysRow_102 (by decide) ?_
    exact t_X6_laysRow_107 X Q _ hK10 _ _ _ _ _ _ _ _ _ _ _ _ hw hk (lv_sub hl [0, 1, 2, 3, 4, 5] rfl)
def wp_X6_laysRow_51 (Q : Int32 → Sg → Prop) (K10 : Int32 → Int32 → Int32 → Int32 → Int32 → Sg → Prop) (x1 x3 x4 x6 x7 y0 y1 : Int32) (σ : Sg) : Prop := ∀ x5_6 : Int32, x5_6 = (y0 + y1) → (wp_X6_ofRoad σ x6 (3 : Int32) (fun r8 σ7 => wp_X6_ofRoad σ7 x6 (4 : Int32) (fun r10 σ9 => ∀ x8_11 : Int32, x8_11 = (r8 + r10) → ((x3 = 0 → (wp_X6_laysRow_110 Q K10 x1 x3 x4 x5_6 x6 σ9)) ∧ (¬ (x3 = 0) → ((x7 ≤ 0 → (wp_X6_laysRow_110 Q K10 x1 x3 x4 x5_6 x6 σ9)) ∧ (¬ (x7 ≤ 0) → ((x7 = (1 : Int32) → (wp_X6_laysRow_95 Q K10 x1 x3 x4 x5_6 x6 x7 x8_11 x6 x8_11 σ9)) ∧ (¬ (x7 = (1 : Int32)) → (wp_X6_laysRow_95 Q K10 x1 x3 x4 x5_6 x6 x7 x8_11 x6 (0 : Int32) σ9))))))))))
set_option maxHeartbeats 4000000 in
set_option maxRecDepth 100000 in
theorem t_X6_laysRow_51 {p : Program} {l : Launch} {e : Env} {s : State} {m : MethodId} {args : Array Value} {below : List Frame} {meth : Method} {c : Code} {G : Gw} (X : KC p m meth c cX6_laysRow 9 s args wz_X6_laysRow RX6 (some .int) G) (Q : Int32 → Sg → Prop) (K10 : Int32 → Int32 → Int32 → Int32 → Int32 → Sg → Prop) (hK10 : ∀ (σ : Sg) (x1 x3 x4 x5 x6 : Int32) (H : Heap) (locs : List Loc) (ls : Array Slot), K10 x1 x3 x4 x5 x6 σ → WK G s H locs σ → lv_has ls 9 [(0, .ref (G.1 30)), (1, .int x1), (3, .int x3), (4, .int x4), (5, .int x5), (6, .int x6)] → W p l e rm_X6_laysRow s m args below meth c H locs 0 0 (ZI below args s G Q) (F0 m 10 ls [])) : ∀ (σ : Sg) (x1 x3 x4 x6 x7 y0 y1 : Int32) (H : Heap) (locs : List Loc) (ls : Array Slot), wp_X6_laysRow_51 Q K10 x1 x3 x4 x6 x7 y0 y1 σ → WK G s H locs σ → lv_has ls 9 [(0, .ref (G.1 30)), (1, .int x1), (3, .int x3), (4, .int x4), (6, .int x6), (7, .int x7)] → W p l e rm_X6_laysRow s m args below meth c H locs 0 0 (ZI below args s G Q) (F0 m 51 ls [.int y1, .int y0]) := by
  have hx := X.1.1
  have hb := X.1.2.1
  intro σ x1 x3 x4 x6 x7 y0 y1 H locs ls hw hk hl
  unfold wp_X6_laysRow_51 at hw
  refine lv_iadd hx hb dX6_laysRow_51 ?_
  refine lv_topi (fun x5_6 ex5_6 => ?_)
  replace hw := hw x5_6 ex5_6
  refine lv_istore (lv' := [(5, .int x5_6), (0, .ref (G.1 30)), (1, .int x1), (3, .int x3), (4, .int x4), (6, .int x6), (7, .int x7)]) hx hb dX6_laysRow_52 hl (Nat.le_of_ble_eq_true rfl) rfl (fun ls hl => ?_)
  refine lv_aload_n hx hb dX6_laysRow_54 rfl (lv_at hl 1 rfl) ?_
  refine lv_iload hx hb dX6_laysRow_55 (lv_at hl 5 rfl) ?_
  refine lv_iconst (v := (3 : Int32)) hx hb dX6_laysRow_57 (by decide) ?_
  refine k_callVi (rest := []) X hk (c_X6_ofRoad l G _ _ _ _ hw) (cwV 2 X.1.2.2.2.2 (gzV (aw_r17 _ (List.mem_of_getElem? (i := 14) rfl)) (aw_r17 _ (List.mem_of_getElem? (i := 15) rfl)) (aw_r17 _ (List.mem_of_getElem? (i := 16) rfl)) (aw_r1 _ (List.mem_of_getElem? (i := 5) rfl)) (aw_r17 _ (List.mem_of_getElem? (i := 17) rfl))) rfl rfl rfl hd_X6_ofRoad ⟨(Nat.le_of_ble_eq_true rfl), (Nat.le_of_ble_eq_true rfl)⟩) (wg_30 G _) rfl rfl hl.1 rfl (Nat.le_of_ble_eq_true rfl) dX6_laysRow_58 ⟨Nat.zero_le _, Nat.zero_le _⟩ (fun r8 σ7 H locs hw hk => ?_)
  refine lv_aload_n hx hb dX6_laysRow_61 rfl (lv_at hl 1 rfl) ?_
  refine lv_iload hx hb dX6_laysRow_62 (lv_at hl 5 rfl) ?_
  refine lv_iconst (v := (4 : Int32)) hx hb dX6_laysRow_64 (by decide) ?_
  refine k_callVi (rest := [.int r8]) X hk (c_X6_ofRoad l G _ _ _ _ hw) (cwV 2 X.1.2.2.2.2 (gzV (aw_r17 _ (List.mem_of_getElem? (i := 14) rfl)) (aw_r17 _ (List.mem_of_getElem? (i := 15) rfl)) (aw_r17 _ (List.mem_of_getElem? (i := 16) rfl)) (aw_r1 _ (List.mem_of_getElem? (i := 5) rfl)) (aw_r17 _ (List.mem_of_getElem? (i := 17) rfl))) rfl rfl rfl hd_X6_ofRoad ⟨(Nat.le_of_ble_eq_true rfl), (Nat.le_of_ble_eq_true rfl)⟩) (wg_30 G _) rfl rfl hl.1 rfl (Nat.le_of_ble_eq_true rfl) dX6_laysRow_65 ⟨Nat.zero_le _, Nat.zero_le _⟩ (fun r10 σ9 H locs hw hk => ?_)
  refine lv_iadd hx hb dX6_laysRow_68 ?_
  refine lv_topi (fun x8_11 ex8_11 => ?_)
  replace hw := hw x8_11 ex8_11
  refine lv_istore (lv' := [(8, .int x8_11), (5, .int x5_6), (0, .ref (G.1 30)), (1, .int x1), (3, .int x3), (4, .int x4), (6, .int x6), (7, .int x7)]) hx hb dX6_laysRow_69 hl (Nat.le_of_ble_eq_true rfl) rfl (fun ls hl => ?_)
  refine lv_iload_n hx hb dX6_laysRow_71 rfl (lv_at hl 4 rfl) ?_
  refine lv_if_eq (tgt := 110) hx hb dX6_laysRow_72 (by decide) (fun c12 => ?_) (fun c12 => ?_)
  · replace hw := hw.1 c12
    exact t_X6_laysRow_110 X Q _ hK10 _ _ _ _ _ _ _ _ _ hw hk (lv_sub hl [2, 3, 4, 5, 1, 6] rfl)
  · replace hw := hw.2 c12
    refine lv_iload hx hb dX6_laysRow_75 (lv_at hl 7 rfl) ?_
    refine lv_if_le (tgt := 110) hx hb dX6_laysRow_77 (by decide) (fun c14 => ?_) (fun c14 => ?_)
    · replace hw := hw.1 c14
      exact t_X6_laysRow_110 X Q _ hK10 _ _ _ _ _ _ _ _ _ hw hk (lv_sub hl [2, 3, 4, 5, 1, 6] rfl)
    · replace hw := hw.2 c14
      refine lv_aload_n hx hb dX6_laysRow_80 rfl (lv_at hl 2 rfl) ?_
      refine lv_iload hx hb dX6_laysRow_81 (lv_at hl 6 rfl) ?_
      refine lv_iload hx hb dX6_laysRow_83 (lv_at hl 7 rfl) ?_
      refine lv_iconst (v := (1 : Int32)) hx hb dX6_laysRow_85 (by decide) ?_
      refine lv_icmp_ne (tgt := 94) hx hb dX6_laysRow_86 (by decide) (fun c15 => ?_) (fun c15 => ?_)
      · replace hw := hw.2 c15
        refine lv_iconst (v := (0 : Int32)) hx hb dX6_laysRow_94 (by decide) ?_
        exact t_X6_laysRow_95 X Q _ hK10 _ _ _ _ _ _ _ _ _ _ _ _ _ hw hk (lv_sub hl [2, 3, 4, 5, 1, 6, 7, 0] rfl)
      · replace hw := hw.1 c15
        refine lv_iload hx hb dX6_laysRow_89 (lv_at hl 0 rfl) ?_
        refine lv_goto (tgt := 95) hx hb dX6_laysRow_91 (by decide) ?_
        exact t_X6_laysRow_95 X Q _ hK10 _ _ _ _ _ _ _ _ _ _ _ _ _ hw hk (lv_sub hl [2, 3, 4, 5, 1, 6, 7, 0] rfl)
def wp_X6_laysRow_10 (Q : Int32 → Sg → Prop)  : Nat → Int32 → Int32 → Int32 → Int32 → Int32 → Sg → Prop
  | 0, _, _, _, _, _, _ => False
  | n + 1, x1, x3, x4, x5, x6, σ => (x6 < 0 → (Q x5 σ)) ∧ (¬ (x6 < 0) → ((((x1 >>> (x6 &&& 31)) &&& (1 : Int32)) = 0 → (wp_X6_laysRow_110 Q (fun z1 z3 z4 z5 z6 σ => wp_X6_laysRow_10 Q  n z1 z3 z4 z5 z6 σ) x1 x3 x4 x5 x6 σ)) ∧ (¬ (((x1 >>> (x6 &&& 31)) &&& (1 : Int32)) = 0) → (∀ x7_3 : Int32, x7_3 = (x4 - x4 / (3 : Int32) * (3 : Int32)) → (∀ x4_4 : Int32, x4_4 = (x4 / (3 : Int32)) → ((x7_3 ≤ 0 → (wp_X6_laysRow_51 Q (fun z1 z3 z4 z5 z6 σ => wp_X6_laysRow_10 Q  n z1 z3 z4 z5 z6 σ) x1 x3 x4_4 x6 x7_3 x5 (0 : Int32) σ)) ∧ (¬ (x7_3 ≤ 0) → (wp_X6_laysRow_51 Q (fun z1 z3 z4 z5 z6 σ => wp_X6_laysRow_10 Q  n z1 z3 z4 z5 z6 σ) x1 x3 x4_4 x6 x7_3 x5 (1 : Int32) σ))))))))
set_option maxHeartbeats 4000000 in
set_option maxRecDepth 100000 in
theorem t_X6_laysRow_10 {p : Program} {l : Launch} {e : Env} {s : State} {m : MethodId} {args : Array Value} {below : List Frame} {meth : Method} {c : Code} {G : Gw} (X : KC p m meth c cX6_laysRow 9 s args wz_X6_laysRow RX6 (some .int) G) (Q : Int32 → Sg → Prop)  : ∀ (n : Nat) (σ : Sg) (x1 x3 x4 x5 x6 : Int32) (H : Heap) (locs : List Loc) (ls : Array Slot), wp_X6_laysRow_10 Q  n x1 x3 x4 x5 x6 σ → WK G s H locs σ → lv_has ls 9 [(0, .ref (G.1 30)), (1, .int x1), (3, .int x3), (4, .int x4), (5, .int x5), (6, .int x6)] → W p l e rm_X6_laysRow s m args below meth c H locs 0 0 (ZI below args s G Q) (F0 m 10 ls []) := by
  have hx := X.1.1
  have hb := X.1.2.1
  intro n
  induction n with
  | zero =>
    intro σ x1 x3 x4 x5 x6 H locs ls hw hk hl
    exact False.elim hw
  | succ n ih =>
    intro σ x1 x3 x4 x5 x6 H locs ls hw hk hl
    rw [wp_X6_laysRow_10] at hw
    refine lv_iload hx hb dX6_laysRow_10 (lv_at hl 5 rfl) ?_
    refine lv_if_lt (tgt := 116) hx hb dX6_laysRow_12 (by decide) (fun c1 => ?_) (fun c1 => ?_)
    · replace hw := hw.1 c1
      refine lv_iload hx hb dX6_laysRow_116 (lv_at hl 4 rfl) ?_
      exact k_iret X hk hw dX6_laysRow_118
    · replace hw := hw.2 c1
      refine lv_iload_n hx hb dX6_laysRow_15 rfl (lv_at hl 1 rfl) ?_
      refine lv_iload hx hb dX6_laysRow_16 (lv_at hl 5 rfl) ?_
      refine lv_ishr hx hb dX6_laysRow_18 ?_
      refine lv_iconst (v := (1 : Int32)) hx hb dX6_laysRow_19 (by decide) ?_
      refine lv_iand hx hb dX6_laysRow_20 ?_
      refine lv_if_ne (tgt := 27) hx hb dX6_laysRow_21 (by decide) (fun c2 => ?_) (fun c2 => ?_)
      · replace hw := hw.2 c2
        refine lv_iload hx hb dX6_laysRow_27 (lv_at hl 3 rfl) ?_
        refine lv_iconst (v := (3 : Int32)) hx hb dX6_laysRow_29 (by decide) ?_
        refine lv_irem hx hb dX6_laysRow_30 (by decide) ?_
        refine lv_topi (fun x7_3 ex7_3 => ?_)
        replace hw := hw x7_3 ex7_3
        refine lv_istore (lv' := [(7, .int x7_3), (0, .ref (G.1 30)), (1, .int x1), (3, .int x3), (4, .int x4), (5, .int x5), (6, .int x6)]) hx hb dX6_laysRow_31 hl (Nat.le_of_ble_eq_true rfl) rfl (fun ls hl => ?_)
        refine lv_iload hx hb dX6_laysRow_33 (lv_at hl 4 rfl) ?_
        refine lv_iconst (v := (3 : Int32)) hx hb dX6_laysRow_35 (by decide) ?_
        refine lv_idiv hx hb dX6_laysRow_36 (by decide) ?_
        refine lv_topi (fun x4_4 ex4_4 => ?_)
        replace hw := hw x4_4 ex4_4
        refine lv_istore (lv' := [(4, .int x4_4), (7, .int x7_3), (0, .ref (G.1 30)), (1, .int x1), (3, .int x3), (5, .int x5), (6, .int x6)]) hx hb dX6_laysRow_37 hl (Nat.le_of_ble_eq_true rfl) rfl (fun ls hl => ?_)
        refine lv_iload hx hb dX6_laysRow_39 (lv_at hl 5 rfl) ?_
        refine lv_iload hx hb dX6_laysRow_41 (lv_at hl 1 rfl) ?_
        refine lv_if_le (tgt := 50) hx hb dX6_laysRow_43 (by decide) (fun c5 => ?_) (fun c5 => ?_)
        · replace hw := hw.1 c5
          refine lv_iconst (v := (0 : Int32)) hx hb dX6_laysRow_50 (by decide) ?_
          exact t_X6_laysRow_51 X Q _ ih _ _ _ _ _ _ _ _ _ _ _ hw hk (lv_sub hl [2, 3, 4, 0, 6, 1] rfl)
        · replace hw := hw.2 c5
          refine lv_iconst (v := (1 : Int32)) hx hb dX6_laysRow_46 (by decide) ?_
          refine lv_goto (tgt := 51) hx hb dX6_laysRow_47 (by decide) ?_
          exact t_X6_laysRow_51 X Q _ ih _ _ _ _ _ _ _ _ _ _ _ hw hk (lv_sub hl [2, 3, 4, 0, 6, 1] rfl)
      · replace hw := hw.1 c2
        refine lv_goto (tgt := 110) hx hb dX6_laysRow_24 (by decide) ?_
        exact t_X6_laysRow_110 X Q _ ih _ _ _ _ _ _ _ _ _ hw hk hl
def wp_X6_laysRow (σ : Sg) (p1 p2 p3 : Int32) (Q : Int32 → Sg → Prop) : Prop := ∃ n0, wp_X6_laysRow_10 Q  n0 p1 p3 p2 (0 : Int32) (11 : Int32) σ
set_option maxHeartbeats 4000000 in
set_option maxRecDepth 100000 in
theorem c_X6_laysRow (l : Launch) (G : Gw) (σ : Sg) (p1 p2 p3 : Int32) (Q : Int32 → Sg → Prop) (hw : wp_X6_laysRow σ p1 p2 p3 Q) : MetI l yX6_laysRow wz_X6_laysRow rm_X6_laysRow G σ [.ref (G.1 30), .int p1, .int p2, .int p3] Q := by
  refine MetI.of cX6_laysRow 9 (some .int) (by decide) rfl (Nat.le_of_ble_eq_true rfl) ?_
  intro p e s m below meth c X hk ls hl
  have X : KC p m meth c cX6_laysRow 9 s _ wz_X6_laysRow RX6 (some .int) G := X
  have hl : lv_has ls 9 [(0, .ref (G.1 30)), (1, .int p1), (2, .int p2), (3, .int p3)] := hl
  unfold wp_X6_laysRow at hw
  have hx := X.1.1
  have hb := X.1.2.1
  refine lv_iload_n hx hb dX6_laysRow_0 rfl (lv_at hl 2 rfl) ?_
  refine lv_istore (lv' := [(4, .int p2), (0, .ref (G.1 30)), (1, .int p1), (2, .int p2), (3, .int p3)]) hx hb dX6_laysRow_1 hl (Nat.le_of_ble_eq_true rfl) rfl (fun ls hl => ?_)
  refine lv_iconst (v := (0 : Int32)) hx hb dX6_laysRow_3 (by decide) ?_
  refine lv_istore (lv' := [(5, .int (0 : Int32)), (4, .int p2), (0, .ref (G.1 30)), (1, .int p1), (2, .int p2), (3, .int p3)]) hx hb dX6_laysRow_4 hl (Nat.le_of_ble_eq_true rfl) rfl (fun ls hl => ?_)
  refine lv_bipush (v := (11 : Int32)) hx hb dX6_laysRow_6 (by decide) ?_
  refine lv_istore (lv' := [(6, .int (11 : Int32)), (5, .int (0 : Int32)), (4, .int p2), (0, .ref (G.1 30)), (1, .int p1), (2, .int p2), (3, .int p3)]) hx hb dX6_laysRow_8 hl (Nat.le_of_ble_eq_true rfl) rfl (fun ls hl => ?_)
  obtain ⟨n0, hw⟩ := hw
  exact t_X6_laysRow_10 X Q   n0 _ _ _ _ _ _ _ _ _ hw hk (lv_sub hl [3, 4, 6, 2, 1, 0] rfl)
def rm_X6_turns : Room := { frames := 6, cells := 0, slots := 0, locals := 133 }
abbrev wz_X6_turns : List Cond := Cond.code yX6_turns cX6_turns 9 (some .int) :: wsA
theorem hd_X6_turns : yX6_turns.cls = RX6 ∧ yX6_turns.cls ≠ "java/lang/invoke/MethodHandle" ∧ yX6_turns.cls ≠ "java/lang/invoke/VarHandle" ∧ (parseMethodDescriptor yX6_turns.desc).map (fun d => d.parameters.length) = some 2 := by decide +kernel
def wp_X6_turns_162 (Q : Int32 → Sg → Prop) (K83 : Int32 → Int32 → Int32 → Int32 → Int32 → Int32 → Sg → Prop) (K92 : Int32 → Int32 → Int32 → Int32 → Int32 → Int32 → Int32 → Sg → Prop) (x1 x2 x3 x4 x5 x6 x7 : Int32) (σ : Sg) : Prop := ∀ x7_35 : Int32, x7_35 = (x7 + (1 : Int32)) → (K92 x1 x2 x3 x4 x5 x6 x7_35 σ)
set_option maxHeartbeats 4000000 in
set_option maxRecDepth 100000 in
theorem t_X6_turns_162 {p : Program} {l : Launch} {e : Env} {s : State} {m : MethodId} {args : Array Value} {below : List Frame} {meth : Method} {c : Code} {G : Gw} (X : KC p m meth c cX6_turns 9 s args wz_X6_turns RX6 (some .int) G) (Q : Int32 → Sg → Prop) (K83 : Int32 → Int32 → Int32 → Int32 → Int32 → Int32 → Sg → Prop) (K92 : Int32 → Int32 → Int32 → Int32 → Int32 → Int32 → Int32 → Sg → Prop) (hK83 : ∀ (σ : Sg) (x1 x2 x3 x4 x5 x6 : Int32) (H : Heap) (locs : List Loc) (ls : Array Slot), K83 x1 x2 x3 x4 x5 x6 σ → WK G s H locs σ → lv_has ls 9 [(0, .ref (G.1 30)), (1, .int x1), (2, .int x2), (3, .int x3), (4, .int x4), (5, .int x5), (6, .int x6)] → W p l e rm_X6_turns s m args below meth c H locs 0 0 (ZI below args s G Q) (F0 m 83 ls [])) (hK92 : ∀ (σ : Sg) (x1 x2 x3 x4 x5 x6 x7 : Int32) (H : Heap) (locs : List Loc) (ls : Array Slot), K92 x1 x2 x3 x4 x5 x6 x7 σ → WK G s H locs σ → lv_has ls 9 [(0, .ref (G.1 30)), (1, .int x1), (2, .int x2), (3, .int x3), (4, .int x4), (5, .int x5), (6, .int x6), (7, .int x7)] → W p l e rm_X6_turns s m args below meth c H locs 0 0 (ZI below args s G Q) (F0 m 92 ls [])) : ∀ (σ : Sg) (x1 x2 x3 x4 x5 x6 x7 : Int32) (H : Heap) (locs : List Loc) (ls : Array Slot), wp_X6_turns_162 Q K83 K92 x1 x2 x3 x4 x5 x6 x7 σ → WK G s H locs σ → lv_has ls 9 [(0, .ref (G.1 30)), (1, .int x1), (2, .int x2), (3, .int x3), (4, .int x4), (5, .int x5), (6, .int x6), (7, .int x7)] → W p l e rm_X6_turns s m args below meth c H locs 0 0 (ZI below args s G Q) (F0 m 162 ls []) := by
  have hx := X.1.1
  have hb := X.1.2.1
  intro σ x1 x2 x3 x4 x5 x6 x7 H locs ls hw hk hl
  unfold wp_X6_turns_162 at hw
  obtain ⟨x7_35, ex7_35⟩ : ∃ y : Int32, y = (x7 + (1 : Int32)) := ⟨_, rfl⟩
  replace hw := hw x7_35 ex7_35
  refine lv_iinc (v := x7_35) (lv' := [(7, .int x7_35), (0, .ref (G.1 30)), (1, .int x1), (2, .int x2), (3, .int x3), (4, .int x4), (5, .int x5), (6, .int x6)]) hx hb dX6_turns_162 hl (k := 7) rfl (by rw [ex7_35]; rfl) (Nat.le_of_ble_eq_true rfl) rfl (fun ls hl => ?_)
  refine lv_goto (tgt := 92) hx hb dX6_turns_165 (by decide) ?_
  exact hK92 _ _ _ _ _ _ _ _ _ _ _ hw hk (lv_sub hl [1, 2, 3, 4, 5, 6, 7, 0] rfl)
def wp_X6_turns_137 (Q : Int32 → Sg → Prop) (K83 : Int32 → Int32 → Int32 → Int32 → Int32 → Int32 → Sg → Prop) (K92 : Int32 → Int32 → Int32 → Int32 → Int32 → Int32 → Int32 → Sg → Prop) (x1 x2 x3 x4 x5 x6 x7 y1 : Int32) (σ : Sg) : Prop := wp_X6_quickestBelow σ y1 (fun r31 σ30 => wp_X6_comesBack σ30  (fun σ32 => (r31 = (-1 : Int32) → (wp_X6_turns_162 Q K83 K92 x1 x2 x3 x4 x5 x6 x7 σ32)) ∧ (¬ (r31 = (-1 : Int32)) → (wp_X6_turns_162 Q K83 K92 x1 x2 r31 x7 x5 x6 x7 σ32))))
set_option maxHeartbeats 4000000 in
set_option maxRecDepth 100000 in
theorem t_X6_turns_137 {p : Program} {l : Launch} {e : Env} {s : State} {m : MethodId} {args : Array Value} {below : List Frame} {meth : Method} {c : Code} {G : Gw} (X : KC p m meth c cX6_turns 9 s args wz_X6_turns RX6 (some .int) G) (Q : Int32 → Sg → Prop) (K83 : Int32 → Int32 → Int32 → Int32 → Int32 → Int32 → Sg → Prop) (K92 : Int32 → Int32 → Int32 → Int32 → Int32 → Int32 → Int32 → Sg → Prop) (hK83 : ∀ (σ : Sg) (x1 x2 x3 x4 x5 x6 : Int32) (H : Heap) (locs : List Loc) (ls : Array Slot), K83 x1 x2 x3 x4 x5 x6 σ → WK G s H locs σ → lv_has ls 9 [(0, .ref (G.1 30)), (1, .int x1), (2, .int x2), (3, .int x3), (4, .int x4), (5, .int x5), (6, .int x6)] → W p l e rm_X6_turns s m args below meth c H locs 0 0 (ZI below args s G Q) (F0 m 83 ls [])) (hK92 : ∀ (σ : Sg) (x1 x2 x3 x4 x5 x6 x7 : Int32) (H : Heap) (locs : List Loc) (ls : Array Slot), K92 x1 x2 x3 x4 x5 x6 x7 σ → WK G s H locs σ → lv_has ls 9 [(0, .ref (G.1 30)), (1, .int x1), (2, .int x2), (3, .int x3), (4, .int x4), (5, .int x5), (6, .int x6), (7, .int x7)] → W p l e rm_X6_turns s m args below meth c H locs 0 0 (ZI below args s G Q) (F0 m 92 ls [])) : ∀ (σ : Sg) (x1 x2 x3 x4 x5 x6 x7 y1 : Int32) (H : Heap) (locs : List Loc) (ls : Array Slot), wp_X6_turns_137 Q K83 K92 x1 x2 x3 x4 x5 x6 x7 y1 σ → WK G s H locs σ → lv_has ls 9 [(0, .ref (G.1 30)), (1, .int x1), (2, .int x2), (3, .int x3), (4, .int x4), (5, .int x5), (6, .int x6), (7, .int x7)] → W p l e rm_X6_turns s m args below meth c H locs 0 0 (ZI below args s G Q) (F0 m 137 ls [.int y1, .ref (G.1 30)]) := by
  have hx := X.1.1
  have hb := X.1.2.1
  intro σ x1 x2 x3 x4 x5 x6 x7 y1 H locs ls hw hk hl
  unfold wp_X6_turns_137 at hw
  refine k_callVi (rest := []) X hk (c_X6_quickestBelow l G _ _ _ hw) (cwV 1 X.1.2.2.2.2 (gzV (aw_r31 _ (List.mem_of_getElem? (i := 9) rfl)) (aw_r31 _ (List.mem_of_getElem? (i := 10) rfl)) (aw_r31 _ (List.mem_of_getElem? (i := 11) rfl)) (aw_r1 _ (List.mem_of_getElem? (i := 5) rfl)) (aw_r31 _ (List.mem_of_getElem? (i := 12) rfl))) rfl rfl rfl hd_X6_quickestBelow ⟨(Nat.le_of_ble_eq_true rfl), (Nat.le_of_ble_eq_true rfl)⟩) (wg_30 G _) rfl rfl hl.1 rfl (Nat.le_of_ble_eq_true rfl) dX6_turns_137 ⟨Nat.zero_le _, Nat.zero_le _⟩ (fun r31 σ30 H locs hw hk => ?_)
  refine lv_istore (lv' := [(8, .int r31), (0, .ref (G.1 30)), (1, .int x1), (2, .int x2), (3, .int x3), (4, .int x4), (5, .int x5), (6, .int x6), (7, .int x7)]) hx hb dX6_turns_140 hl (Nat.le_of_ble_eq_true rfl) rfl (fun ls hl => ?_)
  refine lv_aload_n hx hb dX6_turns_142 rfl (lv_at hl 1 rfl) ?_
  refine k_callVv (rest := []) X hk (c_X6_comesBack l G _  _ hw) (cwV 0 X.1.2.2.2.2 (gzV (aw_r18 _ (List.mem_of_getElem? (i := 10) rfl)) (aw_r18 _ (List.mem_of_getElem? (i := 11) rfl)) (aw_r18 _ (List.mem_of_getElem? (i := 12) rfl)) (aw_r1 _ (List.mem_of_getElem? (i := 5) rfl)) (aw_r18 _ (List.mem_of_getElem? (i := 13) rfl))) rfl rfl rfl hd_X6_comesBack ⟨(Nat.le_of_ble_eq_true rfl), (Nat.le_of_ble_eq_true rfl)⟩) (wg_30 G _) rfl rfl hl.1 rfl (Nat.le_of_ble_eq_true rfl) dX6_turns_143 ⟨Nat.zero_le _, Nat.zero_le _⟩ (fun σ32 H locs hw hk => ?_)
  refine lv_iload hx hb dX6_turns_146 (lv_at hl 0 rfl) ?_
  refine lv_iconst (v := (-1 : Int32)) hx hb dX6_turns_148 (by decide) ?_
  refine lv_icmp_ne (tgt := 155) hx hb dX6_turns_149 (by decide) (fun c34 => ?_) (fun c34 => ?_)
  · replace hw := hw.2 c34
    refine lv_iload hx hb dX6_turns_155 (lv_at hl 0 rfl) ?_
    refine lv_istore_n (lv' := [(3, .int r31), (8, .int r31), (0, .ref (G.1 30)), (1, .int x1), (2, .int x2), (4, .int x4), (5, .int x5), (6, .int x6), (7, .int x7)]) hx hb dX6_turns_157 rfl hl (Nat.le_of_ble_eq_true rfl) rfl (fun ls hl => ?_)
    refine lv_iload hx hb dX6_turns_158 (lv_at hl 8 rfl) ?_
    refine lv_istore (lv' := [(4, .int x7), (3, .int r31), (8, .int r31), (0, .ref (G.1 30)), (1, .int x1), (2, .int x2), (5, .int x5), (6, .int x6), (7, .int x7)]) hx hb dX6_turns_160 hl (Nat.le_of_ble_eq_true rfl) rfl (fun ls hl => ?_)
    exact t_X6_turns_162 X Q _ _ hK83 hK92 _ _ _ _ _ _ _ _ _ _ _ hw hk (lv_sub hl [3, 4, 5, 1, 0, 6, 7, 8] rfl)
  · replace hw := hw.1 c34
    refine lv_goto (tgt := 162) hx hb dX6_turns_152 (by decide) ?_
    exact t_X6_turns_162 X Q _ _ hK83 hK92 _ _ _ _ _ _ _ _ _ _ _ hw hk (lv_sub hl [1, 2, 3, 4, 5, 6, 7, 8] rfl)
def wp_X6_turns_92 (Q : Int32 → Sg → Prop) (K83 : Int32 → Int32 → Int32 → Int32 → Int32 → Int32 → Sg → Prop) : Nat → Int32 → Int32 → Int32 → Int32 → Int32 → Int32 → Int32 → Sg → Prop
  | 0, _, _, _, _, _, _, _, _ => False
  | n + 1, x1, x2, x3, x4, x5, x6, x7, σ => (x5 ≤ x7 → (∀ x6_23 : Int32, x6_23 = (x6 + (1 : Int32)) → (K83 x1 x2 x3 x4 x5 x6_23 σ))) ∧ (¬ (x5 ≤ x7) → (wp_X6_laysRow σ x1 x7 (0 : Int32) (fun r25 σ24 => (r25 = x6 → (wp_X6_laysRow σ24 x1 x7 (1 : Int32) (fun r28 σ27 => (x3 = (-1 : Int32) → (wp_X6_turns_137 Q K83 (fun z1 z2 z3 z4 z5 z6 z7 σ => wp_X6_turns_92 Q K83 n z1 z2 z3 z4 z5 z6 z7 σ) x1 x2 x3 x4 x5 r28 x7 (41 : Int32) σ27)) ∧ (¬ (x3 = (-1 : Int32)) → (wp_X6_turns_137 Q K83 (fun z1 z2 z3 z4 z5 z6 z7 σ => wp_X6_turns_92 Q K83 n z1 z2 z3 z4 z5 z6 z7 σ) x1 x2 x3 x4 x5 r28 x7 x3 σ27))))) ∧ (¬ (r25 = x6) → (wp_X6_turns_162 Q K83 (fun z1 z2 z3 z4 z5 z6 z7 σ => wp_X6_turns_92 Q K83 n z1 z2 z3 z4 z5 z6 z7 σ) x1 x2 x3 x4 x5 x6 x7 σ24)))))
set_option maxHeartbeats 4000000 in
set_option maxRecDepth 100000 in
theorem t_X6_turns_92 {p : Program} {l : Launch} {e : Env} {s : State} {m : MethodId} {args : Array Value} {below : List Frame} {meth : Method} {c : Code} {G : Gw} (X : KC p m meth c cX6_turns 9 s args wz_X6_turns RX6 (some .int) G) (Q : Int32 → Sg → Prop) (K83 : Int32 → Int32 → Int32 → Int32 → Int32 → Int32 → Sg → Prop) (hK83 : ∀ (σ : Sg) (x1 x2 x3 x4 x5 x6 : Int32) (H : Heap) (locs : List Loc) (ls : Array Slot), K83 x1 x2 x3 x4 x5 x6 σ → WK G s H locs σ → lv_has ls 9 [(0, .ref (G.1 30)), (1, .int x1), (2, .int x2), (3, .int x3), (4, .int x4), (5, .int x5), (6, .int x6)] → W p l e rm_X6_turns s m args below meth c H locs 0 0 (ZI below args s G Q) (F0 m 83 ls [])) : ∀ (n : Nat) (σ : Sg) (x1 x2 x3 x4 x5 x6 x7 : Int32) (H : Heap) (locs : List Loc) (ls : Array Slot), wp_X6_turns_92 Q K83 n x1 x2 x3 x4 x5 x6 x7 σ → WK G s H locs σ → lv_has ls 9 [(0, .ref (G.1 30)), (1, .int x1), (2, .int x2), (3, .int x3), (4, .int x4), (5, .int x5), (6, .int x6), (7, .int x7)] → W p l e rm_X6_turns s m args below meth c H locs 0 0 (ZI below args s G Q) (F0 m 92 ls []) := by
  have hx := X.1.1
  have hb := X.1.2.1
  intro n
  induction n with
  | zero =>
    intro σ x1 x2 x3 x4 x5 x6 x7 H locs ls hw hk hl
    exact False.elim hw
  | succ n ih =>
    intro σ x1 x2 x3 x4 x5 x6 x7 H locs ls hw hk hl
    rw [wp_X6_turns_92] at hw
    refine lv_iload hx hb dX6_turns_92 (lv_at hl 7 rfl) ?_
    refine lv_iload hx hb dX6_turns_94 (lv_at hl 5 rfl) ?_
    refine lv_icmp_ge (tgt := 168) hx hb dX6_turns_96 (by decide) (fun c22 => ?_) (fun c22 => ?_)
    · replace hw := hw.1 c22
      obtain ⟨x6_23, ex6_23⟩ : ∃ y : Int32, y = (x6 + (1 : Int32)) := ⟨_, rfl⟩
      replace hw := hw x6_23 ex6_23
      refine lv_iinc (v := x6_23) (lv' := [(6, .int x6_23), (0, .ref (G.1 30)), (1, .int x1), (2, .int x2), (3, .int x3), (4, .int x4), (5, .int x5), (7, .int x7)]) hx hb dX6_turns_168 hl (k := 6) rfl (by rw [ex6_23]; rfl) (Nat.le_of_ble_eq_true rfl) rfl (fun ls hl => ?_)
      refine lv_goto (tgt := 83) hx hb dX6_turns_171 (by decide) ?_
      exact hK83 _ _ _ _ _ _ _ _ _ _ hw hk (lv_sub hl [1, 2, 3, 4, 5, 6, 0] rfl)
    · replace hw := hw.2 c22
      refine lv_aload_n hx hb dX6_turns_99 rfl (lv_at hl 0 rfl) ?_
      refine lv_iload_n hx hb dX6_turns_100 rfl (lv_at hl 1 rfl) ?_
      refine lv_iload hx hb dX6_turns_101 (lv_at hl 7 rfl) ?_
      refine lv_iconst (v := (0 : Int32)) hx hb dX6_turns_103 (by decide) ?_
      refine k_callVi (rest := []) X hk (c_X6_laysRow l G _ _ _ _ _ hw) (cwV 3 X.1.2.2.2.2 (gzV (aw_r38 _ (List.mem_of_getElem? (i := 8) rfl)) (aw_r38 _ (List.mem_of_getElem? (i := 9) rfl)) (aw_r38 _ (List.mem_of_getElem? (i := 10) rfl)) (aw_r1 _ (List.mem_of_getElem? (i := 5) rfl)) (aw_r38 _ (List.mem_of_getElem? (i := 11) rfl))) rfl rfl rfl hd_X6_laysRow ⟨(Nat.le_of_ble_eq_true rfl), (Nat.le_of_ble_eq_true rfl)⟩) (wg_30 G _) rfl rfl hl.1 rfl (Nat.le_of_ble_eq_true rfl) dX6_turns_104 ⟨Nat.zero_le _, Nat.zero_le _⟩ (fun r25 σ24 H locs hw hk => ?_)
      refine lv_iload hx hb dX6_turns_107 (lv_at hl 6 rfl) ?_
      refine lv_icmp_eq (tgt := 115) hx hb dX6_turns_109 (by decide) (fun c26 => ?_) (fun c26 => ?_)
      · replace hw := hw.1 c26
        refine lv_aload_n hx hb dX6_turns_115 rfl (lv_at hl 0 rfl) ?_
        refine lv_iload_n hx hb dX6_turns_116 rfl (lv_at hl 1 rfl) ?_
        refine lv_iload hx hb dX6_turns_117 (lv_at hl 7 rfl) ?_
        refine lv_iconst (v := (1 : Int32)) hx hb dX6_turns_119 (by decide) ?_
        refine k_callVi (rest := []) X hk (c_X6_laysRow l G _ _ _ _ _ hw) (cwV 3 X.1.2.2.2.2 (gzV (aw_r38 _ (List.mem_of_getElem? (i := 8) rfl)) (aw_r38 _ (List.mem_of_getElem? (i := 9) rfl)) (aw_r38 _ (List.mem_of_getElem? (i := 10) rfl)) (aw_r1 _ (List.mem_of_getElem? (i := 5) rfl)) (aw_r38 _ (List.mem_of_getElem? (i := 11) rfl))) rfl rfl rfl hd_X6_laysRow ⟨(Nat.le_of_ble_eq_true rfl), (Nat.le_of_ble_eq_true rfl)⟩) (wg_30 G _) rfl rfl hl.1 rfl (Nat.le_of_ble_eq_true rfl) dX6_turns_120 ⟨Nat.zero_le _, Nat.zero_le _⟩ (fun r28 σ27 H locs hw hk => ?_)
        refine lv_istore (lv' := [(6, .int r28), (0, .ref (G.1 30)), (1, .int x1), (2, .int x2), (3, .int x3), (4, .int x4), (5, .int x5), (7, .int x7)]) hx hb dX6_turns_123 hl (Nat.le_of_ble_eq_true rfl) rfl (fun ls hl => ?_)
        refine lv_aload_n hx hb dX6_turns_125 rfl (lv_at hl 1 rfl) ?_
        refine lv_iload_n hx hb dX6_turns_126 rfl (lv_at hl 4 rfl) ?_
        refine lv_iconst (v := (-1 : Int32)) hx hb dX6_turns_127 (by decide) ?_
        refine lv_icmp_ne (tgt := 136) hx hb dX6_turns_128 (by decide) (fun c29 => ?_) (fun c29 => ?_)
        · replace hw := hw.2 c29
          refine lv_iload_n hx hb dX6_turns_136 rfl (lv_at hl 4 rfl) ?_
          exact t_X6_turns_137 X Q _ _ hK83 ih _ _ _ _ _ _ _ _ _ _ _ _ hw hk (lv_sub hl [1, 2, 3, 4, 5, 6, 0, 7] rfl)
        · replace hw := hw.1 c29
          refine lv_bipush (v := (41 : Int32)) hx hb dX6_turns_131 (by decide) ?_
          refine lv_goto (tgt := 137) hx hb dX6_turns_133 (by decide) ?_
          exact t_X6_turns_137 X Q _ _ hK83 ih _ _ _ _ _ _ _ _ _ _ _ _ hw hk (lv_sub hl [1, 2, 3, 4, 5, 6, 0, 7] rfl)
      · replace hw := hw.2 c26
        refine lv_goto (tgt := 162) hx hb dX6_turns_112 (by decide) ?_
        exact t_X6_turns_162 X Q _ _ hK83 ih _ _ _ _ _ _ _ _ _ _ _ hw hk hl
def wp_X6_turns_83 (Q : Int32 → Sg → Prop)  : Nat → Int32 → Int32 → Int32 → Int32 → Int32 → Int32 → Sg → Prop
  | 0, _, _, _, _, _, _, _ => False
  | n + 1, x1, x2, x3, x4, x5, x6, σ => ((4 : Int32) < x6 → ((x2 = 0 → (Q x3 σ)) ∧ (¬ (x2 = 0) → (Q x4 σ)))) ∧ (¬ ((4 : Int32) < x6) → (∃ n0, wp_X6_turns_92 Q (fun z1 z2 z3 z4 z5 z6 σ => wp_X6_turns_83 Q  n z1 z2 z3 z4 z5 z6 σ) n0 x1 x2 x3 x4 x5 x6 (1 : Int32) σ))
set_option maxHeartbeats 4000000 in
set_option maxRecDepth 100000 in
theorem t_X6_turns_83 {p : Program} {l : Launch} {e : Env} {s : State} {m : MethodId} {args : Array Value} {below : List Frame} {meth : Method} {c : Code} {G : Gw} (X : KC p m meth c cX6_turns 9 s args wz_X6_turns RX6 (some .int) G) (Q : Int32 → Sg → Prop)  : ∀ (n : Nat) (σ : Sg) (x1 x2 x3 x4 x5 x6 : Int32) (H : Heap) (locs : List Loc) (ls : Array Slot), wp_X6_turns_83 Q  n x1 x2 x3 x4 x5 x6 σ → WK G s H locs σ → lv_has ls 9 [(0, .ref (G.1 30)), (1, .int x1), (2, .int x2), (3, .int x3), (4, .int x4), (5, .int x5), (6, .int x6)] → W p l e rm_X6_turns s m args below meth c H locs 0 0 (ZI below args s G Q) (F0 m 83 ls []) := by
  have hx := X.1.1
  have hb := X.1.2.1
  intro n
  induction n with
  | zero =>
    intro σ x1 x2 x3 x4 x5 x6 H locs ls hw hk hl
    exact False.elim hw
  | succ n ih =>
    intro σ x1 x2 x3 x4 x5 x6 H locs ls hw hk hl
    rw [wp_X6_turns_83] at hw
    refine lv_iload hx hb dX6_turns_83 (lv_at hl 6 rfl) ?_
    refine lv_iconst (v := (4 : Int32)) hx hb dX6_turns_85 (by decide) ?_
    refine lv_icmp_gt (tgt := 174) hx hb dX6_turns_86 (by decide) (fun c20 => ?_) (fun c20 => ?_)
    · replace hw := hw.1 c20
      refine lv_iload_n hx hb dX6_turns_174 rfl (lv_at hl 2 rfl) ?_
      refine lv_if_ne (tgt := 182) hx hb dX6_turns_175 (by decide) (fun c21 => ?_) (fun c21 => ?_)
      · replace hw := hw.2 c21
        refine lv_iload hx hb dX6_turns_182 (lv_at hl 4 rfl) ?_
        exact k_iret X hk hw dX6_turns_184
      · replace hw := hw.1 c21
        refine lv_iload_n hx hb dX6_turns_178 rfl (lv_at hl 3 rfl) ?_
        refine lv_goto (tgt := 184) hx hb dX6_turns_179 (by decide) ?_
        exact k_iret X hk hw dX6_turns_184
    · replace hw := hw.2 c20
      refine lv_iconst (v := (1 : Int32)) hx hb dX6_turns_89 (by decide) ?_
      refine lv_istore (lv' := [(7, .int (1 : Int32)), (0, .ref (G.1 30)), (1, .int x1), (2, .int x2), (3, .int x3), (4, .int x4), (5, .int x5), (6, .int x6)]) hx hb dX6_turns_90 hl (Nat.le_of_ble_eq_true rfl) rfl (fun ls hl => ?_)
      obtain ⟨n0, hw⟩ := hw
      exact t_X6_turns_92 X Q _ ih n0 _ _ _ _ _ _ _ _ _ _ _ hw hk (lv_sub hl [1, 2, 3, 4, 5, 6, 7, 0] rfl)
def wp_X6_turns_55 (Q : Int32 → Sg → Prop)  : Nat → Int32 → Int32 → Int32 → Int32 → Int32 → Int32 → Sg → Prop
  | 0, _, _, _, _, _, _, _ => False
  | n + 1, x1, x2, x3, x4, x5, x6, σ => wp_X6_bits σ x1 (fun r16 σ15 => (r16 ≤ x6 → (wp_X6_keeps σ15  (fun σ18 => ∃ n0, wp_X6_turns_83 Q  n0 x1 x2 x3 x4 x5 (1 : Int32) σ18))) ∧ (¬ (r16 ≤ x6) → (∀ x5_36 : Int32, x5_36 = (x5 * (3 : Int32)) → (∀ x6_37 : Int32, x6_37 = (x6 + (1 : Int32)) → (wp_X6_turns_55 Q  n x1 x2 x3 x4 x5_36 x6_37 σ15)))))
set_option maxHeartbeats 4000000 in
set_option maxRecDepth 100000 in
theorem t_X6_turns_55 {p : Program} {l : Launch} {e : Env} {s : State} {m : MethodId} {args : Array Value} {below : List Frame} {meth : Method} {c : Code} {G : Gw} (X : KC p m meth c cX6_turns 9 s args wz_X6_turns RX6 (some .int) G) (Q : Int32 → Sg → Prop)  : ∀ (n : Nat) (σ : Sg) (x1 x2 x3 x4 x5 x6 : Int32) (H : Heap) (locs : List Loc) (ls : Array Slot), wp_X6_turns_55 Q  n x1 x2 x3 x4 x5 x6 σ → WK G s H locs σ → lv_has ls 9 [(0, .ref (G.1 30)), (1, .int x1), (2, .int x2), (3, .int x3), (4, .int x4), (5, .int x5), (6, .int x6)] → W p l e rm_X6_turns s m args below meth c H locs 0 0 (ZI below args s G Q) (F0 m 55 ls []) := by
  have hx := X.1.1
  have hb := X.1.2.1
  intro n
  induction n with
  | zero =>
    intro σ x1 x2 x3 x4 x5 x6 H locs ls hw hk hl
    exact False.elim hw
  | succ n ih =>
    intro σ x1 x2 x3 x4 x5 x6 H locs ls hw hk hl
    rw [wp_X6_turns_55] at hw
    refine lv_iload hx hb dX6_turns_55 (lv_at hl 6 rfl) ?_
    refine lv_iload_n hx hb dX6_turns_57 rfl (lv_at hl 1 rfl) ?_
    refine k_callSi (rest := [.int x6]) X hk (c_X6_bits l G _ _ _ hw) (va_cwS 1 X.1.2.2.2.2 (gzS (aw_r38 _ (List.mem_of_getElem? (i := 5) rfl)) (aw_r38 _ (List.mem_of_getElem? (i := 6) rfl)) (aw_r1 _ (List.mem_of_getElem? (i := 5) rfl)) (aw_r38 _ (List.mem_of_getElem? (i := 7) rfl))) rfl rfl rfl hds_X6_bits ⟨(Nat.le_of_ble_eq_true rfl), (Nat.le_of_ble_eq_true rfl)⟩) rfl hl.1 rfl (Nat.le_of_ble_eq_true rfl) dX6_turns_58 ⟨Nat.zero_le _, Nat.zero_le _⟩ (fun r16 σ15 H locs hw hk => ?_)
    refine lv_icmp_ge (tgt := 76) hx hb dX6_turns_61 (by decide) (fun c17 => ?_) (fun c17 => ?_)
    · replace hw := hw.1 c17
      refine lv_aload_n hx hb dX6_turns_76 rfl (lv_at hl 0 rfl) ?_
      refine k_callVv (rest := []) X hk (c_X6_keeps l G _  _ hw) (cwV 0 X.1.2.2.2.2 (gzV (aw_r14 _ (List.mem_of_getElem? (i := 14) rfl)) (aw_r14 _ (List.mem_of_getElem? (i := 15) rfl)) (aw_r14 _ (List.mem_of_getElem? (i := 16) rfl)) (aw_r1 _ (List.mem_of_getElem? (i := 5) rfl)) (aw_r14 _ (List.mem_of_getElem? (i := 17) rfl))) rfl rfl rfl hd_X6_keeps ⟨(Nat.le_of_ble_eq_true rfl), (Nat.le_of_ble_eq_true rfl)⟩) (wg_30 G _) rfl rfl hl.1 rfl (Nat.le_of_ble_eq_true rfl) dX6_turns_77 ⟨Nat.zero_le _, Nat.zero_le _⟩ (fun σ18 H locs hw hk => ?_)
      refine lv_iconst (v := (1 : Int32)) hx hb dX6_turns_80 (by decide) ?_
      refine lv_istore (lv' := [(6, .int (1 : Int32)), (0, .ref (G.1 30)), (1, .int x1), (2, .int x2), (3, .int x3), (4, .int x4), (5, .int x5)]) hx hb dX6_turns_81 hl (Nat.le_of_ble_eq_true rfl) rfl (fun ls hl => ?_)
      obtain ⟨n0, hw⟩ := hw
      exact t_X6_turns_83 X Q   n0 _ _ _ _ _ _ _ _ _ _ hw hk (lv_sub hl [1, 2, 3, 4, 5, 6, 0] rfl)
    · replace hw := hw.2 c17
      refine lv_iload hx hb dX6_turns_64 (lv_at hl 5 rfl) ?_
      refine lv_iconst (v := (3 : Int32)) hx hb dX6_turns_66 (by decide) ?_
      refine lv_imul hx hb dX6_turns_67 ?_
      refine lv_topi (fun x5_36 ex5_36 => ?_)
      replace hw := hw x5_36 ex5_36
      refine lv_istore (lv' := [(5, .int x5_36), (0, .ref (G.1 30)), (1, .int x1), (2, .int x2), (3, .int x3), (4, .int x4), (6, .int x6)]) hx hb dX6_turns_68 hl (Nat.le_of_ble_eq_true rfl) rfl (fun ls hl => ?_)
      obtain ⟨x6_37, ex6_37⟩ : ∃ y : Int32, y = (x6 + (1 : Int32)) := ⟨_, rfl⟩
      replace hw := hw x6_37 ex6_37
      refine lv_iinc (v := x6_37) (lv' := [(6, .int x6_37), (5, .int x5_36), (0, .ref (G.1 30)), (1, .int x1), (2, .int x2), (3, .int x3), (4, .int x4)]) hx hb dX6_turns_70 hl (k := 6) rfl (by rw [ex6_37]; rfl) (Nat.le_of_ble_eq_true rfl) rfl (fun ls hl => ?_)
      refine lv_goto (tgt := 55) hx hb dX6_turns_73 (by decide) ?_
      exact ih _ _ _ _ _ _ _ _ _ _ hw hk (lv_sub hl [2, 3, 4, 5, 6, 1, 0] rfl)
def wp_X6_turns (σ : Sg) (p1 p2 : Int32) (Q : Int32 → Sg → Prop) : Prop := ∀ σ1 : Sg, σ1 = (put σ 30 0 (0 : Int32)) → (wp_X6_roads σ1  (fun r3 σ2 => wp_X6_isIn σ2 p1 (0 : Int32) (((1 : Int32) <<< (r3 &&& 31)) - (1 : Int32)) (fun r5 σ4 => (r5 = 0 → (Q (-2 : Int32) σ4)) ∧ (¬ (r5 = 0) → (wp_X6_bits σ4 p1 (fun r8 σ7 => ((4 : Int32) < r8 → (Q (-2 : Int32) σ7)) ∧ (¬ ((4 : Int32) < r8) → (wp_X6_isIn σ7 p2 (0 : Int32) (1 : Int32) (fun r11 σ10 => (r11 = 0 → (Q (-2 : Int32) σ10)) ∧ (¬ (r11 = 0) → (wp_X6_quickestNow σ10  (fun r14 σ13 => ∃ n0, wp_X6_turns_55 Q  n0 p1 p2 r14 (0 : Int32) (1 : Int32) (0 : Int32) σ13))))))))))))
set_option maxHeartbeats 4000000 in
set_option maxRecDepth 100000 in
theorem c_X6_turns (l : Launch) (G : Gw) (σ : Sg) (p1 p2 : Int32) (Q : Int32 → Sg → Prop) (hw : wp_X6_turns σ p1 p2 Q) : MetI l yX6_turns wz_X6_turns rm_X6_turns G σ [.ref (G.1 30), .int p1, .int p2] Q := by
  refine MetI.of cX6_turns 9 (some .int) (by decide) rfl (Nat.le_of_ble_eq_true rfl) ?_
  intro p e s m below meth c X hk ls hl
  have X : KC p m meth c cX6_turns 9 s _ wz_X6_turns RX6 (some .int) G := X
  have hl : lv_has ls 9 [(0, .ref (G.1 30)), (1, .int p1), (2, .int p2)] := hl
  unfold wp_X6_turns at hw
  have hx := X.1.1
  have hb := X.1.2.1
  refine lv_aload_n hx hb dX6_turns_0 rfl (lv_at hl 0 rfl) ?_
  refine lv_iconst (v := (0 : Int32)) hx hb dX6_turns_1 (by decide) ?_
  refine k_put 0 X hk (wg_30 G _) rfl (hz_wsX60 _) tyX6_ok nmX6 (Nat.le_of_ble_eq_true rfl) (List.mem_cons_of_mem _ (aw_r6 _ (List.mem_of_getElem? (i := 3) rfl))) rfl rfl (Nat.le_of_ble_eq_true rfl) (ws_30_0 G _ _) dX6_turns_2 (fun H locs hk => ?_)
  obtain ⟨σ1, eσ1⟩ : ∃ y : Sg, y = (put σ 30 0 (0 : Int32)) := ⟨_, rfl⟩
  rw [← eσ1] at hk
  replace hw := hw σ1 eσ1
  refine lv_iload_n hx hb dX6_turns_5 rfl (lv_at hl 1 rfl) ?_
  refine lv_iconst (v := (0 : Int32)) hx hb dX6_turns_6 (by decide) ?_
  refine lv_iconst (v := (1 : Int32)) hx hb dX6_turns_7 (by decide) ?_
  refine lv_aload_n hx hb dX6_turns_8 rfl (lv_at hl 0 rfl) ?_
  refine k_callVi (rest := [.int (1 : Int32), .int (0 : Int32), .int p1]) X hk (c_X6_roads l G _  _ hw) (cwV 0 X.1.2.2.2.2 (gzV (aw_r16 _ (List.mem_of_getElem? (i := 18) rfl)) (aw_r16 _ (List.mem_of_getElem? (i := 19) rfl)) (aw_r16 _ (List.mem_of_getElem? (i := 20) rfl)) (aw_r1 _ (List.mem_of_getElem? (i := 5) rfl)) (aw_r16 _ (List.mem_of_getElem? (i := 21) rfl))) rfl rfl rfl hd_X6_roads ⟨(Nat.le_of_ble_eq_true rfl), (Nat.le_of_ble_eq_true rfl)⟩) (wg_30 G _) rfl rfl hl.1 rfl (Nat.le_of_ble_eq_true rfl) dX6_turns_9 ⟨Nat.zero_le _, Nat.zero_le _⟩ (fun r3 σ2 H locs hw hk => ?_)
  refine lv_ishl hx hb dX6_turns_12 ?_
  refine lv_iconst (v := (1 : Int32)) hx hb dX6_turns_13 (by decide) ?_
  refine lv_isub hx hb dX6_turns_14 ?_
  refine k_callSi (rest := []) X hk (c_X6_isIn l G _ _ _ _ _ hw) (va_cwS 3 X.1.2.2.2.2 (gzS (aw_r6 _ (List.mem_of_getElem? (i := 17) rfl)) (aw_r6 _ (List.mem_of_getElem? (i := 18) rfl)) (aw_r1 _ (List.mem_of_getElem? (i := 5) rfl)) (aw_r6 _ (List.mem_of_getElem? (i := 19) rfl))) rfl rfl rfl hds_X6_isIn ⟨(Nat.le_of_ble_eq_true rfl), (Nat.le_of_ble_eq_true rfl)⟩) rfl hl.1 rfl (Nat.le_of_ble_eq_true rfl) dX6_turns_15 ⟨Nat.zero_le _, Nat.zero_le _⟩ (fun r5 σ4 H locs hw hk => ?_)
  refine lv_if_eq (tgt := 38) hx hb dX6_turns_18 (by decide) (fun c6 => ?_) (fun c6 => ?_)
  · replace hw := hw.1 c6
    refine lv_bipush (v := (-2 : Int32)) hx hb dX6_turns_38 (by decide) ?_
    exact k_iret X hk hw dX6_turns_40
  · replace hw := hw.2 c6
    refine lv_iload_n hx hb dX6_turns_21 rfl (lv_at hl 1 rfl) ?_
    refine k_callSi (rest := []) X hk (c_X6_bits l G _ _ _ hw) (va_cwS 1 X.1.2.2.2.2 (gzS (aw_r38 _ (List.mem_of_getElem? (i := 5) rfl)) (aw_r38 _ (List.mem_of_getElem? (i := 6) rfl)) (aw_r1 _ (List.mem_of_getElem? (i := 5) rfl)) (aw_r38 _ (List.mem_of_getElem? (i := 7) rfl))) rfl rfl rfl hds_X6_bits ⟨(Nat.le_of_ble_eq_true rfl), (Nat.le_of_ble_eq_true rfl)⟩) rfl hl.1 rfl (Nat.le_of_ble_eq_true rfl) dX6_turns_22 ⟨Nat.zero_le _, Nat.zero_le _⟩ (fun r8 σ7 H locs hw hk => ?_)
    refine lv_iconst (v := (4 : Int32)) hx hb dX6_turns_25 (by decide) ?_
    refine lv_icmp_gt (tgt := 38) hx hb dX6_turns_26 (by decide) (fun c9 => ?_) (fun c9 => ?_)
    · replace hw := hw.1 c9
      refine lv_bipush (v := (-2 : Int32)) hx hb dX6_turns_38 (by decide) ?_
      exact k_iret X hk hw dX6_turns_40
    · replace hw := hw.2 c9
      refine lv_iload_n hx hb dX6_turns_29 rfl (lv_at hl 2 rfl) ?_
      refine lv_iconst (v := (0 : Int32)) hx hb dX6_turns_30 (by decide) ?_
      refine lv_iconst (v := (1 : Int32)) hx hb dX6_turns_31 (by decide) ?_
      refine k_callSi (rest := []) X hk (c_X6_isIn l G _ _ _ _ _ hw) (va_cwS 3 X.1.2.2.2.2 (gzS (aw_r6 _ (List.mem_of_getElem? (i := 17) rfl)) (aw_r6 _ (List.mem_of_getElem? (i := 18) rfl)) (aw_r1 _ (List.mem_of_getElem? (i := 5) rfl)) (aw_r6 _ (List.mem_of_getElem? (i := 19) rfl))) rfl rfl rfl hds_X6_isIn ⟨(Nat.le_of_ble_eq_true rfl), (Nat.le_of_ble_eq_true rfl)⟩) rfl hl.1 rfl (Nat.le_of_ble_eq_true rfl) dX6_turns_32 ⟨Nat.zero_le _, Nat.zero_le _⟩ (fun r11 σ10 H locs hw hk => ?_)
      refine lv_if_ne (tgt := 41) hx hb dX6_turns_35 (by decide) (fun c12 => ?_) (fun c12 => ?_)
      · replace hw := hw.2 c12
        refine lv_aload_n hx hb dX6_turns_41 rfl (lv_at hl 0 rfl) ?_
        refine k_callVi (rest := []) X hk (c_X6_quickestNow l G _  _ hw) (cwV 0 X.1.2.2.2.2 (gzV (aw_r31 _ (List.mem_of_getElem? (i := 5) rfl)) (aw_r31 _ (List.mem_of_getElem? (i := 6) rfl)) (aw_r31 _ (List.mem_of_getElem? (i := 7) rfl)) (aw_r1 _ (List.mem_of_getElem? (i := 5) rfl)) (aw_r31 _ (List.mem_of_getElem? (i := 8) rfl))) rfl rfl rfl hd_X6_quickestNow ⟨(Nat.le_of_ble_eq_true rfl), (Nat.le_of_ble_eq_true rfl)⟩) (wg_30 G _) rfl rfl hl.1 rfl (Nat.le_of_ble_eq_true rfl) dX6_turns_42 ⟨Nat.zero_le _, Nat.zero_le _⟩ (fun r14 σ13 H locs hw hk => ?_)
        refine lv_istore_n (lv' := [(3, .int r14), (0, .ref (G.1 30)), (1, .int p1), (2, .int p2)]) hx hb dX6_turns_45 rfl hl (Nat.le_of_ble_eq_true rfl) rfl (fun ls hl => ?_)
        refine lv_iconst (v := (0 : Int32)) hx hb dX6_turns_46 (by decide) ?_
        refine lv_istore (lv' := [(4, .int (0 : Int32)), (3, .int r14), (0, .ref (G.1 30)), (1, .int p1), (2, .int p2)]) hx hb dX6_turns_47 hl (Nat.le_of_ble_eq_true rfl) rfl (fun ls hl => ?_)
        refine lv_iconst (v := (1 : Int32)) hx hb dX6_turns_49 (by decide) ?_
        refine lv_istore (lv' := [(5, .int (1 : Int32)), (4, .int (0 : Int32)), (3, .int r14), (0, .ref (G.1 30)), (1, .int p1), (2, .int p2)]) hx hb dX6_turns_50 hl (Nat.le_of_ble_eq_true rfl) rfl (fun ls hl => ?_)
        refine lv_iconst (v := (0 : Int32)) hx hb dX6_turns_52 (by decide) ?_
        refine lv_istore (lv' := [(6, .int (0 : Int32)), (5, .int (1 : Int32)), (4, .int (0 : Int32)), (3, .int r14), (0, .ref (G.1 30)), (1, .int p1), (2, .int p2)]) hx hb dX6_turns_53 hl (Nat.le_of_ble_eq_true rfl) rfl (fun ls hl => ?_)
        obtain ⟨n0, hw⟩ := hw
        exact t_X6_turns_55 X Q   n0 _ _ _ _ _ _ _ _ _ _ hw hk (lv_sub hl [4, 5, 6, 3, 2, 1, 0] rfl)
      · replace hw := hw.1 c12
        refine lv_bipush (v := (-2 : Int32)) hx hb dX6_turns_38 (by decide) ?_
        exact k_iret X hk hw dX6_turns_40
def rm_X6_with : Room := { frames := 6, cells := 0, slots := 0, locals := 133 }
abbrev wz_X6_with : List Cond := Cond.code yX6_with cX6_with 5 (some .int) :: wsA
theorem hd_X6_with : yX6_with.cls = RX6 ∧ yX6_with.cls ≠ "java/lang/invoke/MethodHandle" ∧ yX6_with.cls ≠ "java/lang/invoke/VarHandle" ∧ (parseMethodDescriptor yX6_with.desc).map (fun d => d.parameters.length) = some 3 := by decide +kernel
def wp_X6_with (σ : Sg) (p1 p2 p3 : Int32) (Q : Int32 → Sg → Prop) : Prop := wp_X6_keeps σ  (fun σ1 => vp_in (((3 : Int32) + ((4 : Int32) * p1)) + p2) 256 ∧ (∀ σ3 : Sg, σ3 = (put σ1 31 ((((3 : Int32) + ((4 : Int32) * p1)) + p2)).toNatClampNeg p3) → (wp_X6_quickestNow σ3  (fun r5 σ4 => wp_X6_comesBack σ4  (fun σ6 => Q r5 σ6)))))
set_option maxHeartbeats 4000000 in
set_option maxRecDepth 100000 in
theorem c_X6_with (l : Launch) (G : Gw) (σ : Sg) (p1 p2 p3 : Int32) (Q : Int32 → Sg → Prop) (hw : wp_X6_with σ p1 p2 p3 Q) : MetI l yX6_with wz_X6_with rm_X6_with G σ [.ref (G.1 30), .int p1, .int p2, .int p3] Q := by
  refine MetI.of cX6_with 5 (some .int) (by decide) rfl (Nat.le_of_ble_eq_true rfl) ?_
  intro p e s m below meth c X hk ls hl
  have X : KC p m meth c cX6_with 5 s _ wz_X6_with RX6 (some .int) G := X
  have hl : lv_has ls 5 [(0, .ref (G.1 30)), (1, .int p1), (2, .int p2), (3, .int p3)] := hl
  unfold wp_X6_with at hw
  have hx := X.1.1
  have hb := X.1.2.1
  refine lv_aload_n hx hb dX6_with_0 rfl (lv_at hl 0 rfl) ?_
  refine k_callVv (rest := []) X hk (c_X6_keeps l G _  _ hw) (cwV 0 X.1.2.2.2.2 (gzV (aw_r14 _ (List.mem_of_getElem? (i := 14) rfl)) (aw_r14 _ (List.mem_of_getElem? (i := 15) rfl)) (aw_r14 _ (List.mem_of_getElem? (i := 16) rfl)) (aw_r1 _ (List.mem_of_getElem? (i := 5) rfl)) (aw_r14 _ (List.mem_of_getElem? (i := 17) rfl))) rfl rfl rfl hd_X6_keeps ⟨(Nat.le_of_ble_eq_true rfl), (Nat.le_of_ble_eq_true rfl)⟩) (wg_30 G _) rfl rfl hl.1 rfl (Nat.le_of_ble_eq_true rfl) dX6_with_1 ⟨Nat.zero_le _, Nat.zero_le _⟩ (fun σ1 H locs hw hk => ?_)
  refine lv_aload_n hx hb dX6_with_4 rfl (lv_at hl 0 rfl) ?_
  refine k_get 1 X hk (wg_30 G _) rfl (hz_wsX60 _) (Nat.le_of_ble_eq_true rfl) (List.mem_cons_of_mem _ (aw_r4 _ (List.mem_of_getElem? (i := 16) rfl))) rfl dX6_with_5 ?_
  refine lv_iconst (v := (3 : Int32)) hx hb dX6_with_8 (by decide) ?_
  refine lv_iconst (v := (4 : Int32)) hx hb dX6_with_9 (by decide) ?_
  refine lv_iload_n hx hb dX6_with_10 rfl (lv_at hl 1 rfl) ?_
  refine lv_imul hx hb dX6_with_11 ?_
  refine lv_iadd hx hb dX6_with_12 ?_
  refine lv_iload_n hx hb dX6_with_13 rfl (lv_at hl 2 rfl) ?_
  refine lv_iadd hx hb dX6_with_14 ?_
  refine lv_iload_n hx hb dX6_with_15 rfl (lv_at hl 3 rfl) ?_
  refine k_iast X hk (wg_31 G _) (ws_31 G _) rfl hw.1 dX6_with_16 (fun H locs hk => ?_)
  replace hw := hw.2
  obtain ⟨σ3, eσ3⟩ : ∃ y : Sg, y = (put σ1 31 ((((3 : Int32) + ((4 : Int32) * p1)) + p2)).toNatClampNeg p3) := ⟨_, rfl⟩
  rw [← eσ3] at hk
  replace hw := hw σ3 eσ3
  refine lv_aload_n hx hb dX6_with_17 rfl (lv_at hl 0 rfl) ?_
  refine k_callVi (rest := []) X hk (c_X6_quickestNow l G _  _ hw) (cwV 0 X.1.2.2.2.2 (gzV (aw_r31 _ (List.mem_of_getElem? (i := 5) rfl)) (aw_r31 _ (List.mem_of_getElem? (i := 6) rfl)) (aw_r31 _ (List.mem_of_getElem? (i := 7) rfl)) (aw_r1 _ (List.mem_of_getElem? (i := 5) rfl)) (aw_r31 _ (List.mem_of_getElem? (i := 8) rfl))) rfl rfl rfl hd_X6_quickestNow ⟨(Nat.le_of_ble_eq_true rfl), (Nat.le_of_ble_eq_true rfl)⟩) (wg_30 G _) rfl rfl hl.1 rfl (Nat.le_of_ble_eq_true rfl) dX6_with_18 ⟨Nat.zero_le _, Nat.zero_le _⟩ (fun r5 σ4 H locs hw hk => ?_)
  refine lv_istore (lv' := [(4, .int r5), (0, .ref (G.1 30)), (1, .int p1), (2, .int p2), (3, .int p3)]) hx hb dX6_with_21 hl (Nat.le_of_ble_eq_true rfl) rfl (fun ls hl => ?_)
  refine lv_aload_n hx hb dX6_with_23 rfl (lv_at hl 1 rfl) ?_
  refine k_callVv (rest := []) X hk (c_X6_comesBack l G _  _ hw) (cwV 0 X.1.2.2.2.2 (gzV (aw_r18 _ (List.mem_of_getElem? (i := 10) rfl)) (aw_r18 _ (List.mem_of_getElem? (i := 11) rfl)) (aw_r18 _ (List.mem_of_getElem? (i := 12) rfl)) (aw_r1 _ (List.mem_of_getElem? (i := 5) rfl)) (aw_r18 _ (List.mem_of_getElem? (i := 13) rfl))) rfl rfl rfl hd_X6_comesBack ⟨(Nat.le_of_ble_eq_true rfl), (Nat.le_of_ble_eq_true rfl)⟩) (wg_30 G _) rfl rfl hl.1 rfl (Nat.le_of_ble_eq_true rfl) dX6_with_24 ⟨Nat.zero_le _, Nat.zero_le _⟩ (fun σ6 H locs hw hk => ?_)
  refine lv_iload hx hb dX6_with_27 (lv_at hl 0 rfl) ?_
  exact k_iret X hk hw dX6_with_29
def rm_X6_roomy : Room := { frames := 7, cells := 0, slots := 0, locals := 157 }
abbrev wz_X6_roomy : List Cond := Cond.code yX6_roomy cX6_roomy 3 (some .int) :: wsA
theorem hd_X6_roomy : yX6_roomy.cls = RX6 ∧ yX6_roomy.cls ≠ "java/lang/invoke/MethodHandle" ∧ yX6_roomy.cls ≠ "java/lang/invoke/VarHandle" ∧ (parseMethodDescriptor yX6_roomy.desc).map (fun d => d.parameters.length) = some 2 := by decide +kernel
def wp_X6_roomy (σ : Sg) (p1 p2 : Int32) (Q : Int32 → Sg → Prop) : Prop := ∀ σ1 : Sg, σ1 = (put σ 30 0 (0 : Int32)) → (wp_X6_isPlace σ1 p1 (fun r3 σ2 => (r3 = 0 → (Q (-2 : Int32) σ2)) ∧ (¬ (r3 = 0) → (wp_X6_mayBe σ2 (1 : Int32) p2 (fun r6 σ5 => (r6 = 0 → (Q (-2 : Int32) σ5)) ∧ (¬ (r6 = 0) → (wp_X6_with σ5 p1 (1 : Int32) p2 (fun r9 σ8 => Q r9 σ8))))))))
set_option maxHeartbeats 4000000 in
set_option maxRecDepth 100000 in
theorem c_X6_roomy (l : Launch) (G : Gw) (σ : Sg) (p1 p2 : Int32) (Q : Int32 → Sg → Prop) (hw : wp_X6_roomy σ p1 p2 Q) : MetI l yX6_roomy wz_X6_roomy rm_X6_roomy G σ [.ref (G.1 30), .int p1, .int p2] Q := by
  refine MetI.of cX6_roomy 3 (some .int) (by decide) rfl (Nat.le_of_ble_eq_true rfl) ?_
  intro p e s m below meth c X hk ls hl
  have X : KC p m meth c cX6_roomy 3 s _ wz_X6_roomy RX6 (some .int) G := X
  have hl : lv_has ls 3 [(0, .ref (G.1 30)), (1, .int p1), (2, .int p2)] := hl
  unfold wp_X6_roomy at hw
  have hx := X.1.1
  have hb := X.1.2.1
  refine lv_aload_n hx hb dX6_roomy_0 rfl (lv_at hl 0 rfl) ?_
  refine lv_iconst (v := (0 : Int32)) hx hb dX6_roomy_1 (by decide) ?_
  refine k_put 0 X hk (wg_30 G _) rfl (hz_wsX60 _) tyX6_ok nmX6 (Nat.le_of_ble_eq_true rfl) (List.mem_cons_of_mem _ (aw_r6 _ (List.mem_of_getElem? (i := 3) rfl))) rfl rfl (Nat.le_of_ble_eq_true rfl) (ws_30_0 G _ _) dX6_roomy_2 (fun H locs hk => ?_)
  obtain ⟨σ1, eσ1⟩ : ∃ y : Sg, y = (put σ 30 0 (0 : Int32)) := ⟨_, rfl⟩
  rw [← eσ1] at hk
  replace hw := hw σ1 eσ1
  refine lv_aload_n hx hb dX6_roomy_5 rfl (lv_at hl 0 rfl) ?_
  refine lv_iload_n hx hb dX6_roomy_6 rfl (lv_at hl 1 rfl) ?_
  refine k_callVi (rest := []) X hk (c_X6_isPlace l G _ _ _ hw) (cwV 1 X.1.2.2.2.2 (gzV (aw_r20 _ (List.mem_of_getElem? (i := 0) rfl)) (aw_r20 _ (List.mem_of_getElem? (i := 1) rfl)) (aw_r20 _ (List.mem_of_getElem? (i := 2) rfl)) (aw_r1 _ (List.mem_of_getElem? (i := 5) rfl)) (aw_r20 _ (List.mem_of_getElem? (i := 3) rfl))) rfl rfl rfl hd_X6_isPlace ⟨(Nat.le_of_ble_eq_true rfl), (Nat.le_of_ble_eq_true rfl)⟩) (wg_30 G _) rfl rfl hl.1 rfl (Nat.le_of_ble_eq_true rfl) dX6_roomy_7 ⟨Nat.zero_le _, Nat.zero_le _⟩ (fun r3 σ2 H locs hw hk => ?_)
  refine lv_if_eq (tgt := 31) hx hb dX6_roomy_10 (by decide) (fun c4 => ?_) (fun c4 => ?_)
  · replace hw := hw.1 c4
    refine lv_bipush (v := (-2 : Int32)) hx hb dX6_roomy_31 (by decide) ?_
    exact k_iret X hk hw dX6_roomy_33
  · replace hw := hw.2 c4
    refine lv_iconst (v := (1 : Int32)) hx hb dX6_roomy_13 (by decide) ?_
    refine lv_iload_n hx hb dX6_roomy_14 rfl (lv_at hl 2 rfl) ?_
    refine k_callSi (rest := []) X hk (c_X6_mayBe l G _ _ _ _ hw) (va_cwS 2 X.1.2.2.2.2 (gzS (aw_r19 _ (List.mem_of_getElem? (i := 10) rfl)) (aw_r19 _ (List.mem_of_getElem? (i := 11) rfl)) (aw_r1 _ (List.mem_of_getElem? (i := 5) rfl)) (aw_r19 _ (List.mem_of_getElem? (i := 12) rfl))) rfl rfl rfl hds_X6_mayBe ⟨(Nat.le_of_ble_eq_true rfl), (Nat.le_of_ble_eq_true rfl)⟩) rfl hl.1 rfl (Nat.le_of_ble_eq_true rfl) dX6_roomy_15 ⟨Nat.zero_le _, Nat.zero_le _⟩ (fun r6 σ5 H locs hw hk => ?_)
    refine lv_if_eq (tgt := 31) hx hb dX6_roomy_18 (by decide) (fun c7 => ?_) (fun c7 => ?_)
    · replace hw := hw.1 c7
      refine lv_bipush (v := (-2 : Int32)) hx hb dX6_roomy_31 (by decide) ?_
      exact k_iret X hk hw dX6_roomy_33
    · replace hw := hw.2 c7
      refine lv_aload_n hx hb dX6_roomy_21 rfl (lv_at hl 0 rfl) ?_
      refine lv_iload_n hx hb dX6_roomy_22 rfl (lv_at hl 1 rfl) ?_
      refine lv_iconst (v := (1 : Int32)) hx hb dX6_roomy_23 (by decide) ?_
      refine lv_iload_n hx hb dX6_roomy_24 rfl (lv_at hl 2 rfl) ?_
      refine k_callVi (rest := []) X hk (c_X6_with l G _ _ _ _ _ hw) (cwV 3 X.1.2.2.2.2 (gzV (aw_r38 _ (List.mem_of_getElem? (i := 20) rfl)) (aw_r38 _ (List.mem_of_getElem? (i := 21) rfl)) (aw_r38 _ (List.mem_of_getElem? (i := 22) rfl)) (aw_r1 _ (List.mem_of_getElem? (i := 5) rfl)) (aw_r38 _ (List.mem_of_getElem? (i := 23) rfl))) rfl rfl rfl hd_X6_with ⟨(Nat.le_of_ble_eq_true rfl), (Nat.le_of_ble_eq_true rfl)⟩) (wg_30 G _) rfl rfl hl.1 rfl (Nat.le_of_ble_eq_true rfl) dX6_roomy_25 ⟨Nat.zero_le _, Nat.zero_le _⟩ (fun r9 σ8 H locs hw hk => ?_)
      refine lv_goto (tgt := 33) hx hb dX6_roomy_28 (by decide) ?_
      exact k_iret X hk hw dX6_roomy_33
def rm_X6_best : Room := { frames := 7, cells := 0, slots := 0, locals := 157 }
abbrev wz_X6_best : List Cond := Cond.code yX6_best cX6_best 6 (some .int) :: wsA
theorem hd_X6_best : yX6_best.cls = RX6 ∧ yX6_best.cls ≠ "java/lang/invoke/MethodHandle" ∧ yX6_best.cls ≠ "java/lang/invoke/VarHandle" ∧ (parseMethodDescriptor yX6_best.desc).map (fun d => d.parameters.length) = some 1 := by decide +kernel
def wp_X6_best_88 (Q : Int32 → Sg → Prop) (K34 : Int32 → Int32 → Int32 → Int32 → Sg → Prop) (x1 x2 x3 x4 : Int32) (σ : Sg) : Prop := ∀ x4_18 : Int32, x4_18 = (x4 + (1 : Int32)) → (K34 x1 x2 x3 x4_18 σ)
set_option maxHeartbeats 4000000 in
set_option maxRecDepth 100000 in
theorem t_X6_best_88 {p : Program} {l : Launch} {e : Env} {s : State} {m : MethodId} {args : Array Value} {below : List Frame} {meth : Method} {c : Code} {G : Gw} (X : KC p m meth c cX6_best 6 s args wz_X6_best RX6 (some .int) G) (Q : Int32 → Sg → Prop) (K34 : Int32 → Int32 → Int32 → Int32 → Sg → Prop) (hK34 : ∀ (σ : Sg) (x1 x2 x3 x4 : Int32) (H : Heap) (locs : List Loc) (ls : Array Slot), K34 x1 x2 x3 x4 σ → WK G s H locs σ → lv_has ls 6 [(0, .ref (G.1 30)), (1, .int x1), (2, .int x2), (3, .int x3), (4, .int x4)] → W p l e rm_X6_best s m args below meth c H locs 0 0 (ZI below args s G Q) (F0 m 34 ls [])) : ∀ (σ : Sg) (x1 x2 x3 x4 : Int32) (H : Heap) (locs : List Loc) (ls : Array Slot), wp_X6_best_88 Q K34 x1 x2 x3 x4 σ → WK G s H locs σ → lv_has ls 6 [(0, .ref (G.1 30)), (1, .int x1), (2, .int x2), (3, .int x3), (4, .int x4)] → W p l e rm_X6_best s m args below meth c H locs 0 0 (ZI below args s G Q) (F0 m 88 ls []) := by
  have hx := X.1.1
  have hb := X.1.2.1
  intro σ x1 x2 x3 x4 H locs ls hw hk hl
  unfold wp_X6_best_88 at hw
  obtain ⟨x4_18, ex4_18⟩ : ∃ y : Int32, y = (x4 + (1 : Int32)) := ⟨_, rfl⟩
  replace hw := hw x4_18 ex4_18
  refine lv_iinc (v := x4_18) (lv' := [(4, .int x4_18), (0, .ref (G.1 30)), (1, .int x1), (2, .int x2), (3, .int x3)]) hx hb dX6_best_88 hl (k := 4) rfl (by rw [ex4_18]; rfl) (Nat.le_of_ble_eq_true rfl) rfl (fun ls hl => ?_)
  refine lv_goto (tgt := 34) hx hb dX6_best_91 (by decide) ?_
  exact hK34 _ _ _ _ _ _ _ _ hw hk (lv_sub hl [1, 2, 3, 4, 0] rfl)
def wp_X6_best_34 (Q : Int32 → Sg → Prop)  : Nat → Int32 → Int32 → Int32 → Int32 → Sg → Prop
  | 0, _, _, _, _, _ => False
  | n + 1, x1, x2, x3, x4, σ => wp_X6_places σ  (fun r9 σ8 => (r9 ≤ x4 → (Q x2 σ8)) ∧ (¬ (r9 ≤ x4) → (wp_X6_ofPlace σ8 x4 (1 : Int32) (fun r12 σ11 => wp_X6_lesser σ11 (300 : Int32) (r12 + x1) (fun r14 σ13 => wp_X6_with σ13 x4 (1 : Int32) r14 (fun r16 σ15 => (r16 = (-1 : Int32) → (wp_X6_best_88 Q (fun z1 z2 z3 z4 σ => wp_X6_best_34 Q  n z1 z2 z3 z4 σ) x1 x2 x3 x4 σ15)) ∧ (¬ (r16 = (-1 : Int32)) → ((r16 < x3 → (wp_X6_best_88 Q (fun z1 z2 z3 z4 σ => wp_X6_best_34 Q  n z1 z2 z3 z4 σ) x1 x4 r16 x4 σ15)) ∧ (¬ (r16 < x3) → (wp_X6_best_88 Q (fun z1 z2 z3 z4 σ => wp_X6_best_34 Q  n z1 z2 z3 z4 σ) x1 x2 x3 x4 σ15))))))))))
set_option maxHeartbeats 4000000 in
set_option maxRecDepth 100000 in
theorem t_X6_best_34 {p : Program} {l : Launch} {e : Env} {s : State} {m : MethodId} {args : Array Value} {below : List Frame} {meth : Method} {c : Code} {G : Gw} (X : KC p m meth c cX6_best 6 s args wz_X6_best RX6 (some .int) G) (Q : Int32 → Sg → Prop)  : ∀ (n : Nat) (σ : Sg) (x1 x2 x3 x4 : Int32) (H : Heap) (locs : List Loc) (ls : Array Slot), wp_X6_best_34 Q  n x1 x2 x3 x4 σ → WK G s H locs σ → lv_has ls 6 [(0, .ref (G.1 30)), (1, .int x1), (2, .int x2), (3, .int x3), (4, .int x4)] → W p l e rm_X6_best s m args below meth c H locs 0 0 (ZI below args s G Q) (F0 m 34 ls []) := by
  have hx := X.1.1
  have hb := X.1.2.1
  intro n
  induction n with
  | zero =>
    intro σ x1 x2 x3 x4 H locs ls hw hk hl
    exact False.elim hw
  | succ n ih =>
    intro σ x1 x2 x3 x4 H locs ls hw hk hl
    rw [wp_X6_best_34] at hw
    refine lv_iload hx hb dX6_best_34 (lv_at hl 4 rfl) ?_
    refine lv_aload_n hx hb dX6_best_36 rfl (lv_at hl 0 rfl) ?_
    refine k_callVi (rest := [.int x4]) X hk (c_X6_places l G _  _ hw) (cwV 0 X.1.2.2.2.2 (gzV (aw_r15 _ (List.mem_of_getElem? (i := 14) rfl)) (aw_r15 _ (List.mem_of_getElem? (i := 15) rfl)) (aw_r15 _ (List.mem_of_getElem? (i := 16) rfl)) (aw_r1 _ (List.mem_of_getElem? (i := 5) rfl)) (aw_r15 _ (List.mem_of_getElem? (i := 17) rfl))) rfl rfl rfl hd_X6_places ⟨(Nat.le_of_ble_eq_true rfl), (Nat.le_of_ble_eq_true rfl)⟩) (wg_30 G _) rfl rfl hl.1 rfl (Nat.le_of_ble_eq_true rfl) dX6_best_37 ⟨Nat.zero_le _, Nat.zero_le _⟩ (fun r9 σ8 H locs hw hk => ?_)
    refine lv_icmp_ge (tgt := 94) hx hb dX6_best_40 (by decide) (fun c10 => ?_) (fun c10 => ?_)
    · replace hw := hw.1 c10
      refine lv_iload_n hx hb dX6_best_94 rfl (lv_at hl 2 rfl) ?_
      exact k_iret X hk hw dX6_best_95
    · replace hw := hw.2 c10
      refine lv_aload_n hx hb dX6_best_43 rfl (lv_at hl 0 rfl) ?_
      refine lv_iload hx hb dX6_best_44 (lv_at hl 4 rfl) ?_
      refine lv_iconst (v := (1 : Int32)) hx hb dX6_best_46 (by decide) ?_
      refine lv_sipush (v := (300 : Int32)) hx hb dX6_best_47 (by decide) ?_
      refine lv_aload_n hx hb dX6_best_50 rfl (lv_at hl 0 rfl) ?_
      refine lv_iload hx hb dX6_best_51 (lv_at hl 4 rfl) ?_
      refine lv_iconst (v := (1 : Int32)) hx hb dX6_best_53 (by decide) ?_
      refine k_callVi (rest := [.int (300 : Int32), .int (1 : Int32), .int x4, .ref (G.1 30)]) X hk (c_X6_ofPlace l G _ _ _ _ hw) (cwV 2 X.1.2.2.2.2 (gzV (aw_r21 _ (List.mem_of_getElem? (i := 4) rfl)) (aw_r21 _ (List.mem_of_getElem? (i := 5) rfl)) (aw_r21 _ (List.mem_of_getElem? (i := 6) rfl)) (aw_r1 _ (List.mem_of_getElem? (i := 5) rfl)) (aw_r21 _ (List.mem_of_getElem? (i := 7) rfl))) rfl rfl rfl hd_X6_ofPlace ⟨(Nat.le_of_ble_eq_true rfl), (Nat.le_of_ble_eq_true rfl)⟩) (wg_30 G _) rfl rfl hl.1 rfl (Nat.le_of_ble_eq_true rfl) dX6_best_54 ⟨Nat.zero_le _, Nat.zero_le _⟩ (fun r12 σ11 H locs hw hk => ?_)
      refine lv_iload_n hx hb dX6_best_57 rfl (lv_at hl 1 rfl) ?_
      refine lv_iadd hx hb dX6_best_58 ?_
      refine k_callSi (rest := [.int (1 : Int32), .int x4, .ref (G.1 30)]) X hk (c_X6_lesser l G _ _ _ _ hw) (va_cwS 2 X.1.2.2.2.2 (gzS (aw_r23 _ (List.mem_of_getElem? (i := 8) rfl)) (aw_r23 _ (List.mem_of_getElem? (i := 9) rfl)) (aw_r1 _ (List.mem_of_getElem? (i := 5) rfl)) (aw_r23 _ (List.mem_of_getElem? (i := 10) rfl))) rfl rfl rfl hds_X6_lesser ⟨(Nat.le_of_ble_eq_true rfl), (Nat.le_of_ble_eq_true rfl)⟩) rfl hl.1 rfl (Nat.le_of_ble_eq_true rfl) dX6_best_59 ⟨Nat.zero_le _, Nat.zero_le _⟩ (fun r14 σ13 H locs hw hk => ?_)
      refine k_callVi (rest := []) X hk (c_X6_with l G _ _ _ _ _ hw) (cwV 3 X.1.2.2.2.2 (gzV (aw_r38 _ (List.mem_of_getElem? (i := 20) rfl)) (aw_r38 _ (List.mem_of_getElem? (i := 21) rfl)) (aw_r38 _ (List.mem_of_getElem? (i := 22) rfl)) (aw_r1 _ (List.mem_of_getElem? (i := 5) rfl)) (aw_r38 _ (List.mem_of_getElem? (i := 23) rfl))) rfl rfl rfl hd_X6_with ⟨(Nat.le_of_ble_eq_true rfl), (Nat.le_of_ble_eq_true rfl)⟩) (wg_30 G _) rfl rfl hl.1 rfl (Nat.le_of_ble_eq_true rfl) dX6_best_62 ⟨Nat.zero_le _, Nat.zero_le _⟩ (fun r16 σ15 H locs hw hk => ?_)
      refine lv_istore (lv' := [(5, .int r16), (0, .ref (G.1 30)), (1, .int x1), (2, .int x2), (3, .int x3), (4, .int x4)]) hx hb dX6_best_65 hl (Nat.le_of_ble_eq_true rfl) rfl (fun ls hl => ?_)
      refine lv_iload hx hb dX6_best_67 (lv_at hl 0 rfl) ?_
      refine lv_iconst (v := (-1 : Int32)) hx hb dX6_best_69 (by decide) ?_
      refine lv_icmp_eq (tgt := 88) hx hb dX6_best_70 (by decide) (fun c17 => ?_) (fun c17 => ?_)
      · replace hw := hw.1 c17
        exact t_X6_best_88 X Q _ ih _ _ _ _ _ _ _ _ hw hk (lv_sub hl [1, 2, 3, 4, 5] rfl)
      · replace hw := hw.2 c17
        refine lv_iload hx hb dX6_best_73 (lv_at hl 0 rfl) ?_
        refine lv_iload_n hx hb dX6_best_75 rfl (lv_at hl 4 rfl) ?_
        refine lv_icmp_lt (tgt := 82) hx hb dX6_best_76 (by decide) (fun c19 => ?_) (fun c19 => ?_)
        · replace hw := hw.1 c19
          refine lv_iload hx hb dX6_best_82 (lv_at hl 5 rfl) ?_
          refine lv_istore_n (lv' := [(2, .int x4), (5, .int r16), (0, .ref (G.1 30)), (1, .int x1), (3, .int x3), (4, .int x4)]) hx hb dX6_best_84 rfl hl (Nat.le_of_ble_eq_true rfl) rfl (fun ls hl => ?_)
          refine lv_iload hx hb dX6_best_85 (lv_at hl 1 rfl) ?_
          refine lv_istore_n (lv' := [(3, .int r16), (2, .int x4), (5, .int r16), (0, .ref (G.1 30)), (1, .int x1), (4, .int x4)]) hx hb dX6_best_87 rfl hl (Nat.le_of_ble_eq_true rfl) rfl (fun ls hl => ?_)
          exact t_X6_best_88 X Q _ ih _ _ _ _ _ _ _ _ hw hk (lv_sub hl [3, 4, 1, 0, 5] rfl)
        · replace hw := hw.2 c19
          refine lv_goto (tgt := 88) hx hb dX6_best_79 (by decide) ?_
          exact t_X6_best_88 X Q _ ih _ _ _ _ _ _ _ _ hw hk (lv_sub hl [1, 2, 3, 4, 5] rfl)
def wp_X6_best (σ : Sg) (p1 : Int32) (Q : Int32 → Sg → Prop) : Prop := ∀ σ1 : Sg, σ1 = (put σ 30 0 (0 : Int32)) → (wp_X6_places σ1  (fun r3 σ2 => (r3 = 0 → (Q (-2 : Int32) σ2)) ∧ (¬ (r3 = 0) → (wp_X6_isIn σ2 p1 (1 : Int32) (300 : Int32) (fun r6 σ5 => (r6 = 0 → (Q (-2 : Int32) σ5)) ∧ (¬ (r6 = 0) → (∃ n0, wp_X6_best_34 Q  n0 p1 (0 : Int32) (99 : Int32) (0 : Int32) σ5)))))))
set_option maxHeartbeats 4000000 in
set_option maxRecDepth 100000 in
theorem c_X6_best (l : Launch) (G : Gw) (σ : Sg) (p1 : Int32) (Q : Int32 → Sg → Prop) (hw : wp_X6_best σ p1 Q) : MetI l yX6_best wz_X6_best rm_X6_best G σ [.ref (G.1 30), .int p1] Q := by
  refine MetI.of cX6_best 6 (some .int) (by decide) rfl (Nat.le_of_ble_eq_true rfl) ?_
  intro p e s m below meth c X hk ls hl
  have X : KC p m meth c cX6_best 6 s _ wz_X6_best RX6 (some .int) G := X
  have hl : lv_has ls 6 [(0, .ref (G.1 30)), (1, .int p1)] := hl
  unfold wp_X6_best at hw
  have hx := X.1.1
  have hb := X.1.2.1
  refine lv_aload_n hx hb dX6_best_0 rfl (lv_at hl 0 rfl) ?_
  refine lv_iconst (v := (0 : Int32)) hx hb dX6_best_1 (by decide) ?_
  refine k_put 0 X hk (wg_30 G _) rfl (hz_wsX60 _) tyX6_ok nmX6 (Nat.le_of_ble_eq_true rfl) (List.mem_cons_of_mem _ (aw_r6 _ (List.mem_of_getElem? (i := 3) rfl))) rfl rfl (Nat.le_of_ble_eq_true rfl) (ws_30_0 G _ _) dX6_best_2 (fun H locs hk => ?_)
  obtain ⟨σ1, eσ1⟩ : ∃ y : Sg, y = (put σ 30 0 (0 : Int32)) := ⟨_, rfl⟩
  rw [← eσ1] at hk
  replace hw := hw σ1 eσ1
  refine lv_aload_n hx hb dX6_best_5 rfl (lv_at hl 0 rfl) ?_
  refine k_callVi (rest := []) X hk (c_X6_places l G _  _ hw) (cwV 0 X.1.2.2.2.2 (gzV (aw_r15 _ (List.mem_of_getElem? (i := 14) rfl)) (aw_r15 _ (List.mem_of_getElem? (i := 15) rfl)) (aw_r15 _ (List.mem_of_getElem? (i := 16) rfl)) (aw_r1 _ (List.mem_of_getElem? (i := 5) rfl)) (aw_r15 _ (List.mem_of_getElem? (i := 17) rfl))) rfl rfl rfl hd_X6_places ⟨(Nat.le_of_ble_eq_true rfl), (Nat.le_of_ble_eq_true rfl)⟩) (wg_30 G _) rfl rfl hl.1 rfl (Nat.le_of_ble_eq_true rfl) dX6_best_6 ⟨Nat.zero_le _, Nat.zero_le _⟩ (fun r3 σ2 H locs hw hk => ?_)
  refine lv_if_eq (tgt := 23) hx hb dX6_best_9 (by decide) (fun c4 => ?_) (fun c4 => ?_)
  · replace hw := hw.1 c4
    refine lv_bipush (v := (-2 : Int32)) hx hb dX6_best_23 (by decide) ?_
    exact k_iret X hk hw dX6_best_25
  · replace hw := hw.2 c4
    refine lv_iload_n hx hb dX6_best_12 rfl (lv_at hl 1 rfl) ?_
    refine lv_iconst (v := (1 : Int32)) hx hb dX6_best_13 (by decide) ?_
    refine lv_sipush (v := (300 : Int32)) hx hb dX6_best_14 (by decide) ?_
    refine k_callSi (rest := []) X hk (c_X6_isIn l G _ _ _ _ _ hw) (va_cwS 3 X.1.2.2.2.2 (gzS (aw_r6 _ (List.mem_of_getElem? (i := 17) rfl)) (aw_r6 _ (List.mem_of_getElem? (i := 18) rfl)) (aw_r1 _ (List.mem_of_getElem? (i := 5) rfl)) (aw_r6 _ (List.mem_of_getElem? (i := 19) rfl))) rfl rfl rfl hds_X6_isIn ⟨(Nat.le_of_ble_eq_true rfl), (Nat.le_of_ble_eq_true rfl)⟩) rfl hl.1 rfl (Nat.le_of_ble_eq_true rfl) dX6_best_17 ⟨Nat.zero_le _, Nat.zero_le _⟩ (fun r6 σ5 H locs hw hk => ?_)
    refine lv_if_ne (tgt := 26) hx hb dX6_best_20 (by decide) (fun c7 => ?_) (fun c7 => ?_)
    · replace hw := hw.2 c7
      refine lv_iconst (v := (0 : Int32)) hx hb dX6_best_26 (by decide) ?_
      refine lv_istore_n (lv' := [(2, .int (0 : Int32)), (0, .ref (G.1 30)), (1, .int p1)]) hx hb dX6_best_27 rfl hl (Nat.le_of_ble_eq_true rfl) rfl (fun ls hl => ?_)
      refine lv_bipush (v := (99 : Int32)) hx hb dX6_best_28 (by decide) ?_
      refine lv_istore_n (lv' := [(3, .int (99 : Int32)), (2, .int (0 : Int32)), (0, .ref (G.1 30)), (1, .int p1)]) hx hb dX6_best_30 rfl hl (Nat.le_of_ble_eq_true rfl) rfl (fun ls hl => ?_)
      refine lv_iconst (v := (0 : Int32)) hx hb dX6_best_31 (by decide) ?_
      refine lv_istore (lv' := [(4, .int (0 : Int32)), (3, .int (99 : Int32)), (2, .int (0 : Int32)), (0, .ref (G.1 30)), (1, .int p1)]) hx hb dX6_best_32 hl (Nat.le_of_ble_eq_true rfl) rfl (fun ls hl => ?_)
      obtain ⟨n0, hw⟩ := hw
      exact t_X6_best_34 X Q   n0 _ _ _ _ _ _ _ _ hw hk (lv_sub hl [3, 4, 2, 1, 0] rfl)
    · replace hw := hw.1 c7
      refine lv_bipush (v := (-2 : Int32)) hx hb dX6_best_23 (by decide) ?_
      exact k_iret X hk hw dX6_best_25
def rm_X6_latest : Room := { frames := 6, cells := 0, slots := 0, locals := 133 }
abbrev wz_X6_latest : List Cond := Cond.code yX6_latest cX6_latest 4 (some .int) :: wsA
theorem hd_X6_latest : yX6_latest.cls = RX6 ∧ yX6_latest.cls ≠ "java/lang/invoke/MethodHandle" ∧ yX6_latest.cls ≠ "java/lang/invoke/VarHandle" ∧ (parseMethodDescriptor yX6_latest.desc).map (fun d => d.parameters.length) = some 1 := by decide +kernel
def wp_X6_latest_48 (Q : Int32 → Sg → Prop)  : Nat → Int32 → Int32 → Int32 → Sg → Prop
  | 0, _, _, _, _ => False
  | n + 1, x1, x2, x3, σ => wp_X6_can σ x2 (fun r12 σ11 => (r12 = 0 → (∀ x3_16 : Int32, x3_16 = (x3 + (-1 : Int32)) → (vp_in (((3 : Int32) + ((4 : Int32) * x1)) + (2 : Int32)) 256 ∧ (∀ σ17 : Sg, σ17 = (put σ11 31 ((((3 : Int32) + ((4 : Int32) * x1)) + (2 : Int32))).toNatClampNeg x3_16) → (wp_X6_latest_48 Q  n x1 x2 x3_16 σ17))))) ∧ (¬ (r12 = 0) → (wp_X6_comesBack σ11  (fun σ14 => Q x3 σ14))))
set_option maxHeartbeats 4000000 in
set_option maxRecDepth 100000 in
theorem t_X6_latest_48 {p : Program} {l : Launch} {e : Env} {s : State} {m : MethodId} {args : Array Value} {below : List Frame} {meth : Method} {c : Code} {G : Gw} (X : KC p m meth c cX6_latest 4 s args wz_X6_latest RX6 (some .int) G) (Q : Int32 → Sg → Prop)  : ∀ (n : Nat) (σ : Sg) (x1 x2 x3 : Int32) (H : Heap) (locs : List Loc) (ls : Array Slot), wp_X6_latest_48 Q  n x1 x2 x3 σ → WK G s H locs σ → lv_has ls 4 [(0, .ref (G.1 30)), (1, .int x1), (2, .int x2), (3, .int x3)] → W p l e rm_X6_latest s m args below meth c H locs 0 0 (ZI below args s G Q) (F0 m 48 ls []) := by
  have hx := X.1.1
  have hb := X.1.2.1
  intro n
  induction n with
  | zero =>
    intro σ x1 x2 x3 H locs ls hw hk hl
    exact False.elim hw
  | succ n ih =>
    intro σ x1 x2 x3 H locs ls hw hk hl
    rw [wp_X6_latest_48] at hw
    refine lv_aload_n hx hb dX6_latest_48 rfl (lv_at hl 0 rfl) ?_
    refine lv_iload_n hx hb dX6_latest_49 rfl (lv_at hl 2 rfl) ?_
    refine k_callVi (rest := []) X hk (c_X6_can l G _ _ _ hw) (cwV 1 X.1.2.2.2.2 (gzV (aw_r31 _ (List.mem_of_getElem? (i := 13) rfl)) (aw_r31 _ (List.mem_of_getElem? (i := 14) rfl)) (aw_r31 _ (List.mem_of_getElem? (i := 15) rfl)) (aw_r1 _ (List.mem_of_getElem? (i := 5) rfl)) (aw_r31 _ (List.mem_of_getElem? (i := 16) rfl))) rfl rfl rfl hd_X6_can ⟨(Nat.le_of_ble_eq_true rfl), (Nat.le_of_ble_eq_true rfl)⟩) (wg_30 G _) rfl rfl hl.1 rfl (Nat.le_of_ble_eq_true rfl) dX6_latest_50 ⟨Nat.zero_le _, Nat.zero_le _⟩ (fun r12 σ11 H locs hw hk => ?_)
    refine lv_if_ne (tgt := 75) hx hb dX6_latest_53 (by decide) (fun c13 => ?_) (fun c13 => ?_)
    · replace hw := hw.2 c13
      refine lv_aload_n hx hb dX6_latest_75 rfl (lv_at hl 0 rfl) ?_
      refine k_callVv (rest := []) X hk (c_X6_comesBack l G _  _ hw) (cwV 0 X.1.2.2.2.2 (gzV (aw_r18 _ (List.mem_of_getElem? (i := 10) rfl)) (aw_r18 _ (List.mem_of_getElem? (i := 11) rfl)) (aw_r18 _ (List.mem_of_getElem? (i := 12) rfl)) (aw_r1 _ (List.mem_of_getElem? (i := 5) rfl)) (aw_r18 _ (List.mem_of_getElem? (i := 13) rfl))) rfl rfl rfl hd_X6_comesBack ⟨(Nat.le_of_ble_eq_true rfl), (Nat.le_of_ble_eq_true rfl)⟩) (wg_30 G _) rfl rfl hl.1 rfl (Nat.le_of_ble_eq_true rfl) dX6_latest_76 ⟨Nat.zero_le _, Nat.zero_le _⟩ (fun σ14 H locs hw hk => ?_)
      refine lv_iload_n hx hb dX6_latest_79 rfl (lv_at hl 3 rfl) ?_
      exact k_iret X hk hw dX6_latest_80
    · replace hw := hw.1 c13
      obtain ⟨x3_16, ex3_16⟩ : ∃ y : Int32, y = (x3 + (-1 : Int32)) := ⟨_, rfl⟩
      replace hw := hw x3_16 ex3_16
      refine lv_iinc (v := x3_16) (lv' := [(3, .int x3_16), (0, .ref (G.1 30)), (1, .int x1), (2, .int x2)]) hx hb dX6_latest_56 hl (k := 3) rfl (by rw [ex3_16]; rfl) (Nat.le_of_ble_eq_true rfl) rfl (fun ls hl => ?_)
      refine lv_aload_n hx hb dX6_latest_59 rfl (lv_at hl 1 rfl) ?_
      refine k_get 1 X hk (wg_30 G _) rfl (hz_wsX60 _) (Nat.le_of_ble_eq_true rfl) (List.mem_cons_of_mem _ (aw_r4 _ (List.mem_of_getElem? (i := 16) rfl))) rfl dX6_latest_60 ?_
      refine lv_iconst (v := (3 : Int32)) hx hb dX6_latest_63 (by decide) ?_
      refine lv_iconst (v := (4 : Int32)) hx hb dX6_latest_64 (by decide) ?_
      refine lv_iload_n hx hb dX6_latest_65 rfl (lv_at hl 2 rfl) ?_
      refine lv_imul hx hb dX6_latest_66 ?_
      refine lv_iadd hx hb dX6_latest_67 ?_
      refine lv_iconst (v := (2 : Int32)) hx hb dX6_latest_68 (by decide) ?_
      refine lv_iadd hx hb dX6_latest_69 ?_
      refine lv_iload_n hx hb dX6_latest_70 rfl (lv_at hl 0 rfl) ?_
      refine k_iast X hk (wg_31 G _) (ws_31 G _) rfl hw.1 dX6_latest_71 (fun H locs hk => ?_)
      replace hw := hw.2
      obtain ⟨σ17, eσ17⟩ : ∃ y : Sg, y = (put σ11 31 ((((3 : Int32) + ((4 : Int32) * x1)) + (2 : Int32))).toNatClampNeg x3_16) := ⟨_, rfl⟩
      rw [← eσ17] at hk
      replace hw := hw σ17 eσ17
      refine lv_goto (tgt := 48) hx hb dX6_latest_72 (by decide) ?_
      exact ih _ _ _ _ _ _ _ hw hk (lv_sub hl [1, 2, 3, 0] rfl)
def wp_X6_latest (σ : Sg) (p1 : Int32) (Q : Int32 → Sg → Prop) : Prop := ∀ σ1 : Sg, σ1 = (put σ 30 0 (0 : Int32)) → (wp_X6_isPlace σ1 p1 (fun r3 σ2 => (r3 = 0 → (Q (-2 : Int32) σ2)) ∧ (¬ (r3 = 0) → (wp_X6_quickestNow σ2  (fun r6 σ5 => (r6 = (-1 : Int32) → (Q (-1 : Int32) σ5)) ∧ (¬ (r6 = (-1 : Int32)) → (wp_X6_keeps σ5  (fun σ8 => vp_in (((3 : Int32) + ((4 : Int32) * p1)) + (2 : Int32)) 256 ∧ (∀ σ10 : Sg, σ10 = (put σ8 31 ((((3 : Int32) + ((4 : Int32) * p1)) + (2 : Int32))).toNatClampNeg (20 : Int32)) → (∃ n0, wp_X6_latest_48 Q  n0 p1 r6 (20 : Int32) σ10))))))))))
set_option maxHeartbeats 4000000 in
set_option maxRecDepth 100000 in
theorem c_X6_latest (l : Launch) (G : Gw) (σ : Sg) (p1 : Int32) (Q : Int32 → Sg → Prop) (hw : wp_X6_latest σ p1 Q) : MetI l yX6_latest wz_X6_latest rm_X6_latest G σ [.ref (G.1 30), .int p1] Q := by
  refine MetI.of cX6_latest 4 (some .int) (by decide) rfl (Nat.le_of_ble_eq_true rfl) ?_
  intro p e s m below meth c X hk ls hl
  have X : KC p m meth c cX6_latest 4 s _ wz_X6_latest RX6 (some .int) G := X
  have hl : lv_has ls 4 [(0, .ref (G.1 30)), (1, .int p1)] := hl
  unfold wp_X6_latest at hw
  have hx := X.1.1
  have hb := X.1.2.1
  refine lv_aload_n hx hb dX6_latest_0 rfl (lv_at hl 0 rfl) ?_
  refine lv_iconst (v := (0 : Int32)) hx hb dX6_latest_1 (by decide) ?_
  refine k_put 0 X hk (wg_30 G _) rfl (hz_wsX60 _) tyX6_ok nmX6 (Nat.le_of_ble_eq_true rfl) (List.mem_cons_of_mem _ (aw_r6 _ (List.mem_of_getElem? (i := 3) rfl))) rfl rfl (Nat.le_of_ble_eq_true rfl) (ws_30_0 G _ _) dX6_latest_2 (fun H locs hk => ?_)
  obtain ⟨σ1, eσ1⟩ : ∃ y : Sg, y = (put σ 30 0 (0 : Int32)) := ⟨_, rfl⟩
  rw [← eσ1] at hk
  replace hw := hw σ1 eσ1
  refine lv_aload_n hx hb dX6_latest_5 rfl (lv_at hl 0 rfl) ?_
  refine lv_iload_n hx hb dX6_latest_6 rfl (lv_at hl 1 rfl) ?_
  refine k_callVi (rest := []) X hk (c_X6_isPlace l G _ _ _ hw) (cwV 1 X.1.2.2.2.2 (gzV (aw_r20 _ (List.mem_of_getElem? (i := 0) rfl)) (aw_r20 _ (List.mem_of_getElem? (i := 1) rfl)) (aw_r20 _ (List.mem_of_getElem? (i := 2) rfl)) (aw_r1 _ (List.mem_of_getElem? (i := 5) rfl)) (aw_r20 _ (List.mem_of_getElem? (i := 3) rfl))) rfl rfl rfl hd_X6_isPlace ⟨(Nat.le_of_ble_eq_true rfl), (Nat.le_of_ble_eq_true rfl)⟩) (wg_30 G _) rfl rfl hl.1 rfl (Nat.le_of_ble_eq_true rfl) dX6_latest_7 ⟨Nat.zero_le _, Nat.zero_le _⟩ (fun r3 σ2 H locs hw hk => ?_)
  refine lv_if_ne (tgt := 16) hx hb dX6_latest_10 (by decide) (fun c4 => ?_) (fun c4 => ?_)
  · replace hw := hw.2 c4
    refine lv_aload_n hx hb dX6_latest_16 rfl (lv_at hl 0 rfl) ?_
    refine k_callVi (rest := []) X hk (c_X6_quickestNow l G _  _ hw) (cwV 0 X.1.2.2.2.2 (gzV (aw_r31 _ (List.mem_of_getElem? (i := 5) rfl)) (aw_r31 _ (List.mem_of_getElem? (i := 6) rfl)) (aw_r31 _ (List.mem_of_getElem? (i := 7) rfl)) (aw_r1 _ (List.mem_of_getElem? (i := 5) rfl)) (aw_r31 _ (List.mem_of_getElem? (i := 8) rfl))) rfl rfl rfl hd_X6_quickestNow ⟨(Nat.le_of_ble_eq_true rfl), (Nat.le_of_ble_eq_true rfl)⟩) (wg_30 G _) rfl rfl hl.1 rfl (Nat.le_of_ble_eq_true rfl) dX6_latest_17 ⟨Nat.zero_le _, Nat.zero_le _⟩ (fun r6 σ5 H locs hw hk => ?_)
    refine lv_istore_n (lv' := [(2, .int r6), (0, .ref (G.1 30)), (1, .int p1)]) hx hb dX6_latest_20 rfl hl (Nat.le_of_ble_eq_true rfl) rfl (fun ls hl => ?_)
    refine lv_iload_n hx hb dX6_latest_21 rfl (lv_at hl 0 rfl) ?_
    refine lv_iconst (v := (-1 : Int32)) hx hb dX6_latest_22 (by decide) ?_
    refine lv_icmp_ne (tgt := 28) hx hb dX6_latest_23 (by decide) (fun c7 => ?_) (fun c7 => ?_)
    · replace hw := hw.2 c7
      refine lv_aload_n hx hb dX6_latest_28 rfl (lv_at hl 1 rfl) ?_
      refine k_callVv (rest := []) X hk (c_X6_keeps l G _  _ hw) (cwV 0 X.1.2.2.2.2 (gzV (aw_r14 _ (List.mem_of_getElem? (i := 14) rfl)) (aw_r14 _ (List.mem_of_getElem? (i := 15) rfl)) (aw_r14 _ (List.mem_of_getElem? (i := 16) rfl)) (aw_r1 _ (List.mem_of_getElem? (i := 5) rfl)) (aw_r14 _ (List.mem_of_getElem? (i := 17) rfl))) rfl rfl rfl hd_X6_keeps ⟨(Nat.le_of_ble_eq_true rfl), (Nat.le_of_ble_eq_true rfl)⟩) (wg_30 G _) rfl rfl hl.1 rfl (Nat.le_of_ble_eq_true rfl) dX6_latest_29 ⟨Nat.zero_le _, Nat.zero_le _⟩ (fun σ8 H locs hw hk => ?_)
      refine lv_bipush (v := (20 : Int32)) hx hb dX6_latest_32 (by decide) ?_
      refine lv_istore_n (lv' := [(3, .int (20 : Int32)), (2, .int r6), (0, .ref (G.1 30)), (1, .int p1)]) hx hb dX6_latest_34 rfl hl (Nat.le_of_ble_eq_true rfl) rfl (fun ls hl => ?_)
      refine lv_aload_n hx hb dX6_latest_35 rfl (lv_at hl 2 rfl) ?_
      refine k_get 1 X hk (wg_30 G _) rfl (hz_wsX60 _) (Nat.le_of_ble_eq_true rfl) (List.mem_cons_of_mem _ (aw_r4 _ (List.mem_of_getElem? (i := 16) rfl))) rfl dX6_latest_36 ?_
      refine lv_iconst (v := (3 : Int32)) hx hb dX6_latest_39 (by decide) ?_
      refine lv_iconst (v := (4 : Int32)) hx hb dX6_latest_40 (by decide) ?_
      refine lv_iload_n hx hb dX6_latest_41 rfl (lv_at hl 3 rfl) ?_
      refine lv_imul hx hb dX6_latest_42 ?_
      refine lv_iadd hx hb dX6_latest_43 ?_
      refine lv_iconst (v := (2 : Int32)) hx hb dX6_latest_44 (by decide) ?_
      refine lv_iadd hx hb dX6_latest_45 ?_
      refine lv_iload_n hx hb dX6_latest_46 rfl (lv_at hl 0 rfl) ?_
      refine k_iast X hk (wg_31 G _) (ws_31 G _) rfl hw.1 dX6_latest_47 (fun H locs hk => ?_)
      replace hw := hw.2
      obtain ⟨σ10, eσ10⟩ : ∃ y : Sg, y = (put σ8 31 ((((3 : Int32) + ((4 : Int32) * p1)) + (2 : Int32))).toNatClampNeg (20 : Int32)) := ⟨_, rfl⟩
      rw [← eσ10] at hk
      replace hw := hw σ10 eσ10
      obtain ⟨n0, hw⟩ := hw
      exact t_X6_latest_48 X Q   n0 _ _ _ _ _ _ _ hw hk (lv_sub hl [2, 3, 1, 0] rfl)
    · replace hw := hw.1 c7
      refine lv_iconst (v := (-1 : Int32)) hx hb dX6_latest_26 (by decide) ?_
      exact k_iret X hk hw dX6_latest_27
  · replace hw := hw.1 c4
    refine lv_bipush (v := (-2 : Int32)) hx hb dX6_latest_13 (by decide) ?_
    exact k_iret X hk hw dX6_latest_15
def rm_X6_worst : Room := { frames := 7, cells := 0, slots := 0, locals := 155 }
abbrev wz_X6_worst : List Cond := Cond.code yX6_worst cX6_worst 5 (some .int) :: wsA
theorem hd_X6_worst : yX6_worst.cls = RX6 ∧ yX6_worst.cls ≠ "java/lang/invoke/MethodHandle" ∧ yX6_worst.cls ≠ "java/lang/invoke/VarHandle" ∧ (parseMethodDescriptor yX6_worst.desc).map (fun d => d.parameters.length) = some 0 := by decide +kernel
def wp_X6_worst_65 (Q : Int32 → Sg → Prop) (K21 : Int32 → Int32 → Int32 → Sg → Prop) (x1 x2 x3 : Int32) (σ : Sg) : Prop := ∀ x3_12 : Int32, x3_12 = (x3 + (1 : Int32)) → (K21 x1 x2 x3_12 σ)
set_option maxHeartbeats 4000000 in
set_option maxRecDepth 100000 in
theorem t_X6_worst_65 {p : Program} {l : Launch} {e : Env} {s : State} {m : MethodId} {args : Array Value} {below : List Frame} {meth : Method} {c : Code} {G : Gw} (X : KC p m meth c cX6_worst 5 s args wz_X6_worst RX6 (some .int) G) (Q : Int32 → Sg → Prop) (K21 : Int32 → Int32 → Int32 → Sg → Prop) (hK21 : ∀ (σ : Sg) (x1 x2 x3 : Int32) (H : Heap) (locs : List Loc) (ls : Array Slot), K21 x1 x2 x3 σ → WK G s H locs σ → lv_has ls 5 [(0, .ref (G.1 30)), (1, .int x1), (2, .int x2), (3, .int x3)] → W p l e rm_X6_worst s m args below meth c H locs 0 0 (ZI below args s G Q) (F0 m 21 ls [])) : ∀ (σ : Sg) (x1 x2 x3 : Int32) (H : Heap) (locs : List Loc) (ls : Array Slot), wp_X6_worst_65 Q K21 x1 x2 x3 σ → WK G s H locs σ → lv_has ls 5 [(0, .ref (G.1 30)), (1, .int x1), (2, .int x2), (3, .int x3)] → W p l e rm_X6_worst s m args below meth c H locs 0 0 (ZI below args s G Q) (F0 m 65 ls []) := by
  have hx := X.1.1
  have hb := X.1.2.1
  intro σ x1 x2 x3 H locs ls hw hk hl
  unfold wp_X6_worst_65 at hw
  obtain ⟨x3_12, ex3_12⟩ : ∃ y : Int32, y = (x3 + (1 : Int32)) := ⟨_, rfl⟩
  replace hw := hw x3_12 ex3_12
  refine lv_iinc (v := x3_12) (lv' := [(3, .int x3_12), (0, .ref (G.1 30)), (1, .int x1), (2, .int x2)]) hx hb dX6_worst_65 hl (k := 3) rfl (by rw [ex3_12]; rfl) (Nat.le_of_ble_eq_true rfl) rfl (fun ls hl => ?_)
  refine lv_goto (tgt := 21) hx hb dX6_worst_68 (by decide) ?_
  exact hK21 _ _ _ _ _ _ _ hw hk (lv_sub hl [1, 2, 3, 0] rfl)
def wp_X6_worst_49 (Q : Int32 → Sg → Prop) (K21 : Int32 → Int32 → Int32 → Sg → Prop) (x1 x2 x3 y0 : Int32) (σ : Sg) : Prop := (x2 < y0 → (wp_X6_worst_65 Q K21 x3 y0 x3 σ)) ∧ (¬ (x2 < y0) → (wp_X6_worst_65 Q K21 x1 x2 x3 σ))
set_option maxHeartbeats 4000000 in
set_option maxRecDepth 100000 in
theorem t_X6_worst_49 {p : Program} {l : Launch} {e : Env} {s : State} {m : MethodId} {args : Array Value} {below : List Frame} {meth : Method} {c : Code} {G : Gw} (X : KC p m meth c cX6_worst 5 s args wz_X6_worst RX6 (some .int) G) (Q : Int32 → Sg → Prop) (K21 : Int32 → Int32 → Int32 → Sg → Prop) (hK21 : ∀ (σ : Sg) (x1 x2 x3 : Int32) (H : Heap) (locs : List Loc) (ls : Array Slot), K21 x1 x2 x3 σ → WK G s H locs σ → lv_has ls 5 [(0, .ref (G.1 30)), (1, .int x1), (2, .int x2), (3, .int x3)] → W p l e rm_X6_worst s m args below meth c H locs 0 0 (ZI below args s G Q) (F0 m 21 ls [])) : ∀ (σ : Sg) (x1 x2 x3 y0 : Int32) (H : Heap) (locs : List Loc) (ls : Array Slot), wp_X6_worst_49 Q K21 x1 x2 x3 y0 σ → WK G s H locs σ → lv_has ls 5 [(0, .ref (G.1 30)), (1, .int x1), (2, .int x2), (3, .int x3)] → W p l e rm_X6_worst s m args below meth c H locs 0 0 (ZI below args s G Q) (F0 m 49 ls [.int y0]) := by
  have hx := X.1.1
  have hb := X.1.2.1
  intro σ x1 x2 x3 y0 H locs ls hw hk hl
  unfold wp_X6_worst_49 at hw
  refine lv_istore (lv' := [(4, .int y0), (0, .ref (G.1 30)), (1, .int x1), (2, .int x2), (3, .int x3)]) hx hb dX6_worst_49 hl (Nat.le_of_ble_eq_true rfl) rfl (fun ls hl => ?_)
  refine lv_iload hx hb dX6_worst_51 (lv_at hl 0 rfl) ?_
  refine lv_iload_n hx hb dX6_worst_53 rfl (lv_at hl 3 rfl) ?_
  refine lv_icmp_gt (tgt := 60) hx hb dX6_worst_54 (by decide) (fun c11 => ?_) (fun c11 => ?_)
  · replace hw := hw.1 c11
    refine lv_iload_n hx hb dX6_worst_60 rfl (lv_at hl 4 rfl) ?_
    refine lv_istore_n (lv' := [(1, .int x3), (4, .int y0), (0, .ref (G.1 30)), (2, .int x2), (3, .int x3)]) hx hb dX6_worst_61 rfl hl (Nat.le_of_ble_eq_true rfl) rfl (fun ls hl => ?_)
    refine lv_iload hx hb dX6_worst_62 (lv_at hl 1 rfl) ?_
    refine lv_istore_n (lv' := [(2, .int y0), (1, .int x3), (4, .int y0), (0, .ref (G.1 30)), (3, .int x3)]) hx hb dX6_worst_64 rfl hl (Nat.le_of_ble_eq_true rfl) rfl (fun ls hl => ?_)
    exact t_X6_worst_65 X Q _ hK21 _ _ _ _ _ _ _ hw hk (lv_sub hl [3, 1, 0, 4] rfl)
  · replace hw := hw.2 c11
    refine lv_goto (tgt := 65) hx hb dX6_worst_57 (by decide) ?_
    exact t_X6_worst_65 X Q _ hK21 _ _ _ _ _ _ _ hw hk (lv_sub hl [1, 2, 3, 4] rfl)
def wp_X6_worst_21 (Q : Int32 → Sg → Prop)  : Nat → Int32 → Int32 → Int32 → Sg → Prop
  | 0, _, _, _, _ => False
  | n + 1, x1, x2, x3, σ => wp_X6_roads σ  (fun r6 σ5 => (r6 ≤ x3 → (Q x1 σ5)) ∧ (¬ (r6 ≤ x3) → (wp_X6_shut σ5 x3 (fun r9 σ8 => (r9 = (-1 : Int32) → (wp_X6_worst_49 Q (fun z1 z2 z3 σ => wp_X6_worst_21 Q  n z1 z2 z3 σ) x1 x2 x3 (99 : Int32) σ8)) ∧ (¬ (r9 = (-1 : Int32)) → (wp_X6_worst_49 Q (fun z1 z2 z3 σ => wp_X6_worst_21 Q  n z1 z2 z3 σ) x1 x2 x3 r9 σ8))))))
set_option maxHeartbeats 4000000 in
set_option maxRecDepth 100000 in
theorem t_X6_worst_21 {p : Program} {l : Launch} {e : Env} {s : State} {m : MethodId} {args : Array Value} {below : List Frame} {meth : Method} {c : Code} {G : Gw} (X : KC p m meth c cX6_worst 5 s args wz_X6_worst RX6 (some .int) G) (Q : Int32 → Sg → Prop)  : ∀ (n : Nat) (σ : Sg) (x1 x2 x3 : Int32) (H : Heap) (locs : List Loc) (ls : Array Slot), wp_X6_worst_21 Q  n x1 x2 x3 σ → WK G s H locs σ → lv_has ls 5 [(0, .ref (G.1 30)), (1, .int x1), (2, .int x2), (3, .int x3)] → W p l e rm_X6_worst s m args below meth c H locs 0 0 (ZI below args s G Q) (F0 m 21 ls []) := by
  have hx := X.1.1
  have hb := X.1.2.1
  intro n
  induction n with
  | zero =>
    intro σ x1 x2 x3 H locs ls hw hk hl
    exact False.elim hw
  | succ n ih =>
    intro σ x1 x2 x3 H locs ls hw hk hl
    rw [wp_X6_worst_21] at hw
    refine lv_iload_n hx hb dX6_worst_21 rfl (lv_at hl 3 rfl) ?_
    refine lv_aload_n hx hb dX6_worst_22 rfl (lv_at hl 0 rfl) ?_
    refine k_callVi (rest := [.int x3]) X hk (c_X6_roads l G _  _ hw) (cwV 0 X.1.2.2.2.2 (gzV (aw_r16 _ (List.mem_of_getElem? (i := 18) rfl)) (aw_r16 _ (List.mem_of_getElem? (i := 19) rfl)) (aw_r16 _ (List.mem_of_getElem? (i := 20) rfl)) (aw_r1 _ (List.mem_of_getElem? (i := 5) rfl)) (aw_r16 _ (List.mem_of_getElem? (i := 21) rfl))) rfl rfl rfl hd_X6_roads ⟨(Nat.le_of_ble_eq_true rfl), (Nat.le_of_ble_eq_true rfl)⟩) (wg_30 G _) rfl rfl hl.1 rfl (Nat.le_of_ble_eq_true rfl) dX6_worst_23 ⟨Nat.zero_le _, Nat.zero_le _⟩ (fun r6 σ5 H locs hw hk => ?_)
    refine lv_icmp_ge (tgt := 71) hx hb dX6_worst_26 (by decide) (fun c7 => ?_) (fun c7 => ?_)
    · replace hw := hw.1 c7
      refine lv_iload_n hx hb dX6_worst_71 rfl (lv_at hl 1 rfl) ?_
      exact k_iret X hk hw dX6_worst_72
    · replace hw := hw.2 c7
      refine lv_aload_n hx hb dX6_worst_29 rfl (lv_at hl 0 rfl) ?_
      refine lv_iload_n hx hb dX6_worst_30 rfl (lv_at hl 3 rfl) ?_
      refine k_callVi (rest := []) X hk (c_X6_shut l G _ _ _ hw) (cwV 1 X.1.2.2.2.2 (gzV (aw_r40 _ (List.mem_of_getElem? (i := 2) rfl)) (aw_r33 _ (List.mem_of_getElem? (i := 7) rfl)) (aw_r33 _ (List.mem_of_getElem? (i := 8) rfl)) (aw_r1 _ (List.mem_of_getElem? (i := 5) rfl)) (aw_r33 _ (List.mem_of_getElem? (i := 9) rfl))) rfl rfl rfl hd_X6_shut ⟨(Nat.le_of_ble_eq_true rfl), (Nat.le_of_ble_eq_true rfl)⟩) (wg_30 G _) rfl rfl hl.1 rfl (Nat.le_of_ble_eq_true rfl) dX6_worst_31 ⟨Nat.zero_le _, Nat.zero_le _⟩ (fun r9 σ8 H locs hw hk => ?_)
      refine lv_istore (lv' := [(4, .int r9), (0, .ref (G.1 30)), (1, .int x1), (2, .int x2), (3, .int x3)]) hx hb dX6_worst_34 hl (Nat.le_of_ble_eq_true rfl) rfl (fun ls hl => ?_)
      refine lv_iload hx hb dX6_worst_36 (lv_at hl 0 rfl) ?_
      refine lv_iconst (v := (-1 : Int32)) hx hb dX6_worst_38 (by decide) ?_
      refine lv_icmp_ne (tgt := 47) hx hb dX6_worst_39 (by decide) (fun c10 => ?_) (fun c10 => ?_)
      · replace hw := hw.2 c10
        refine lv_iload hx hb dX6_worst_47 (lv_at hl 0 rfl) ?_
        exact t_X6_worst_49 X Q _ ih _ _ _ _ _ _ _ _ hw hk (lv_sub hl [1, 2, 3, 4] rfl)
      · replace hw := hw.1 c10
        refine lv_bipush (v := (99 : Int32)) hx hb dX6_worst_42 (by decide) ?_
        refine lv_goto (tgt := 49) hx hb dX6_worst_44 (by decide) ?_
        exact t_X6_worst_49 X Q _ ih _ _ _ _ _ _ _ _ hw hk (lv_sub hl [1, 2, 3, 4] rfl)
def wp_X6_worst (σ : Sg) (Q : Int32 → Sg → Prop) : Prop := ∀ σ1 : Sg, σ1 = (put σ 30 0 (0 : Int32)) → (wp_X6_roads σ1  (fun r3 σ2 => (r3 = 0 → (Q (-2 : Int32) σ2)) ∧ (¬ (r3 = 0) → (∃ n0, wp_X6_worst_21 Q  n0 (-1 : Int32) (-1 : Int32) (0 : Int32) σ2))))
set_option maxHeartbeats 4000000 in
set_option maxRecDepth 100000 in
theorem c_X6_worst (l : Launch) (G : Gw) (σ : Sg) (Q : Int32 → Sg → Prop) (hw : wp_X6_worst σ  Q) : MetI l yX6_worst wz_X6_worst rm_X6_worst G σ [.ref (G.1 30)] Q := by
  refine MetI.of cX6_worst 5 (some .int) (by decide) rfl (Nat.le_of_ble_eq_true rfl) ?_
  intro p e s m below meth c X hk ls hl
  have X : KC p m meth c cX6_worst 5 s _ wz_X6_worst RX6 (some .int) G := X
  have hl : lv_has ls 5 [(0, .ref (G.1 30))] := hl
  unfold wp_X6_worst at hw
  have hx := X.1.1
  have hb := X.1.2.1
  refine lv_aload_n hx hb dX6_worst_0 rfl (lv_at hl 0 rfl) ?_
  refine lv_iconst (v := (0 : Int32)) hx hb dX6_worst_1 (by decide) ?_
  refine k_put 0 X hk (wg_30 G _) rfl (hz_wsX60 _) tyX6_ok nmX6 (Nat.le_of_ble_eq_true rfl) (List.mem_cons_of_mem _ (aw_r6 _ (List.mem_of_getElem? (i := 3) rfl))) rfl rfl (Nat.le_of_ble_eq_true rfl) (ws_30_0 G _ _) dX6_worst_2 (fun H locs hk => ?_)
  obtain ⟨σ1, eσ1⟩ : ∃ y : Sg, y = (put σ 30 0 (0 : Int32)) := ⟨_, rfl⟩
  rw [← eσ1] at hk
  replace hw := hw σ1 eσ1
  refine lv_aload_n hx hb dX6_worst_5 rfl (lv_at hl 0 rfl) ?_
  refine k_callVi (rest := []) X hk (c_X6_roads l G _  _ hw) (cwV 0 X.1.2.2.2.2 (gzV (aw_r16 _ (List.mem_of_getElem? (i := 18) rfl)) (aw_r16 _ (List.mem_of_getElem? (i := 19) rfl)) (aw_r16 _ (List.mem_of_getElem? (i := 20) rfl)) (aw_r1 _ (List.mem_of_getElem? (i := 5) rfl)) (aw_r16 _ (List.mem_of_getElem? (i := 21) rfl))) rfl rfl rfl hd_X6_roads ⟨(Nat.le_of_ble_eq_true rfl), (Nat.le_of_ble_eq_true rfl)⟩) (wg_30 G _) rfl rfl hl.1 rfl (Nat.le_of_ble_eq_true rfl) dX6_worst_6 ⟨Nat.zero_le _, Nat.zero_le _⟩ (fun r3 σ2 H locs hw hk => ?_)
  refine lv_if_ne (tgt := 15) hx hb dX6_worst_9 (by decide) (fun c4 => ?_) (fun c4 => ?_)
  · replace hw := hw.2 c4
    refine lv_iconst (v := (-1 : Int32)) hx hb dX6_worst_15 (by decide) ?_
    refine lv_istore_n (lv' := [(1, .int (-1 : Int32)), (0, .ref (G.1 30))]) hx hb dX6_worst_16 rfl hl (Nat.le_of_ble_eq_true rfl) rfl (fun ls hl => ?_)
    refine lv_iconst (v := (-1 : Int32)) hx hb dX6_worst_17 (by decide) ?_
    refine lv_istore_n (lv' := [(2, .int (-1 : Int32)), (1, .int (-1 : Int32)), (0, .ref (G.1 30))]) hx hb dX6_worst_18 rfl hl (Nat.le_of_ble_eq_true rfl) rfl (fun ls hl => ?_)
    refine lv_iconst (v := (0 : Int32)) hx hb dX6_worst_19 (by decide) ?_
    refine lv_istore_n (lv' := [(3, .int (0 : Int32)), (2, .int (-1 : Int32)), (1, .int (-1 : Int32)), (0, .ref (G.1 30))]) hx hb dX6_worst_20 rfl hl (Nat.le_of_ble_eq_true rfl) rfl (fun ls hl => ?_)
    obtain ⟨n0, hw⟩ := hw
    exact t_X6_worst_21 X Q   n0 _ _ _ _ _ _ _ hw hk (lv_sub hl [3, 2, 1, 0] rfl)
  · replace hw := hw.1 c4
    refine lv_bipush (v := (-2 : Int32)) hx hb dX6_worst_12 (by decide) ?_
    exact k_iret X hk hw dX6_worst_14
def rm_X6_lacks : Room := { frames := 4, cells := 0, slots := 0, locals := 89 }
abbrev wz_X6_lacks : List Cond := Cond.code yX6_lacks cX6_lacks 5 (some .int) :: wsA
theorem hd_X6_lacks : yX6_lacks.cls = RX6 ∧ yX6_lacks.cls ≠ "java/lang/invoke/MethodHandle" ∧ yX6_lacks.cls ≠ "java/lang/invoke/VarHandle" ∧ (parseMethodDescriptor yX6_lacks.desc).map (fun d => d.parameters.length) = some 3 := by decide +kernel
def wp_X6_lacks_76 (Q : Int32 → Sg → Prop)  (x4 : Int32) (σ : Sg) : Prop := wp_X6_comesBack σ  (fun σ11 => (x4 ≤ (30 : Int32) → (Q x4 σ11)) ∧ (¬ (x4 ≤ (30 : Int32)) → (Q (-1 : Int32) σ11)))
set_option maxHeartbeats 4000000 in
set_option maxRecDepth 100000 in
theorem t_X6_lacks_76 {p : Program} {l : Launch} {e : Env} {s : State} {m : MethodId} {args : Array Value} {below : List Frame} {meth : Method} {c : Code} {G : Gw} (X : KC p m meth c cX6_lacks 5 s args wz_X6_lacks RX6 (some .int) G) (Q : Int32 → Sg → Prop)  : ∀ (σ : Sg) (x4 : Int32) (H : Heap) (locs : List Loc) (ls : Array Slot), wp_X6_lacks_76 Q  x4 σ → WK G s H locs σ → lv_has ls 5 [(0, .ref (G.1 30)), (4, .int x4)] → W p l e rm_X6_lacks s m args below meth c H locs 0 0 (ZI below args s G Q) (F0 m 76 ls []) := by
  have hx := X.1.1
  have hb := X.1.2.1
  intro σ x4 H locs ls hw hk hl
  unfold wp_X6_lacks_76 at hw
  refine lv_aload_n hx hb dX6_lacks_76 rfl (lv_at hl 0 rfl) ?_
  refine k_callVv (rest := []) X hk (c_X6_comesBack l G _  _ hw) (cwV 0 X.1.2.2.2.2 (gzV (aw_r18 _ (List.mem_of_getElem? (i := 10) rfl)) (aw_r18 _ (List.mem_of_getElem? (i := 11) rfl)) (aw_r18 _ (List.mem_of_getElem? (i := 12) rfl)) (aw_r1 _ (List.mem_of_getElem? (i := 5) rfl)) (aw_r18 _ (List.mem_of_getElem? (i := 13) rfl))) rfl rfl rfl hd_X6_comesBack ⟨(Nat.le_of_ble_eq_true rfl), (Nat.le_of_ble_eq_true rfl)⟩) (wg_30 G _) rfl rfl hl.1 rfl (Nat.le_of_ble_eq_true rfl) dX6_lacks_77 ⟨Nat.zero_le _, Nat.zero_le _⟩ (fun σ11 H locs hw hk => ?_)
  refine lv_iload hx hb dX6_lacks_80 (lv_at hl 1 rfl) ?_
  refine lv_bipush (v := (30 : Int32)) hx hb dX6_lacks_82 (by decide) ?_
  refine lv_icmp_le (tgt := 91) hx hb dX6_lacks_84 (by decide) (fun c13 => ?_) (fun c13 => ?_)
  · replace hw := hw.1 c13
    refine lv_iload hx hb dX6_lacks_91 (lv_at hl 1 rfl) ?_
    exact k_iret X hk hw dX6_lacks_93
  · replace hw := hw.2 c13
    refine lv_iconst (v := (-1 : Int32)) hx hb dX6_lacks_87 (by decide) ?_
    refine lv_goto (tgt := 93) hx hb dX6_lacks_88 (by decide) ?_
    exact k_iret X hk hw dX6_lacks_93
def wp_X6_lacks_67 (Q : Int32 → Sg → Prop) (K30 : Int32 → Int32 → Int32 → Int32 → Sg → Prop) (x1 x2 x3 x4 y1 y2 : Int32) (σ : Sg) : Prop := vp_in (y1 + y2) 256 ∧ (vp_in (y1 + y2) 256 ∧ (∀ σ19 : Sg, σ19 = (put σ 31 ((y1 + y2)).toNatClampNeg ((σ 31 ((y1 + y2)).toNatClampNeg) + (1 : Int32))) → (K30 x1 x2 x3 x4 σ19)))
set_option maxHeartbeats 4000000 in
set_option maxRecDepth 100000 in
theorem t_X6_lacks_67 {p : Program} {l : Launch} {e : Env} {s : State} {m : MethodId} {args : Array Value} {below : List Frame} {meth : Method} {c : Code} {G : Gw} (X : KC p m meth c cX6_lacks 5 s args wz_X6_lacks RX6 (some .int) G) (Q : Int32 → Sg → Prop) (K30 : Int32 → Int32 → Int32 → Int32 → Sg → Prop) (hK30 : ∀ (σ : Sg) (x1 x2 x3 x4 : Int32) (H : Heap) (locs : List Loc) (ls : Array Slot), K30 x1 x2 x3 x4 σ → WK G s H locs σ → lv_has ls 5 [(0, .ref (G.1 30)), (1, .int x1), (2, .int x2), (3, .int x3), (4, .int x4)] → W p l e rm_X6_lacks s m args below meth c H locs 0 0 (ZI below args s G Q) (F0 m 30 ls [])) : ∀ (σ : Sg) (x1 x2 x3 x4 y1 y2 : Int32) (H : Heap) (locs : List Loc) (ls : Array Slot), wp_X6_lacks_67 Q K30 x1 x2 x3 x4 y1 y2 σ → WK G s H locs σ → lv_has ls 5 [(0, .ref (G.1 30)), (1, .int x1), (2, .int x2), (3, .int x3), (4, .int x4)] → W p l e rm_X6_lacks s m args below meth c H locs 0 0 (ZI below args s G Q) (F0 m 67 ls [.int y2, .int y1, .ref (G.1 31)]) := by
  have hx := X.1.1
  have hb := X.1.2.1
  intro σ x1 x2 x3 x4 y1 y2 H locs ls hw hk hl
  unfold wp_X6_lacks_67 at hw
  refine lv_iadd hx hb dX6_lacks_67 ?_
  refine lv_dup2_11 hx hb dX6_lacks_68 rfl rfl ?_
  refine k_iald X hk (wg_31 G _) hw.1 dX6_lacks_69 ?_
  replace hw := hw.2
  refine lv_iconst (v := (1 : Int32)) hx hb dX6_lacks_70 (by decide) ?_
  refine lv_iadd hx hb dX6_lacks_71 ?_
  refine k_iast X hk (wg_31 G _) (ws_31 G _) rfl hw.1 dX6_lacks_72 (fun H locs hk => ?_)
  replace hw := hw.2
  obtain ⟨σ19, eσ19⟩ : ∃ y : Sg, y = (put σ 31 ((y1 + y2)).toNatClampNeg ((σ 31 ((y1 + y2)).toNatClampNeg) + (1 : Int32))) := ⟨_, rfl⟩
  rw [← eσ19] at hk
  replace hw := hw σ19 eσ19
  refine lv_goto (tgt := 30) hx hb dX6_lacks_73 (by decide) ?_
  exact hK30 _ _ _ _ _ _ _ _ hw hk hl
def wp_X6_lacks_30 (Q : Int32 → Sg → Prop)  : Nat → Int32 → Int32 → Int32 → Int32 → Sg → Prop
  | 0, _, _, _, _, _ => False
  | n + 1, x1, x2, x3, x4, σ => ((30 : Int32) < x4 → (wp_X6_lacks_76 Q  x4 σ)) ∧ (¬ ((30 : Int32) < x4) → (wp_X6_can σ x1 (fun r15 σ14 => (r15 = 0 → (∀ x4_17 : Int32, x4_17 = (x4 + (1 : Int32)) → ((x3 = 0 → (wp_X6_lacks_67 Q (fun z1 z2 z3 z4 σ => wp_X6_lacks_30 Q  n z1 z2 z3 z4 σ) x1 x2 x3 x4_17 ((35 : Int32) + ((5 : Int32) * x2)) (3 : Int32) σ14)) ∧ (¬ (x3 = 0) → (wp_X6_lacks_67 Q (fun z1 z2 z3 z4 σ => wp_X6_lacks_30 Q  n z1 z2 z3 z4 σ) x1 x2 x3 x4_17 ((35 : Int32) + ((5 : Int32) * x2)) (4 : Int32) σ14))))) ∧ (¬ (r15 = 0) → (wp_X6_lacks_76 Q  x4 σ14)))))
set_option maxHeartbeats 4000000 in
set_option maxRecDepth 100000 in
theorem t_X6_lacks_30 {p : Program} {l : Launch} {e : Env} {s : State} {m : MethodId} {args : Array Value} {below : List Frame} {meth : Method} {c : Code} {G : Gw} (X : KC p m meth c cX6_lacks 5 s args wz_X6_lacks RX6 (some .int) G) (Q : Int32 → Sg → Prop)  : ∀ (n : Nat) (σ : Sg) (x1 x2 x3 x4 : Int32) (H : Heap) (locs : List Loc) (ls : Array Slot), wp_X6_lacks_30 Q  n x1 x2 x3 x4 σ → WK G s H locs σ → lv_has ls 5 [(0, .ref (G.1 30)), (1, .int x1), (2, .int x2), (3, .int x3), (4, .int x4)] → W p l e rm_X6_lacks s m args below meth c H locs 0 0 (ZI below args s G Q) (F0 m 30 ls []) := by
  have hx := X.1.1
  have hb := X.1.2.1
  intro n
  induction n with
  | zero =>
    intro σ x1 x2 x3 x4 H locs ls hw hk hl
    exact False.elim hw
  | succ n ih =>
    intro σ x1 x2 x3 x4 H locs ls hw hk hl
    rw [wp_X6_lacks_30] at hw
    refine lv_iload hx hb dX6_lacks_30 (lv_at hl 4 rfl) ?_
    refine lv_bipush (v := (30 : Int32)) hx hb dX6_lacks_32 (by decide) ?_
    refine lv_icmp_gt (tgt := 76) hx hb dX6_lacks_34 (by decide) (fun c10 => ?_) (fun c10 => ?_)
    · replace hw := hw.1 c10
      exact t_X6_lacks_76 X Q   _ _ _ _ _ hw hk (lv_sub hl [0, 4] rfl)
    · replace hw := hw.2 c10
      refine lv_aload_n hx hb dX6_lacks_37 rfl (lv_at hl 0 rfl) ?_
      refine lv_iload_n hx hb dX6_lacks_38 rfl (lv_at hl 1 rfl) ?_
      refine k_callVi (rest := []) X hk (c_X6_can l G _ _ _ hw) (cwV 1 X.1.2.2.2.2 (gzV (aw_r31 _ (List.mem_of_getElem? (i := 13) rfl)) (aw_r31 _ (List.mem_of_getElem? (i := 14) rfl)) (aw_r31 _ (List.mem_of_getElem? (i := 15) rfl)) (aw_r1 _ (List.mem_of_getElem? (i := 5) rfl)) (aw_r31 _ (List.mem_of_getElem? (i := 16) rfl))) rfl rfl rfl hd_X6_can ⟨(Nat.le_of_ble_eq_true rfl), (Nat.le_of_ble_eq_true rfl)⟩) (wg_30 G _) rfl rfl hl.1 rfl (Nat.le_of_ble_eq_true rfl) dX6_lacks_39 ⟨Nat.zero_le _, Nat.zero_le _⟩ (fun r15 σ14 H locs hw hk => ?_)
      refine lv_if_ne (tgt := 76) hx hb dX6_lacks_42 (by decide) (fun c16 => ?_) (fun c16 => ?_)
      · replace hw := hw.2 c16
        exact t_X6_lacks_76 X Q   _ _ _ _ _ hw hk (lv_sub hl [0, 4] rfl)
      · replace hw := hw.1 c16
        obtain ⟨x4_17, ex4_17⟩ : ∃ y : Int32, y = (x4 + (1 : Int32)) := ⟨_, rfl⟩
        replace hw := hw x4_17 ex4_17
        refine lv_iinc (v := x4_17) (lv' := [(4, .int x4_17), (0, .ref (G.1 30)), (1, .int x1), (2, .int x2), (3, .int x3)]) hx hb dX6_lacks_45 hl (k := 4) rfl (by rw [ex4_17]; rfl) (Nat.le_of_ble_eq_true rfl) rfl (fun ls hl => ?_)
        refine lv_aload_n hx hb dX6_lacks_48 rfl (lv_at hl 1 rfl) ?_
        refine k_get 1 X hk (wg_30 G _) rfl (hz_wsX60 _) (Nat.le_of_ble_eq_true rfl) (List.mem_cons_of_mem _ (aw_r4 _ (List.mem_of_getElem? (i := 16) rfl))) rfl dX6_lacks_49 ?_
        refine lv_bipush (v := (35 : Int32)) hx hb dX6_lacks_52 (by decide) ?_
        refine lv_iconst (v := (5 : Int32)) hx hb dX6_lacks_54 (by decide) ?_
        refine lv_iload_n hx hb dX6_lacks_55 rfl (lv_at hl 3 rfl) ?_
        refine lv_imul hx hb dX6_lacks_56 ?_
        refine lv_iadd hx hb dX6_lacks_57 ?_
        refine lv_iload_n hx hb dX6_lacks_58 rfl (lv_at hl 4 rfl) ?_
        refine lv_if_eq (tgt := 66) hx hb dX6_lacks_59 (by decide) (fun c18 => ?_) (fun c18 => ?_)
        · replace hw := hw.1 c18
          refine lv_iconst (v := (3 : Int32)) hx hb dX6_lacks_66 (by decide) ?_
          exact t_X6_lacks_67 X Q _ ih _ _ _ _ _ _ _ _ _ _ hw hk (lv_sub hl [1, 2, 3, 4, 0] rfl)
        · replace hw := hw.2 c18
          refine lv_iconst (v := (4 : Int32)) hx hb dX6_lacks_62 (by decide) ?_
          refine lv_goto (tgt := 67) hx hb dX6_lacks_63 (by decide) ?_
          exact t_X6_lacks_67 X Q _ ih _ _ _ _ _ _ _ _ _ _ hw hk (lv_sub hl [1, 2, 3, 4, 0] rfl)
def wp_X6_lacks (σ : Sg) (p1 p2 p3 : Int32) (Q : Int32 → Sg → Prop) : Prop := ∀ σ1 : Sg, σ1 = (put σ 30 0 (0 : Int32)) → (wp_X6_isMinute σ1 p1 (fun r3 σ2 => (r3 = 0 → (Q (-2 : Int32) σ2)) ∧ (¬ (r3 = 0) → (wp_X6_isRoad σ2 p2 (fun r6 σ5 => (r6 = 0 → (Q (-2 : Int32) σ5)) ∧ (¬ (r6 = 0) → (wp_X6_keeps σ5  (fun σ8 => ∃ n0, wp_X6_lacks_30 Q  n0 p1 p2 p3 (0 : Int32) σ8))))))))
set_option maxHeartbeats 4000000 in
set_option maxRecDepth 100000 in
theorem c_X6_lacks (l : Launch) (G : Gw) (σ : Sg) (p1 p2 p3 : Int32) (Q : Int32 → Sg → Prop) (hw : wp_X6_lacks σ p1 p2 p3 Q) : MetI l yX6_lacks wz_X6_lacks rm_X6_lacks G σ [.ref (G.1 30), .int p1, .int p2, .int p3] Q := by
  refine MetI.of cX6_lacks 5 (some .int) (by decide) rfl (Nat.le_of_ble_eq_true rfl) ?_
  intro p e s m below meth c X hk ls hl
  have X : KC p m meth c cX6_lacks 5 s _ wz_X6_lacks RX6 (some .int) G := X
  have hl : lv_has ls 5 [(0, .ref (G.1 30)), (1, .int p1), (2, .int p2), (3, .int p3)] := hl
  unfold wp_X6_lacks at hw
  have hx := X.1.1
  have hb := X.1.2.1
  refine lv_aload_n hx hb dX6_lacks_0 rfl (lv_at hl 0 rfl) ?_
  refine lv_iconst (v := (0 : Int32)) hx hb dX6_lacks_1 (by decide) ?_
  refine k_put 0 X hk (wg_30 G _) rfl (hz_wsX60 _) tyX6_ok nmX6 (Nat.le_of_ble_eq_true rfl) (List.mem_cons_of_mem _ (aw_r6 _ (List.mem_of_getElem? (i := 3) rfl))) rfl rfl (Nat.le_of_ble_eq_true rfl) (ws_30_0 G _ _) dX6_lacks_2 (fun H locs hk => ?_)
  obtain ⟨σ1, eσ1⟩ : ∃ y : Sg, y = (put σ 30 0 (0 : Int32)) := ⟨_, rfl⟩
  rw [← eσ1] at hk
  replace hw := hw σ1 eσ1
  refine lv_iload_n hx hb dX6_lacks_5 rfl (lv_at hl 1 rfl) ?_
  refine k_callSi (rest := []) X hk (c_X6_isMinute l G _ _ _ hw) (va_cwS 1 X.1.2.2.2.2 (gzS (aw_r28 _ (List.mem_of_getElem? (i := 15) rfl)) (aw_r28 _ (List.mem_of_getElem? (i := 16) rfl)) (aw_r1 _ (List.mem_of_getElem? (i := 5) rfl)) (aw_r28 _ (List.mem_of_getElem? (i := 17) rfl))) rfl rfl rfl hds_X6_isMinute ⟨(Nat.le_of_ble_eq_true rfl), (Nat.le_of_ble_eq_true rfl)⟩) rfl hl.1 rfl (Nat.le_of_ble_eq_true rfl) dX6_lacks_6 ⟨Nat.zero_le _, Nat.zero_le _⟩ (fun r3 σ2 H locs hw hk => ?_)
  refine lv_if_eq (tgt := 20) hx hb dX6_lacks_9 (by decide) (fun c4 => ?_) (fun c4 => ?_)
  · replace hw := hw.1 c4
    refine lv_bipush (v := (-2 : Int32)) hx hb dX6_lacks_20 (by decide) ?_
    exact k_iret X hk hw dX6_lacks_22
  · replace hw := hw.2 c4
    refine lv_aload_n hx hb dX6_lacks_12 rfl (lv_at hl 0 rfl) ?_
    refine lv_iload_n hx hb dX6_lacks_13 rfl (lv_at hl 2 rfl) ?_
    refine k_callVi (rest := []) X hk (c_X6_isRoad l G _ _ _ hw) (cwV 1 X.1.2.2.2.2 (gzV (aw_r17 _ (List.mem_of_getElem? (i := 10) rfl)) (aw_r17 _ (List.mem_of_getElem? (i := 11) rfl)) (aw_r17 _ (List.mem_of_getElem? (i := 12) rfl)) (aw_r1 _ (List.mem_of_getElem? (i := 5) rfl)) (aw_r17 _ (List.mem_of_getElem? (i := 13) rfl))) rfl rfl rfl hd_X6_isRoad ⟨(Nat.le_of_ble_eq_true rfl), (Nat.le_of_ble_eq_true rfl)⟩) (wg_30 G _) rfl rfl hl.1 rfl (Nat.le_of_ble_eq_true rfl) dX6_lacks_14 ⟨Nat.zero_le _, Nat.zero_le _⟩ (fun r6 σ5 H locs hw hk => ?_)
    refine lv_if_ne (tgt := 23) hx hb dX6_lacks_17 (by decide) (fun c7 => ?_) (fun c7 => ?_)
    · replace hw := hw.2 c7
      refine lv_aload_n hx hb dX6_lacks_23 rfl (lv_at hl 0 rfl) ?_
      refine k_callVv (rest := []) X hk (c_X6_keeps l G _  _ hw) (cwV 0 X.1.2.2.2.2 (gzV (aw_r14 _ (List.mem_of_getElem? (i := 14) rfl)) (aw_r14 _ (List.mem_of_getElem? (i := 15) rfl)) (aw_r14 _ (List.mem_of_getElem? (i := 16) rfl)) (aw_r1 _ (List.mem_of_getElem? (i := 5) rfl)) (aw_r14 _ (List.mem_of_getElem? (i := 17) rfl))) rfl rfl rfl hd_X6_keeps ⟨(Nat.le_of_ble_eq_true rfl), (Nat.le_of_ble_eq_true rfl)⟩) (wg_30 G _) rfl rfl hl.1 rfl (Nat.le_of_ble_eq_true rfl) dX6_lacks_24 ⟨Nat.zero_le _, Nat.zero_le _⟩ (fun σ8 H locs hw hk => ?_)
      refine lv_iconst (v := (0 : Int32)) hx hb dX6_lacks_27 (by decide) ?_
      refine lv_istore (lv' := [(4, .int (0 : Int32)), (0, .ref (G.1 30)), (1, .int p1), (2, .int p2), (3, .int p3)]) hx hb dX6_lacks_28 hl (Nat.le_of_ble_eq_true rfl) rfl (fun ls hl => ?_)
      obtain ⟨n0, hw⟩ := hw
      exact t_X6_lacks_30 X Q   n0 _ _ _ _ _ _ _ _ hw hk (lv_sub hl [1, 2, 3, 4, 0] rfl)
    · replace hw := hw.1 c7
      refine lv_bipush (v := (-2 : Int32)) hx hb dX6_lacks_20 (by decide) ?_
      exact k_iret X hk hw dX6_lacks_22
