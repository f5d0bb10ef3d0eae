def rm_X4_findNarrow : Room := { frames := 5, cells := 0, slots := 0, locals := 114 }
abbrev wz_X4_findNarrow : List Cond := Cond.code yX4_findNarrow cX4_findNarrow 1 none :: wsA
theorem hd_X4_findNarrow : yX4_findNarrow.cls = RX4 ∧ yX4_findNarrow.cls ≠ "java/lang/invoke/MethodHandle" ∧ yX4_findNarrow.cls ≠ "java/lang/invoke/VarHandle" ∧ (parseMethodDescriptor yX4_findNarrow.desc).map (fun d => d.parameters.length) = some 0 := by decide +kernel
def wp_X4_findNarrow_25 (Q : Sg → Prop)  (y1 : Int32) (σ : Sg) : Prop := ∀ σ2 : Sg, σ2 = (put σ 5 6 y1) → (Q σ2)
set_option maxHeartbeats 4000000 in
set_option maxRecDepth 100000 in
theorem t_X4_findNarrow_25 {p : Program} {l : Launch} {e : Env} {s : State} {m : MethodId} {args : Array Value} {below : List Frame} {meth : Method} {c : Code} {G : Gw} (X : KC p m meth c cX4_findNarrow 1 s args wz_X4_findNarrow RX4 none G) (Q : Sg → Prop)  : ∀ (σ : Sg) (y1 : Int32) (H : Heap) (locs : List Loc) (ls : Array Slot), wp_X4_findNarrow_25 Q  y1 σ → WK G s H locs σ → lv_has ls 1 [] → W p l e rm_X4_findNarrow s m args below meth c H locs 0 0 (ZV below args s G Q) (F0 m 25 ls [.int y1, .ref (G.1 5)]) := by
  have hx := X.1.1
  have hb := X.1.2.1
  intro σ y1 H locs ls hw hk hl
  unfold wp_X4_findNarrow_25 at hw
  refine k_put 6 X hk (wg_5 G _) rfl (hz_wsX40 _) tyX4_ok nmX4 (Nat.le_of_ble_eq_true rfl) (List.mem_cons_of_mem _ (aw_r35 _ (List.mem_of_getElem? (i := 7) rfl))) rfl rfl (Nat.le_of_ble_eq_true rfl) (ws_5_6 G _ _) dX4_findNarrow_25 (fun H locs hk => ?_)
  obtain ⟨σ2, eσ2⟩ : ∃ y : Sg, y = (put σ 5 6 y1) := ⟨_, rfl⟩
  rw [← eσ2] at hk
  replace hw := hw σ2 eσ2
  exact k_vret X hk hw dX4_findNarrow_28
def wp_X4_findNarrow (σ : Sg) (Q : Sg → Prop) : Prop := ((σ 5 0) ≤ 0 → (wp_X4_findNarrow_25 Q  (1 : Int32) σ)) ∧ (¬ ((σ 5 0) ≤ 0) → (wp_X0_squeeze σ ((σ 5 0) - (1 : Int32)) (fun r4 σ3 => wp_X4_findNarrow_25 Q  r4 σ3)))
set_option maxHeartbeats 4000000 in
set_option maxRecDepth 100000 in
theorem c_X4_findNarrow (l : Launch) (G : Gw) (σ : Sg) (Q : Sg → Prop) (hw : wp_X4_findNarrow σ  Q) : MetV l yX4_findNarrow wz_X4_findNarrow rm_X4_findNarrow G σ [.ref (G.1 5)] Q := by
  refine MetV.of cX4_findNarrow 1 none (by decide) rfl (Nat.le_of_ble_eq_true rfl) ?_
  intro p e s m below meth c X hk ls hl
  have X : KC p m meth c cX4_findNarrow 1 s _ wz_X4_findNarrow RX4 none G := X
  have hl : lv_has ls 1 [(0, .ref (G.1 5))] := hl
  unfold wp_X4_findNarrow at hw
  have hx := X.1.1
  have hb := X.1.2.1
  refine lv_aload_n hx hb dX4_findNarrow_0 rfl (lv_at hl 0 rfl) ?_
  refine lv_aload_n hx hb dX4_findNarrow_1 rfl (lv_at hl 0 rfl) ?_
  refine k_get 0 X hk (wg_5 G _) rfl (hz_wsX40 _) (Nat.le_of_ble_eq_true rfl) (List.mem_cons_of_mem _ (aw_r35 _ (List.mem_of_getElem? (i := 0) rfl))) rfl dX4_findNarrow_2 ?_
  refine lv_if_le (tgt := 24) hx hb dX4_findNarrow_5 (by decide) (fun c1 => ?_) (fun c1 => ?_)
  · replace hw := hw.1 c1
    refine lv_iconst (v := (1 : Int32)) hx hb dX4_findNarrow_24 (by decide) ?_
    exact t_X4_findNarrow_25 X Q   _ _ _ _ _ hw hk (lv_sub hl [] rfl)
  · replace hw := hw.2 c1
    refine lv_aload_n hx hb dX4_findNarrow_8 rfl (lv_at hl 0 rfl) ?_
    refine k_get 5 X hk (wg_5 G _) rfl (hz_wsX40 _) (Nat.le_of_ble_eq_true rfl) (List.mem_cons_of_mem _ (aw_r4 _ (List.mem_of_getElem? (i := 11) rfl))) rfl dX4_findNarrow_9 ?_
    refine lv_aload_n hx hb dX4_findNarrow_12 rfl (lv_at hl 0 rfl) ?_
    refine k_get 0 X hk (wg_5 G _) rfl (hz_wsX40 _) (Nat.le_of_ble_eq_true rfl) (List.mem_cons_of_mem _ (aw_r35 _ (List.mem_of_getElem? (i := 0) rfl))) rfl dX4_findNarrow_13 ?_
    refine lv_iconst (v := (1 : Int32)) hx hb dX4_findNarrow_16 (by decide) ?_
    refine lv_isub hx hb dX4_findNarrow_17 ?_
    refine k_callVi (rest := [.ref (G.1 5)]) X hk (c_X0_squeeze l G _ _ _ hw) (cwV 1 X.1.2.2.2.2 (gzV (aw_r35 _ (List.mem_of_getElem? (i := 8) rfl)) (aw_r35 _ (List.mem_of_getElem? (i := 9) rfl)) (aw_r35 _ (List.mem_of_getElem? (i := 10) rfl)) (aw_r2 _ (List.mem_of_getElem? (i := 3) rfl)) (aw_r35 _ (List.mem_of_getElem? (i := 11) rfl))) rfl rfl rfl hd_X0_squeeze ⟨(Nat.le_of_ble_eq_true rfl), (Nat.le_of_ble_eq_true rfl)⟩) (wg_4 G _) rfl rfl hl.1 rfl (Nat.le_of_ble_eq_true rfl) dX4_findNarrow_18 ⟨Nat.zero_le _, Nat.zero_le _⟩ (fun r4 σ3 H locs hw hk => ?_)
    refine lv_goto (tgt := 25) hx hb dX4_findNarrow_21 (by decide) ?_
    exact t_X4_findNarrow_25 X Q   _ _ _ _ _ hw hk (lv_sub hl [] rfl)
def rm_X4_tryTurn : Room := { frames := 5, cells := 0, slots := 0, locals := 116 }
abbrev wz_X4_tryTurn : List Cond := Cond.code yX4_tryTurn cX4_tryTurn 4 (some .boolean) :: wsA
theorem hd_X4_tryTurn : yX4_tryTurn.cls = RX4 ∧ yX4_tryTurn.cls ≠ "java/lang/invoke/MethodHandle" ∧ yX4_tryTurn.cls ≠ "java/lang/invoke/VarHandle" ∧ (parseMethodDescriptor yX4_tryTurn.desc).map (fun d => d.parameters.length) = some 2 := by decide +kernel
def wp_X4_tryTurn_74 (Q : Int32 → Sg → Prop)  (x1 x2 y0 : Int32) (σ : Sg) : Prop := wp_X3_shiftLanes σ x1 (-x2) (fun σ12 => (y0 = (σ12 5 0) → (bz (0 : Int32) ∧ Q (0 : Int32) σ12)) ∧ (¬ (y0 = (σ12 5 0)) → (∀ σ15 : Sg, σ15 = (put σ12 5 0 y0) → (∀ σ16 : Sg, σ16 = (put σ15 5 1 x1) → (∀ σ17 : Sg, σ17 = (put σ16 5 2 x2) → (bz (1 : Int32) ∧ Q (1 : Int32) σ17))))))
set_option maxHeartbeats 4000000 in
set_option maxRecDepth 100000 in
theorem t_X4_tryTurn_74 {p : Program} {l : Launch} {e : Env} {s : State} {m : MethodId} {args : Array Value} {below : List Frame} {meth : Method} {c : Code} {G : Gw} (X : KC p m meth c cX4_tryTurn 4 s args wz_X4_tryTurn RX4 (some .boolean) G) (Q : Int32 → Sg → Prop)  : ∀ (σ : Sg) (x1 x2 y0 : Int32) (H : Heap) (locs : List Loc) (ls : Array Slot), wp_X4_tryTurn_74 Q  x1 x2 y0 σ → WK G s H locs σ → lv_has ls 4 [(0, .ref (G.1 5)), (1, .int x1), (2, .int x2)] → W p l e rm_X4_tryTurn s m args below meth c H locs 0 0 (ZI below args s G Q) (F0 m 74 ls [.int y0]) := by
  have hx := X.1.1
  have hb := X.1.2.1
  intro σ x1 x2 y0 H locs ls hw hk hl
  unfold wp_X4_tryTurn_74 at hw
  refine lv_istore_n (lv' := [(3, .int y0), (0, .ref (G.1 5)), (1, .int x1), (2, .int x2)]) hx hb dX4_tryTurn_74 rfl hl (Nat.le_of_ble_eq_true rfl) rfl (fun ls hl => ?_)
  refine lv_aload_n hx hb dX4_tryTurn_75 rfl (lv_at hl 1 rfl) ?_
  refine k_get 4 X hk (wg_5 G _) rfl (hz_wsX40 _) (Nat.le_of_ble_eq_true rfl) (List.mem_cons_of_mem _ (aw_r4 _ (List.mem_of_getElem? (i := 10) rfl))) rfl dX4_tryTurn_76 ?_
  refine lv_iload_n hx hb dX4_tryTurn_79 rfl (lv_at hl 2 rfl) ?_
  refine lv_iload_n hx hb dX4_tryTurn_80 rfl (lv_at hl 3 rfl) ?_
  refine lv_ineg hx hb dX4_tryTurn_81 ?_
  refine k_callVv (rest := []) X hk (c_X3_shiftLanes l G _ _ _ _ hw) (cwV 2 X.1.2.2.2.2 (gzV (aw_r36 _ (List.mem_of_getElem? (i := 4) rfl)) (aw_r13 _ (List.mem_of_getElem? (i := 23) rfl)) (aw_r14 _ (List.mem_of_getElem? (i := 0) rfl)) (aw_r1 _ (List.mem_of_getElem? (i := 15) rfl)) (aw_r14 _ (List.mem_of_getElem? (i := 1) rfl))) rfl rfl rfl hd_X3_shiftLanes ⟨(Nat.le_of_ble_eq_true rfl), (Nat.le_of_ble_eq_true rfl)⟩) (wg_1 G _) rfl rfl hl.1 rfl (Nat.le_of_ble_eq_true rfl) dX4_tryTurn_82 ⟨Nat.zero_le _, Nat.zero_le _⟩ (fun σ12 H locs hw hk => ?_)
  refine lv_iload_n hx hb dX4_tryTurn_85 rfl (lv_at hl 0 rfl) ?_
  refine lv_aload_n hx hb dX4_tryTurn_86 rfl (lv_at hl 1 rfl) ?_
  refine k_get 0 X hk (wg_5 G _) rfl (hz_wsX40 _) (Nat.le_of_ble_eq_true rfl) (List.mem_cons_of_mem _ (aw_r35 _ (List.mem_of_getElem? (i := 0) rfl))) rfl dX4_tryTurn_87 ?_
  refine lv_icmp_ne (tgt := 95) hx hb dX4_tryTurn_90 (by decide) (fun c14 => ?_) (fun c14 => ?_)
  · replace hw := hw.2 c14
    refine lv_aload_n hx hb dX4_tryTurn_95 rfl (lv_at hl 1 rfl) ?_
    refine lv_iload_n hx hb dX4_tryTurn_96 rfl (lv_at hl 0 rfl) ?_
    refine k_put 0 X hk (wg_5 G _) rfl (hz_wsX40 _) tyX4_ok nmX4 (Nat.le_of_ble_eq_true rfl) (List.mem_cons_of_mem _ (aw_r35 _ (List.mem_of_getElem? (i := 0) rfl))) rfl rfl (Nat.le_of_ble_eq_true rfl) (ws_5_0 G _ _) dX4_tryTurn_97 (fun H locs hk => ?_)
    obtain ⟨σ15, eσ15⟩ : ∃ y : Sg, y = (put σ12 5 0 y0) := ⟨_, rfl⟩
    rw [← eσ15] at hk
    replace hw := hw σ15 eσ15
    refine lv_aload_n hx hb dX4_tryTurn_100 rfl (lv_at hl 1 rfl) ?_
    refine lv_iload_n hx hb dX4_tryTurn_101 rfl (lv_at hl 2 rfl) ?_
    refine k_put 1 X hk (wg_5 G _) rfl (hz_wsX40 _) tyX4_ok nmX4 (Nat.le_of_ble_eq_true rfl) (List.mem_cons_of_mem _ (aw_r35 _ (List.mem_of_getElem? (i := 21) rfl))) rfl rfl (Nat.le_of_ble_eq_true rfl) (ws_5_1 G _ _) dX4_tryTurn_102 (fun H locs hk => ?_)
    obtain ⟨σ16, eσ16⟩ : ∃ y : Sg, y = (put σ15 5 1 x1) := ⟨_, rfl⟩
    rw [← eσ16] at hk
    replace hw := hw σ16 eσ16
    refine lv_aload_n hx hb dX4_tryTurn_105 rfl (lv_at hl 1 rfl) ?_
    refine lv_iload_n hx hb dX4_tryTurn_106 rfl (lv_at hl 3 rfl) ?_
    refine k_put 2 X hk (wg_5 G _) rfl (hz_wsX40 _) tyX4_ok nmX4 (Nat.le_of_ble_eq_true rfl) (List.mem_cons_of_mem _ (aw_r35 _ (List.mem_of_getElem? (i := 22) rfl))) rfl rfl (Nat.le_of_ble_eq_true rfl) (ws_5_2 G _ _) dX4_tryTurn_107 (fun H locs hk => ?_)
    obtain ⟨σ17, eσ17⟩ : ∃ y : Sg, y = (put σ16 5 2 x2) := ⟨_, rfl⟩
    rw [← eσ17] at hk
    replace hw := hw σ17 eσ17
    refine lv_iconst (v := (1 : Int32)) hx hb dX4_tryTurn_110 (by decide) ?_
    exact k_zret X hk hw dX4_tryTurn_111
  · replace hw := hw.1 c14
    refine lv_iconst (v := (0 : Int32)) hx hb dX4_tryTurn_93 (by decide) ?_
    exact k_zret X hk hw dX4_tryTurn_94
def wp_X4_tryTurn (σ : Sg) (p1 p2 : Int32) (Q : Int32 → Sg → Prop) : Prop := wp_X3_turnFits σ p1 p2 (fun r2 σ1 => (r2 = 0 → (bz (0 : Int32) ∧ Q (0 : Int32) σ1)) ∧ (¬ (r2 = 0) → (wp_X0_crossingMore σ1 p1 p2 (fun r5 σ4 => ((σ4 5 6) ≤ r5 → (wp_X3_shiftLanes σ4 p1 p2 (fun σ7 => wp_X0_allSafeBy σ7 ((σ7 5 0) - (1 : Int32)) (fun r10 σ9 => (r10 = 0 → (wp_X4_tryTurn_74 Q  p1 p2 (σ9 5 0) σ9)) ∧ (¬ (r10 = 0) → (wp_X0_soonestWithin σ9 (0 : Int32) (σ9 5 0) (fun r19 σ18 => wp_X4_tryTurn_74 Q  p1 p2 r19 σ18))))))) ∧ (¬ ((σ4 5 6) ≤ r5) → (bz (0 : Int32) ∧ Q (0 : Int32) σ4))))))
set_option maxHeartbeats 4000000 in
set_option maxRecDepth 100000 in
theorem c_X4_tryTurn (l : Launch) (G : Gw) (σ : Sg) (p1 p2 : Int32) (Q : Int32 → Sg → Prop) (hw : wp_X4_tryTurn σ p1 p2 Q) : MetI l yX4_tryTurn wz_X4_tryTurn rm_X4_tryTurn G σ [.ref (G.1 5), .int p1, .int p2] Q := by
  refine MetI.of cX4_tryTurn 4 (some .boolean) (by decide) rfl (Nat.le_of_ble_eq_true rfl) ?_
  intro p e s m below meth c X hk ls hl
  have X : KC p m meth c cX4_tryTurn 4 s _ wz_X4_tryTurn RX4 (some .boolean) G := X
  have hl : lv_has ls 4 [(0, .ref (G.1 5)), (1, .int p1), (2, .int p2)] := hl
  unfold wp_X4_tryTurn at hw
  have hx := X.1.1
  have hb := X.1.2.1
  refine lv_aload_n hx hb dX4_tryTurn_0 rfl (lv_at hl 0 rfl) ?_
  refine k_get 4 X hk (wg_5 G _) rfl (hz_wsX40 _) (Nat.le_of_ble_eq_true rfl) (List.mem_cons_of_mem _ (aw_r4 _ (List.mem_of_getElem? (i := 10) rfl))) rfl dX4_tryTurn_1 ?_
  refine lv_iload_n hx hb dX4_tryTurn_4 rfl (lv_at hl 1 rfl) ?_
  refine lv_iload_n hx hb dX4_tryTurn_5 rfl (lv_at hl 2 rfl) ?_
  refine k_callVi (rest := []) X hk (c_X3_turnFits l G _ _ _ _ hw) (cwV 2 X.1.2.2.2.2 (gzV (aw_r35 _ (List.mem_of_getElem? (i := 23) rfl)) (aw_r12 _ (List.mem_of_getElem? (i := 21) rfl)) (aw_r12 _ (List.mem_of_getElem? (i := 22) rfl)) (aw_r1 _ (List.mem_of_getElem? (i := 15) rfl)) (aw_r12 _ (List.mem_of_getElem? (i := 23) rfl))) rfl rfl rfl hd_X3_turnFits ⟨(Nat.le_of_ble_eq_true rfl), (Nat.le_of_ble_eq_true rfl)⟩) (wg_1 G _) rfl rfl hl.1 rfl (Nat.le_of_ble_eq_true rfl) dX4_tryTurn_6 ⟨Nat.zero_le _, Nat.zero_le _⟩ (fun r2 σ1 H locs hw hk => ?_)
  refine lv_if_eq (tgt := 28) hx hb dX4_tryTurn_9 (by decide) (fun c3 => ?_) (fun c3 => ?_)
  · replace hw := hw.1 c3
    refine lv_iconst (v := (0 : Int32)) hx hb dX4_tryTurn_28 (by decide) ?_
    exact k_zret X hk hw dX4_tryTurn_29
  · replace hw := hw.2 c3
    refine lv_aload_n hx hb dX4_tryTurn_12 rfl (lv_at hl 0 rfl) ?_
    refine k_get 5 X hk (wg_5 G _) rfl (hz_wsX40 _) (Nat.le_of_ble_eq_true rfl) (List.mem_cons_of_mem _ (aw_r4 _ (List.mem_of_getElem? (i := 11) rfl))) rfl dX4_tryTurn_13 ?_
    refine lv_iload_n hx hb dX4_tryTurn_16 rfl (lv_at hl 1 rfl) ?_
    refine lv_iload_n hx hb dX4_tryTurn_17 rfl (lv_at hl 2 rfl) ?_
    refine k_callVi (rest := []) X hk (c_X0_crossingMore l G _ _ _ _ hw) (cwV 2 X.1.2.2.2.2 (gzV (aw_r36 _ (List.mem_of_getElem? (i := 0) rfl)) (aw_r36 _ (List.mem_of_getElem? (i := 1) rfl)) (aw_r36 _ (List.mem_of_getElem? (i := 2) rfl)) (aw_r2 _ (List.mem_of_getElem? (i := 3) rfl)) (aw_r36 _ (List.mem_of_getElem? (i := 3) rfl))) rfl rfl rfl hd_X0_crossingMore ⟨(Nat.le_of_ble_eq_true rfl), (Nat.le_of_ble_eq_true rfl)⟩) (wg_4 G _) rfl rfl hl.1 rfl (Nat.le_of_ble_eq_true rfl) dX4_tryTurn_18 ⟨Nat.zero_le _, Nat.zero_le _⟩ (fun r5 σ4 H locs hw hk => ?_)
    refine lv_aload_n hx hb dX4_tryTurn_21 rfl (lv_at hl 0 rfl) ?_
    refine k_get 6 X hk (wg_5 G _) rfl (hz_wsX40 _) (Nat.le_of_ble_eq_true rfl) (List.mem_cons_of_mem _ (aw_r35 _ (List.mem_of_getElem? (i := 7) rfl))) rfl dX4_tryTurn_22 ?_
    refine lv_icmp_ge (tgt := 30) hx hb dX4_tryTurn_25 (by decide) (fun c6 => ?_) (fun c6 => ?_)
    · replace hw := hw.1 c6
      refine lv_aload_n hx hb dX4_tryTurn_30 rfl (lv_at hl 0 rfl) ?_
      refine k_get 4 X hk (wg_5 G _) rfl (hz_wsX40 _) (Nat.le_of_ble_eq_true rfl) (List.mem_cons_of_mem _ (aw_r4 _ (List.mem_of_getElem? (i := 10) rfl))) rfl dX4_tryTurn_31 ?_
      refine lv_iload_n hx hb dX4_tryTurn_34 rfl (lv_at hl 1 rfl) ?_
      refine lv_iload_n hx hb dX4_tryTurn_35 rfl (lv_at hl 2 rfl) ?_
      refine k_callVv (rest := []) X hk (c_X3_shiftLanes l G _ _ _ _ hw) (cwV 2 X.1.2.2.2.2 (gzV (aw_r36 _ (List.mem_of_getElem? (i := 4) rfl)) (aw_r13 _ (List.mem_of_getElem? (i := 23) rfl)) (aw_r14 _ (List.mem_of_getElem? (i := 0) rfl)) (aw_r1 _ (List.mem_of_getElem? (i := 15) rfl)) (aw_r14 _ (List.mem_of_getElem? (i := 1) rfl))) rfl rfl rfl hd_X3_shiftLanes ⟨(Nat.le_of_ble_eq_true rfl), (Nat.le_of_ble_eq_true rfl)⟩) (wg_1 G _) rfl rfl hl.1 rfl (Nat.le_of_ble_eq_true rfl) dX4_tryTurn_36 ⟨Nat.zero_le _, Nat.zero_le _⟩ (fun σ7 H locs hw hk => ?_)
      refine lv_aload_n hx hb dX4_tryTurn_39 rfl (lv_at hl 0 rfl) ?_
      refine k_get 5 X hk (wg_5 G _) rfl (hz_wsX40 _) (Nat.le_of_ble_eq_true rfl) (List.mem_cons_of_mem _ (aw_r4 _ (List.mem_of_getElem? (i := 11) rfl))) rfl dX4_tryTurn_40 ?_
      refine lv_aload_n hx hb dX4_tryTurn_43 rfl (lv_at hl 0 rfl) ?_
      refine k_get 0 X hk (wg_5 G _) rfl (hz_wsX40 _) (Nat.le_of_ble_eq_true rfl) (List.mem_cons_of_mem _ (aw_r35 _ (List.mem_of_getElem? (i := 0) rfl))) rfl dX4_tryTurn_44 ?_
      refine lv_iconst (v := (1 : Int32)) hx hb dX4_tryTurn_47 (by decide) ?_
      refine lv_isub hx hb dX4_tryTurn_48 ?_
      refine k_callVi (rest := []) X hk (c_X0_allSafeBy l G _ _ _ hw) (cwV 1 X.1.2.2.2.2 (gzV (aw_r36 _ (List.mem_of_getElem? (i := 5) rfl)) (aw_r36 _ (List.mem_of_getElem? (i := 6) rfl)) (aw_r36 _ (List.mem_of_getElem? (i := 7) rfl)) (aw_r2 _ (List.mem_of_getElem? (i := 3) rfl)) (aw_r36 _ (List.mem_of_getElem? (i := 8) rfl))) rfl rfl rfl hd_X0_allSafeBy ⟨(Nat.le_of_ble_eq_true rfl), (Nat.le_of_ble_eq_true rfl)⟩) (wg_4 G _) rfl rfl hl.1 rfl (Nat.le_of_ble_eq_true rfl) dX4_tryTurn_49 ⟨Nat.zero_le _, Nat.zero_le _⟩ (fun r10 σ9 H locs hw hk => ?_)
      refine lv_if_eq (tgt := 70) hx hb dX4_tryTurn_52 (by decide) (fun c11 => ?_) (fun c11 => ?_)
      · replace hw := hw.1 c11
        refine lv_aload_n hx hb dX4_tryTurn_70 rfl (lv_at hl 0 rfl) ?_
        refine k_get 0 X hk (wg_5 G _) rfl (hz_wsX40 _) (Nat.le_of_ble_eq_true rfl) (List.mem_cons_of_mem _ (aw_r35 _ (List.mem_of_getElem? (i := 0) rfl))) rfl dX4_tryTurn_71 ?_
        exact t_X4_tryTurn_74 X Q   _ _ _ _ _ _ _ hw hk hl
      · replace hw := hw.2 c11
        refine lv_aload_n hx hb dX4_tryTurn_55 rfl (lv_at hl 0 rfl) ?_
        refine k_get 5 X hk (wg_5 G _) rfl (hz_wsX40 _) (Nat.le_of_ble_eq_true rfl) (List.mem_cons_of_mem _ (aw_r4 _ (List.mem_of_getElem? (i := 11) rfl))) rfl dX4_tryTurn_56 ?_
        refine lv_iconst (v := (0 : Int32)) hx hb dX4_tryTurn_59 (by decide) ?_
        refine lv_aload_n hx hb dX4_tryTurn_60 rfl (lv_at hl 0 rfl) ?_
        refine k_get 0 X hk (wg_5 G _) rfl (hz_wsX40 _) (Nat.le_of_ble_eq_true rfl) (List.mem_cons_of_mem _ (aw_r35 _ (List.mem_of_getElem? (i := 0) rfl))) rfl dX4_tryTurn_61 ?_
        refine k_callVi (rest := []) X hk (c_X0_soonestWithin l G _ _ _ _ hw) (cwV 2 X.1.2.2.2.2 (gzV (aw_r36 _ (List.mem_of_getElem? (i := 9) rfl)) (aw_r30 _ (List.mem_of_getElem? (i := 4) rfl)) (aw_r30 _ (List.mem_of_getElem? (i := 5) rfl)) (aw_r2 _ (List.mem_of_getElem? (i := 3) rfl)) (aw_r30 _ (List.mem_of_getElem? (i := 6) rfl))) rfl rfl rfl hd_X0_soonestWithin ⟨(Nat.le_of_ble_eq_true rfl), (Nat.le_of_ble_eq_true rfl)⟩) (wg_4 G _) rfl rfl hl.1 rfl (Nat.le_of_ble_eq_true rfl) dX4_tryTurn_64 ⟨Nat.zero_le _, Nat.zero_le _⟩ (fun r19 σ18 H locs hw hk => ?_)
        refine lv_goto (tgt := 74) hx hb dX4_tryTurn_67 (by decide) ?_
        exact t_X4_tryTurn_74 X Q   _ _ _ _ _ _ _ hw hk hl
    · replace hw := hw.2 c6
      refine lv_iconst (v := (0 : Int32)) hx hb dX4_tryTurn_28 (by decide) ?_
      exact k_zret X hk hw dX4_tryTurn_29
def rm_X4_findTurn : Room := { frames := 6, cells := 0, slots := 0, locals := 139 }
abbrev wz_X4_findTurn : List Cond := Cond.code yX4_findTurn cX4_findTurn 4 (some .boolean) :: wsA
theorem hd_X4_findTurn : yX4_findTurn.cls = RX4 ∧ yX4_findTurn.cls ≠ "java/lang/invoke/MethodHandle" ∧ yX4_findTurn.cls ≠ "java/lang/invoke/VarHandle" ∧ (parseMethodDescriptor yX4_findTurn.desc).map (fun d => d.parameters.length) = some 0 := by decide +kernel
def wp_X4_findTurn_79 (Q : Int32 → Sg → Prop) (K19 : Int32 → Int32 → Sg → Prop) (x1 x2 : Int32) (σ : Sg) : Prop := ∀ x2_9 : Int32, x2_9 = (x2 + (1 : Int32)) → (K19 x1 x2_9 σ)
set_option maxHeartbeats 4000000 in
set_option maxRecDepth 100000 in
theorem t_X4_findTurn_79 {p : Program} {l : Launch} {e : Env} {s : State} {m : MethodId} {args : Array Value} {below : List Frame} {meth : Method} {c : Code} {G : Gw} (X : KC p m meth c cX4_findTurn 4 s args wz_X4_findTurn RX4 (some .boolean) G) (Q : Int32 → Sg → Prop) (K19 : Int32 → Int32 → Sg → Prop) (hK19 : ∀ (σ : Sg) (x1 x2 : Int32) (H : Heap) (locs : List Loc) (ls : Array Slot), K19 x1 x2 σ → WK G s H locs σ → lv_has ls 4 [(0, .ref (G.1 5)), (1, .int x1), (2, .int x2)] → W p l e rm_X4_findTurn s m args below meth c H locs 0 0 (ZI below args s G Q) (F0 m 19 ls [])) : ∀ (σ : Sg) (x1 x2 : Int32) (H : Heap) (locs : List Loc) (ls : Array Slot), wp_X4_findTurn_79 Q K19 x1 x2 σ → WK G s H locs σ → lv_has ls 4 [(0, .ref (G.1 5)), (1, .int x1), (2, .int x2)] → W p l e rm_X4_findTurn s m args below meth c H locs 0 0 (ZI below args s G Q) (F0 m 79 ls []) := by
  have hx := X.1.1
  have hb := X.1.2.1
  intro σ x1 x2 H locs ls hw hk hl
  unfold wp_X4_findTurn_79 at hw
  obtain ⟨x2_9, ex2_9⟩ : ∃ y : Int32, y = (x2 + (1 : Int32)) := ⟨_, rfl⟩
  replace hw := hw x2_9 ex2_9
  refine lv_iinc (v := x2_9) (lv' := [(2, .int x2_9), (0, .ref (G.1 5)), (1, .int x1)]) hx hb dX4_findTurn_79 hl (k := 2) rfl (by rw [ex2_9]; rfl) (Nat.le_of_ble_eq_true rfl) rfl (fun ls hl => ?_)
  refine lv_goto (tgt := 19) hx hb dX4_findTurn_82 (by decide) ?_
  exact hK19 _ _ _ _ _ _ hw hk (lv_sub hl [1, 2, 0] rfl)
def wp_X4_findTurn_73 (Q : Int32 → Sg → Prop) (K19 : Int32 → Int32 → Sg → Prop) (K27 : Int32 → Int32 → Int32 → Sg → Prop) (x1 x2 x3 : Int32) (σ : Sg) : Prop := ∀ x3_15 : Int32, x3_15 = (x3 + (1 : Int32)) → (K27 x1 x2 x3_15 σ)
set_option maxHeartbeats 4000000 in
set_option maxRecDepth 100000 in
theorem t_X4_findTurn_73 {p : Program} {l : Launch} {e : Env} {s : State} {m : MethodId} {args : Array Value} {below : List Frame} {meth : Method} {c : Code} {G : Gw} (X : KC p m meth c cX4_findTurn 4 s args wz_X4_findTurn RX4 (some .boolean) G) (Q : Int32 → Sg → Prop) (K19 : Int32 → Int32 → Sg → Prop) (K27 : Int32 → Int32 → Int32 → Sg → Prop) (hK19 : ∀ (σ : Sg) (x1 x2 : Int32) (H : Heap) (locs : List Loc) (ls : Array Slot), K19 x1 x2 σ → WK G s H locs σ → lv_has ls 4 [(0, .ref (G.1 5)), (1, .int x1), (2, .int x2)] → W p l e rm_X4_findTurn s m args below meth c H locs 0 0 (ZI below args s G Q) (F0 m 19 ls [])) (hK27 : ∀ (σ : Sg) (x1 x2 x3 : Int32) (H : Heap) (locs : List Loc) (ls : Array Slot), K27 x1 x2 x3 σ → WK G s H locs σ → lv_has ls 4 [(0, .ref (G.1 5)), (1, .int x1), (2, .int x2), (3, .int x3)] → W p l e rm_X4_findTurn s m args below meth c H locs 0 0 (ZI below args s G Q) (F0 m 27 ls [])) : ∀ (σ : Sg) (x1 x2 x3 : Int32) (H : Heap) (locs : List Loc) (ls : Array Slot), wp_X4_findTurn_73 Q K19 K27 x1 x2 x3 σ → WK G s H locs σ → lv_has ls 4 [(0, .ref (G.1 5)), (1, .int x1), (2, .int x2), (3, .int x3)] → W p l e rm_X4_findTurn s m args below meth c H locs 0 0 (ZI below args s G Q) (F0 m 73 ls []) := by
  have hx := X.1.1
  have hb := X.1.2.1
  intro σ x1 x2 x3 H locs ls hw hk hl
  unfold wp_X4_findTurn_73 at hw
  obtain ⟨x3_15, ex3_15⟩ : ∃ y : Int32, y = (x3 + (1 : Int32)) := ⟨_, rfl⟩
  replace hw := hw x3_15 ex3_15
  refine lv_iinc (v := x3_15) (lv' := [(3, .int x3_15), (0, .ref (G.1 5)), (1, .int x1), (2, .int x2)]) hx hb dX4_findTurn_73 hl (k := 3) rfl (by rw [ex3_15]; rfl) (Nat.le_of_ble_eq_true rfl) rfl (fun ls hl => ?_)
  refine lv_goto (tgt := 27) hx hb dX4_findTurn_76 (by decide) ?_
  exact hK27 _ _ _ _ _ _ _ hw hk (lv_sub hl [1, 2, 3, 0] rfl)
def wp_X4_findTurn_63 (Q : Int32 → Sg → Prop) (K19 : Int32 → Int32 → Sg → Prop) (K27 : Int32 → Int32 → Int32 → Sg → Prop) (x1 x2 x3 y1 y2 : Int32) (σ : Sg) : Prop := wp_X4_tryTurn σ y1 y2 (fun r13 σ12 => (r13 = 0 → (wp_X4_findTurn_73 Q K19 K27 x1 x2 x3 σ12)) ∧ (¬ (r13 = 0) → (wp_X4_findNarrow σ12  (fun σ16 => wp_X4_findTurn_73 Q K19 K27 x1 x2 x3 σ16))))
set_option maxHeartbeats 4000000 in
set_option maxRecDepth 100000 in
theorem t_X4_findTurn_63 {p : Program} {l : Launch} {e : Env} {s : State} {m : MethodId} {args : Array Value} {below : List Frame} {meth : Method} {c : Code} {G : Gw} (X : KC p m meth c cX4_findTurn 4 s args wz_X4_findTurn RX4 (some .boolean) G) (Q : Int32 → Sg → Prop) (K19 : Int32 → Int32 → Sg → Prop) (K27 : Int32 → Int32 → Int32 → Sg → Prop) (hK19 : ∀ (σ : Sg) (x1 x2 : Int32) (H : Heap) (locs : List Loc) (ls : Array Slot), K19 x1 x2 σ → WK G s H locs σ → lv_has ls 4 [(0, .ref (G.1 5)), (1, .int x1), (2, .int x2)] → W p l e rm_X4_findTurn s m args below meth c H locs 0 0 (ZI below args s G Q) (F0 m 19 ls [])) (hK27 : ∀ (σ : Sg) (x1 x2 x3 : Int32) (H : Heap) (locs : List Loc) (ls : Array Slot), K27 x1 x2 x3 σ → WK G s H locs σ → lv_has ls 4 [(0, .ref (G.1 5)), (1, .int x1), (2, .int x2), (3, .int x3)] → W p l e rm_X4_findTurn s m args below meth c H locs 0 0 (ZI below args s G Q) (F0 m 27 ls [])) : ∀ (σ : Sg) (x1 x2 x3 y1 y2 : Int32) (H : Heap) (locs : List Loc) (ls : Array Slot), wp_X4_findTurn_63 Q K19 K27 x1 x2 x3 y1 y2 σ → WK G s H locs σ → lv_has ls 4 [(0, .ref (G.1 5)), (1, .int x1), (2, .int x2), (3, .int x3)] → W p l e rm_X4_findTurn s m args below meth c H locs 0 0 (ZI below args s G Q) (F0 m 63 ls [.int y2, .int y1, .ref (G.1 5)]) := by
  have hx := X.1.1
  have hb := X.1.2.1
  intro σ x1 x2 x3 y1 y2 H locs ls hw hk hl
  unfold wp_X4_findTurn_63 at hw
  refine k_callVi (rest := []) X hk (c_X4_tryTurn l G _ _ _ _ hw) (cwV 2 X.1.2.2.2.2 (gzV (aw_r35 _ (List.mem_of_getElem? (i := 17) rfl)) (aw_r35 _ (List.mem_of_getElem? (i := 18) rfl)) (aw_r35 _ (List.mem_of_getElem? (i := 19) rfl)) (aw_r2 _ (List.mem_of_getElem? (i := 7) rfl)) (aw_r35 _ (List.mem_of_getElem? (i := 20) rfl))) rfl rfl rfl hd_X4_tryTurn ⟨(Nat.le_of_ble_eq_true rfl), (Nat.le_of_ble_eq_true rfl)⟩) (wg_5 G _) rfl rfl hl.1 rfl (Nat.le_of_ble_eq_true rfl) dX4_findTurn_63 ⟨Nat.zero_le _, Nat.zero_le _⟩ (fun r13 σ12 H locs hw hk => ?_)
  refine lv_if_eq (tgt := 73) hx hb dX4_findTurn_66 (by decide) (fun c14 => ?_) (fun c14 => ?_)
  · replace hw := hw.1 c14
    exact t_X4_findTurn_73 X Q _ _ hK19 hK27 _ _ _ _ _ _ _ hw hk hl
  · replace hw := hw.2 c14
    refine lv_aload_n hx hb dX4_findTurn_69 rfl (lv_at hl 0 rfl) ?_
    refine k_callVv (rest := []) X hk (c_X4_findNarrow l G _  _ hw) (cwV 0 X.1.2.2.2.2 (gzV (aw_r35 _ (List.mem_of_getElem? (i := 3) rfl)) (aw_r35 _ (List.mem_of_getElem? (i := 4) rfl)) (aw_r35 _ (List.mem_of_getElem? (i := 5) rfl)) (aw_r2 _ (List.mem_of_getElem? (i := 7) rfl)) (aw_r35 _ (List.mem_of_getElem? (i := 6) rfl))) rfl rfl rfl hd_X4_findNarrow ⟨(Nat.le_of_ble_eq_true rfl), (Nat.le_of_ble_eq_true rfl)⟩) (wg_5 G _) rfl rfl hl.1 rfl (Nat.le_of_ble_eq_true rfl) dX4_findTurn_70 ⟨Nat.zero_le _, Nat.zero_le _⟩ (fun σ16 H locs hw hk => ?_)
    exact t_X4_findTurn_73 X Q _ _ hK19 hK27 _ _ _ _ _ _ _ hw hk hl
def wp_X4_findTurn_27 (Q : Int32 → Sg → Prop) (K19 : Int32 → Int32 → Sg → Prop) : Nat → Int32 → Int32 → Int32 → Sg → Prop
  | 0, _, _, _, _ => False
  | n + 1, x1, x2, x3, σ => (((2 : Int32) * (σ 1 1)) ≤ x3 → (wp_X4_findTurn_79 Q K19 x1 x2 σ)) ∧ (¬ (((2 : Int32) * (σ 1 1)) ≤ x3) → (((σ 5 0) ≤ 0 → (wp_X4_findTurn_79 Q K19 x1 x2 σ)) ∧ (¬ ((σ 5 0) ≤ 0) → (((x3 - x3 / (2 : Int32) * (2 : Int32)) = 0 → (wp_X4_findTurn_63 Q K19 (fun z1 z2 z3 σ => wp_X4_findTurn_27 Q K19 n z1 z2 z3 σ) x1 x2 x3 (x3 / (2 : Int32)) x2 σ)) ∧ (¬ ((x3 - x3 / (2 : Int32) * (2 : Int32)) = 0) → (wp_X4_findTurn_63 Q K19 (fun z1 z2 z3 σ => wp_X4_findTurn_27 Q K19 n z1 z2 z3 σ) x1 x2 x3 (x3 / (2 : Int32)) (-x2) σ))))))
set_option maxHeartbeats 4000000 in
set_option maxRecDepth 100000 in
theorem t_X4_findTurn_27 {p : Program} {l : Launch} {e : Env} {s : State} {m : MethodId} {args : Array Value} {below : List Frame} {meth : Method} {c : Code} {G : Gw} (X : KC p m meth c cX4_findTurn 4 s args wz_X4_findTurn RX4 (some .boolean) G) (Q : Int32 → Sg → Prop) (K19 : Int32 → Int32 → Sg → Prop) (hK19 : ∀ (σ : Sg) (x1 x2 : Int32) (H : Heap) (locs : List Loc) (ls : Array Slot), K19 x1 x2 σ → WK G s H locs σ → lv_has ls 4 [(0, .ref (G.1 5)), (1, .int x1), (2, .int x2)] → W p l e rm_X4_findTurn s m args below meth c H locs 0 0 (ZI below args s G Q) (F0 m 19 ls [])) : ∀ (n : Nat) (σ : Sg) (x1 x2 x3 : Int32) (H : Heap) (locs : List Loc) (ls : Array Slot), wp_X4_findTurn_27 Q K19 n x1 x2 x3 σ → WK G s H locs σ → lv_has ls 4 [(0, .ref (G.1 5)), (1, .int x1), (2, .int x2), (3, .int x3)] → W p l e rm_X4_findTurn s m args below meth c H locs 0 0 (ZI below args s G Q) (F0 m 27 ls []) := by
  have hx := X.1.1
  have hb := X.1.2.1
  intro n
  induction n with
  | zero =>
    intro σ x1 x2 x3 H locs ls hw hk hl
    exact False.elim hw
  | succ n ih =>
    intro σ x1 x2 x3 H locs ls hw hk hl
    rw [wp_X4_findTurn_27] at hw
    refine lv_iload_n hx hb dX4_findTurn_27 rfl (lv_at hl 3 rfl) ?_
    refine lv_iconst (v := (2 : Int32)) hx hb dX4_findTurn_28 (by decide) ?_
    refine lv_aload_n hx hb dX4_findTurn_29 rfl (lv_at hl 0 rfl) ?_
    refine k_get 4 X hk (wg_5 G _) rfl (hz_wsX40 _) (Nat.le_of_ble_eq_true rfl) (List.mem_cons_of_mem _ (aw_r4 _ (List.mem_of_getElem? (i := 10) rfl))) rfl dX4_findTurn_30 ?_
    refine k_get 1 X hk (wg_1 G _) rfl (hz_wsX30 _) (Nat.le_of_ble_eq_true rfl) (List.mem_cons_of_mem _ (aw_r35 _ (List.mem_of_getElem? (i := 1) rfl))) rfl dX4_findTurn_33 ?_
    refine lv_imul hx hb dX4_findTurn_36 ?_
    refine lv_icmp_ge (tgt := 79) hx hb dX4_findTurn_37 (by decide) (fun c8 => ?_) (fun c8 => ?_)
    · replace hw := hw.1 c8
      exact t_X4_findTurn_79 X Q _ hK19 _ _ _ _ _ _ hw hk (lv_sub hl [0, 1, 2] rfl)
    · replace hw := hw.2 c8
      refine lv_aload_n hx hb dX4_findTurn_40 rfl (lv_at hl 0 rfl) ?_
      refine k_get 0 X hk (wg_5 G _) rfl (hz_wsX40 _) (Nat.le_of_ble_eq_true rfl) (List.mem_cons_of_mem _ (aw_r35 _ (List.mem_of_getElem? (i := 0) rfl))) rfl dX4_findTurn_41 ?_
      refine lv_if_le (tgt := 79) hx hb dX4_findTurn_44 (by decide) (fun c10 => ?_) (fun c10 => ?_)
      · replace hw := hw.1 c10
        exact t_X4_findTurn_79 X Q _ hK19 _ _ _ _ _ _ hw hk (lv_sub hl [0, 1, 2] rfl)
      · replace hw := hw.2 c10
        refine lv_aload_n hx hb dX4_findTurn_47 rfl (lv_at hl 0 rfl) ?_
        refine lv_iload_n hx hb dX4_findTurn_48 rfl (lv_at hl 3 rfl) ?_
        refine lv_iconst (v := (2 : Int32)) hx hb dX4_findTurn_49 (by decide) ?_
        refine lv_idiv hx hb dX4_findTurn_50 (by decide) ?_
        refine lv_iload_n hx hb dX4_findTurn_51 rfl (lv_at hl 3 rfl) ?_
        refine lv_iconst (v := (2 : Int32)) hx hb dX4_findTurn_52 (by decide) ?_
        refine lv_irem hx hb dX4_findTurn_53 (by decide) ?_
        refine lv_if_ne (tgt := 61) hx hb dX4_findTurn_54 (by decide) (fun c11 => ?_) (fun c11 => ?_)
        · replace hw := hw.2 c11
          refine lv_iload_n hx hb dX4_findTurn_61 rfl (lv_at hl 2 rfl) ?_
          refine lv_ineg hx hb dX4_findTurn_62 ?_
          exact t_X4_findTurn_63 X Q _ _ hK19 ih _ _ _ _ _ _ _ _ _ hw hk hl
        · replace hw := hw.1 c11
          refine lv_iload_n hx hb dX4_findTurn_57 rfl (lv_at hl 2 rfl) ?_
          refine lv_goto (tgt := 63) hx hb dX4_findTurn_58 (by decide) ?_
          exact t_X4_findTurn_63 X Q _ _ hK19 ih _ _ _ _ _ _ _ _ _ hw hk hl
def wp_X4_findTurn_19 (Q : Int32 → Sg → Prop)  : Nat → Int32 → Int32 → Sg → Prop
  | 0, _, _, _ => False
  | n + 1, x1, x2, σ => ((18 : Int32) < x2 → ((x1 ≤ (σ 5 0) → (bz (0 : Int32) ∧ Q (0 : Int32) σ)) ∧ (¬ (x1 ≤ (σ 5 0)) → (bz (1 : Int32) ∧ Q (1 : Int32) σ)))) ∧ (¬ ((18 : Int32) < x2) → (∃ n0, wp_X4_findTurn_27 Q (fun z1 z2 σ => wp_X4_findTurn_19 Q  n z1 z2 σ) n0 x1 x2 (0 : Int32) σ))
set_option maxHeartbeats 4000000 in
set_option maxRecDepth 100000 in
theorem t_X4_findTurn_19 {p : Program} {l : Launch} {e : Env} {s : State} {m : MethodId} {args : Array Value} {below : List Frame} {meth : Method} {c : Code} {G : Gw} (X : KC p m meth c cX4_findTurn 4 s args wz_X4_findTurn RX4 (some .boolean) G) (Q : Int32 → Sg → Prop)  : ∀ (n : Nat) (σ : Sg) (x1 x2 : Int32) (H : Heap) (locs : List Loc) (ls : Array Slot), wp_X4_findTurn_19 Q  n x1 x2 σ → WK G s H locs σ → lv_has ls 4 [(0, .ref (G.1 5)), (1, .int x1), (2, .int x2)] → W p l e rm_X4_findTurn s m args below meth c H locs 0 0 (ZI below args s G Q) (F0 m 19 ls []) := by
  have hx := X.1.1
  have hb := X.1.2.1
  intro n
  induction n with
  | zero =>
    intro σ x1 x2 H locs ls hw hk hl
    exact False.elim hw
  | succ n ih =>
    intro σ x1 x2 H locs ls hw hk hl
    rw [wp_X4_findTurn_19] at hw
    refine lv_iload_n hx hb dX4_findTurn_19 rfl (lv_at hl 2 rfl) ?_
    refine lv_bipush (v := (18 : Int32)) hx hb dX4_findTurn_20 (by decide) ?_
    refine lv_icmp_gt (tgt := 85) hx hb dX4_findTurn_22 (by decide) (fun c6 => ?_) (fun c6 => ?_)
    · replace hw := hw.1 c6
      refine lv_aload_n hx hb dX4_findTurn_85 rfl (lv_at hl 0 rfl) ?_
      refine k_get 0 X hk (wg_5 G _) rfl (hz_wsX40 _) (Nat.le_of_ble_eq_true rfl) (List.mem_cons_of_mem _ (aw_r35 _ (List.mem_of_getElem? (i := 0) rfl))) rfl dX4_findTurn_86 ?_
      refine lv_iload_n hx hb dX4_findTurn_89 rfl (lv_at hl 1 rfl) ?_
      refine lv_icmp_ge (tgt := 97) hx hb dX4_findTurn_90 (by decide) (fun c7 => ?_) (fun c7 => ?_)
      · replace hw := hw.1 c7
        refine lv_iconst (v := (0 : Int32)) hx hb dX4_findTurn_97 (by decide) ?_
        exact k_zret X hk hw dX4_findTurn_98
      · replace hw := hw.2 c7
        refine lv_iconst (v := (1 : Int32)) hx hb dX4_findTurn_93 (by decide) ?_
        refine lv_goto (tgt := 98) hx hb dX4_findTurn_94 (by decide) ?_
        exact k_zret X hk hw dX4_findTurn_98
    · replace hw := hw.2 c6
      refine lv_iconst (v := (0 : Int32)) hx hb dX4_findTurn_25 (by decide) ?_
      refine lv_istore_n (lv' := [(3, .int (0 : Int32)), (0, .ref (G.1 5)), (1, .int x1), (2, .int x2)]) hx hb dX4_findTurn_26 rfl hl (Nat.le_of_ble_eq_true rfl) rfl (fun ls hl => ?_)
      obtain ⟨n0, hw⟩ := hw
      exact t_X4_findTurn_27 X Q _ ih n0 _ _ _ _ _ _ _ hw hk (lv_sub hl [1, 2, 3, 0] rfl)
def wp_X4_findTurn (σ : Sg) (Q : Int32 → Sg → Prop) : Prop := wp_X0_soonest σ  (fun r2 σ1 => ∀ σ3 : Sg, σ3 = (put σ1 5 0 r2) → (wp_X4_findNarrow σ3  (fun σ4 => ∃ n0, wp_X4_findTurn_19 Q  n0 r2 (1 : Int32) σ4)))
set_option maxHeartbeats 4000000 in
set_option maxRecDepth 100000 in
theorem c_X4_findTurn (l : Launch) (G : Gw) (σ : Sg) (Q : Int32 → Sg → Prop) (hw : wp_X4_findTurn σ  Q) : MetI l yX4_findTurn wz_X4_findTurn rm_X4_findTurn G σ [.ref (G.1 5)] Q := by
  refine MetI.of cX4_findTurn 4 (some .boolean) (by decide) rfl (Nat.le_of_ble_eq_true rfl) ?_
  intro p e s m below meth c X hk ls hl
  have X : KC p m meth c cX4_findTurn 4 s _ wz_X4_findTurn RX4 (some .boolean) G := X
  have hl : lv_has ls 4 [(0, .ref (G.1 5))] := hl
  unfold wp_X4_findTurn at hw
  have hx := X.1.1
  have hb := X.1.2.1
  refine lv_aload_n hx hb dX4_findTurn_0 rfl (lv_at hl 0 rfl) ?_
  refine k_get 5 X hk (wg_5 G _) rfl (hz_wsX40 _) (Nat.le_of_ble_eq_true rfl) (List.mem_cons_of_mem _ (aw_r4 _ (List.mem_of_getElem? (i := 11) rfl))) rfl dX4_findTurn_1 ?_
  refine k_callVi (rest := []) X hk (c_X0_soonest l G _  _ hw) (cwV 0 X.1.2.2.2.2 (gzV (aw_r35 _ (List.mem_of_getElem? (i := 2) rfl)) (aw_r30 _ (List.mem_of_getElem? (i := 0) rfl)) (aw_r30 _ (List.mem_of_getElem? (i := 1) rfl)) (aw_r2 _ (List.mem_of_getElem? (i := 3) rfl)) (aw_r30 _ (List.mem_of_getElem? (i := 2) rfl))) rfl rfl rfl hd_X0_soonest ⟨(Nat.le_of_ble_eq_true rfl), (Nat.le_of_ble_eq_true rfl)⟩) (wg_4 G _) rfl rfl hl.1 rfl (Nat.le_of_ble_eq_true rfl) dX4_findTurn_4 ⟨Nat.zero_le _, Nat.zero_le _⟩ (fun r2 σ1 H locs hw hk => ?_)
  refine lv_istore_n (lv' := [(1, .int r2), (0, .ref (G.1 5))]) hx hb dX4_findTurn_7 rfl hl (Nat.le_of_ble_eq_true rfl) rfl (fun ls hl => ?_)
  refine lv_aload_n hx hb dX4_findTurn_8 rfl (lv_at hl 1 rfl) ?_
  refine lv_iload_n hx hb dX4_findTurn_9 rfl (lv_at hl 0 rfl) ?_
  refine k_put 0 X hk (wg_5 G _) rfl (hz_wsX40 _) tyX4_ok nmX4 (Nat.le_of_ble_eq_true rfl) (List.mem_cons_of_mem _ (aw_r35 _ (List.mem_of_getElem? (i := 0) rfl))) rfl rfl (Nat.le_of_ble_eq_true rfl) (ws_5_0 G _ _) dX4_findTurn_10 (fun H locs hk => ?_)
  obtain ⟨σ3, eσ3⟩ : ∃ y : Sg, y = (put σ1 5 0 r2) := ⟨_, rfl⟩
  rw [← eσ3] at hk
  replace hw := hw σ3 eσ3
  refine lv_aload_n hx hb dX4_findTurn_13 rfl (lv_at hl 1 rfl) ?_
  refine k_callVv (rest := []) X hk (c_X4_findNarrow l G _  _ hw) (cwV 0 X.1.2.2.2.2 (gzV (aw_r35 _ (List.mem_of_getElem? (i := 3) rfl)) (aw_r35 _ (List.mem_of_getElem? (i := 4) rfl)) (aw_r35 _ (List.mem_of_getElem? (i := 5) rfl)) (aw_r2 _ (List.mem_of_getElem? (i := 7) rfl)) (aw_r35 _ (List.mem_of_getElem? (i := 6) rfl))) rfl rfl rfl hd_X4_findNarrow ⟨(Nat.le_of_ble_eq_true rfl), (Nat.le_of_ble_eq_true rfl)⟩) (wg_5 G _) rfl rfl hl.1 rfl (Nat.le_of_ble_eq_true rfl) dX4_findTurn_14 ⟨Nat.zero_le _, Nat.zero_le _⟩ (fun σ4 H locs hw hk => ?_)
  refine lv_iconst (v := (1 : Int32)) hx hb dX4_findTurn_17 (by decide) ?_
  refine lv_istore_n (lv' := [(2, .int (1 : Int32)), (1, .int r2), (0, .ref (G.1 5))]) hx hb dX4_findTurn_18 rfl hl (Nat.le_of_ble_eq_true rfl) rfl (fun ls hl => ?_)
  obtain ⟨n0, hw⟩ := hw
  exact t_X4_findTurn_19 X Q   n0 _ _ _ _ _ _ hw hk (lv_sub hl [2, 1, 0] rfl)
def rm_X4_choose : Room := { frames := 0, cells := 0, slots := 0, locals := 0 }
abbrev wz_X4_choose : List Cond := Cond.code yX4_choose cX4_choose 4 (some .int) :: wsA
theorem hd_X4_choose : yX4_choose.cls = RX4 ∧ yX4_choose.cls ≠ "java/lang/invoke/MethodHandle" ∧ yX4_choose.cls ≠ "java/lang/invoke/VarHandle" ∧ (parseMethodDescriptor yX4_choose.desc).map (fun d => d.parameters.length) = some 1 := by decide +kernel
def wp_X4_choose_61 (Q : Int32 → Sg → Prop) (K9 : Int32 → Int32 → Int32 → Sg → Prop) (x1 x2 x3 : Int32) (σ : Sg) : Prop := ∀ x3_5 : Int32, x3_5 = (x3 + (1 : Int32)) → (K9 x1 x2 x3_5 σ)
set_option maxHeartbeats 4000000 in
set_option maxRecDepth 100000 in
theorem t_X4_choose_61 {p : Program} {l : Launch} {e : Env} {s : State} {m : MethodId} {args : Array Value} {below : List Frame} {meth : Method} {c : Code} {G : Gw} (X : KC p m meth c cX4_choose 4 s args wz_X4_choose RX4 (some .int) G) (Q : Int32 → Sg → Prop) (K9 : Int32 → Int32 → Int32 → Sg → Prop) (hK9 : ∀ (σ : Sg) (x1 x2 x3 : Int32) (H : Heap) (locs : List Loc) (ls : Array Slot), K9 x1 x2 x3 σ → WK G s H locs σ → lv_has ls 4 [(0, .ref (G.1 5)), (1, .int x1), (2, .int x2), (3, .int x3)] → W p l e rm_X4_choose s m args below meth c H locs 0 0 (ZI below args s G Q) (F0 m 9 ls [])) : ∀ (σ : Sg) (x1 x2 x3 : Int32) (H : Heap) (locs : List Loc) (ls : Array Slot), wp_X4_choose_61 Q K9 x1 x2 x3 σ → WK G s H locs σ → lv_has ls 4 [(0, .ref (G.1 5)), (1, .int x1), (2, .int x2), (3, .int x3)] → W p l e rm_X4_choose s m args below meth c H locs 0 0 (ZI below args s G Q) (F0 m 61 ls []) := by
  have hx := X.1.1
  have hb := X.1.2.1
  intro σ x1 x2 x3 H locs ls hw hk hl
  unfold wp_X4_choose_61 at hw
  obtain ⟨x3_5, ex3_5⟩ : ∃ y : Int32, y = (x3 + (1 : Int32)) := ⟨_, rfl⟩
  replace hw := hw x3_5 ex3_5
  refine lv_iinc (v := x3_5) (lv' := [(3, .int x3_5), (0, .ref (G.1 5)), (1, .int x1), (2, .int x2)]) hx hb dX4_choose_61 hl (k := 3) rfl (by rw [ex3_5]; rfl) (Nat.le_of_ble_eq_true rfl) rfl (fun ls hl => ?_)
  refine lv_goto (tgt := 9) hx hb dX4_choose_64 (by decide) ?_
  exact hK9 _ _ _ _ _ _ _ hw hk (lv_sub hl [1, 2, 3, 0] rfl)
def wp_X4_choose_9 (Q : Int32 → Sg → Prop)  : Nat → Int32 → Int32 → Int32 → Sg → Prop
  | 0, _, _, _, _ => False
  | n + 1, x1, x2, x3, σ => ((σ 1 1) ≤ x3 → (Q x2 σ)) ∧ (¬ ((σ 1 1) ≤ x3) → (((4 : Int32) ≤ (σ 5 7) → (Q x2 σ)) ∧ (¬ ((4 : Int32) ≤ (σ 5 7)) → ((((x1 >>> (x3 &&& 31)) &&& (1 : Int32)) = (1 : Int32) → (vp_in (σ 5 7) 4 ∧ (∀ σ6 : Sg, σ6 = (put σ 28 ((σ 5 7)).toNatClampNeg x3) → (∀ σ7 : Sg, σ7 = (put σ6 5 7 ((σ6 5 7) + (1 : Int32))) → (∀ x2_8 : Int32, x2_8 = (x2 * (3 : Int32)) → (wp_X4_choose_61 Q (fun z1 z2 z3 σ => wp_X4_choose_9 Q  n z1 z2 z3 σ) x1 x2_8 x3 σ7)))))) ∧ (¬ (((x1 >>> (x3 &&& 31)) &&& (1 : Int32)) = (1 : Int32)) → (wp_X4_choose_61 Q (fun z1 z2 z3 σ => wp_X4_choose_9 Q  n z1 z2 z3 σ) x1 x2 x3 σ))))))
set_option maxHeartbeats 4000000 in
set_option maxRecDepth 100000 in
theorem t_X4_choose_9 {p : Program} {l : Launch} {e : Env} {s : State} {m : MethodId} {args : Array Value} {below : List Frame} {meth : Method} {c : Code} {G : Gw} (X : KC p m meth c cX4_choose 4 s args wz_X4_choose RX4 (some .int) G) (Q : Int32 → Sg → Prop)  : ∀ (n : Nat) (σ : Sg) (x1 x2 x3 : Int32) (H : Heap) (locs : List Loc) (ls : Array Slot), wp_X4_choose_9 Q  n x1 x2 x3 σ → WK G s H locs σ → lv_has ls 4 [(0, .ref (G.1 5)), (1, .int x1), (2, .int x2), (3, .int x3)] → W p l e rm_X4_choose s m args below meth c H locs 0 0 (ZI below args s G Q) (F0 m 9 ls []) := by
  have hx := X.1.1
  have hb := X.1.2.1
  intro n
  induction n with
  | zero =>
    intro σ x1 x2 x3 H locs ls hw hk hl
    exact False.elim hw
  | succ n ih =>
    intro σ x1 x2 x3 H locs ls hw hk hl
    rw [wp_X4_choose_9] at hw
    refine lv_iload_n hx hb dX4_choose_9 rfl (lv_at hl 3 rfl) ?_
    refine lv_aload_n hx hb dX4_choose_10 rfl (lv_at hl 0 rfl) ?_
    refine k_get 4 X hk (wg_5 G _) rfl (hz_wsX40 _) (Nat.le_of_ble_eq_true rfl) (List.mem_cons_of_mem _ (aw_r4 _ (List.mem_of_getElem? (i := 10) rfl))) rfl dX4_choose_11 ?_
    refine k_get 1 X hk (wg_1 G _) rfl (hz_wsX30 _) (Nat.le_of_ble_eq_true rfl) (List.mem_cons_of_mem _ (aw_r35 _ (List.mem_of_getElem? (i := 1) rfl))) rfl dX4_choose_14 ?_
    refine lv_icmp_ge (tgt := 67) hx hb dX4_choose_17 (by decide) (fun c2 => ?_) (fun c2 => ?_)
    · replace hw := hw.1 c2
      refine lv_iload_n hx hb dX4_choose_67 rfl (lv_at hl 2 rfl) ?_
      exact k_iret X hk hw dX4_choose_68
    · replace hw := hw.2 c2
      refine lv_aload_n hx hb dX4_choose_20 rfl (lv_at hl 0 rfl) ?_
      refine k_get 7 X hk (wg_5 G _) rfl (hz_wsX40 _) (Nat.le_of_ble_eq_true rfl) (List.mem_cons_of_mem _ (aw_r37 _ (List.mem_of_getElem? (i := 7) rfl))) rfl dX4_choose_21 ?_
      refine lv_iconst (v := (4 : Int32)) hx hb dX4_choose_24 (by decide) ?_
      refine lv_icmp_ge (tgt := 67) hx hb dX4_choose_25 (by decide) (fun c3 => ?_) (fun c3 => ?_)
      · replace hw := hw.1 c3
        refine lv_iload_n hx hb dX4_choose_67 rfl (lv_at hl 2 rfl) ?_
        exact k_iret X hk hw dX4_choose_68
      · replace hw := hw.2 c3
        refine lv_iload_n hx hb dX4_choose_28 rfl (lv_at hl 1 rfl) ?_
        refine lv_iload_n hx hb dX4_choose_29 rfl (lv_at hl 3 rfl) ?_
        refine lv_ishr hx hb dX4_choose_30 ?_
        refine lv_iconst (v := (1 : Int32)) hx hb dX4_choose_31 (by decide) ?_
        refine lv_iand hx hb dX4_choose_32 ?_
        refine lv_iconst (v := (1 : Int32)) hx hb dX4_choose_33 (by decide) ?_
        refine lv_icmp_ne (tgt := 61) hx hb dX4_choose_34 (by decide) (fun c4 => ?_) (fun c4 => ?_)
        · replace hw := hw.2 c4
          exact t_X4_choose_61 X Q _ ih _ _ _ _ _ _ _ hw hk hl
        · replace hw := hw.1 c4
          refine lv_aload_n hx hb dX4_choose_37 rfl (lv_at hl 0 rfl) ?_
          refine k_get 8 X hk (wg_5 G _) rfl (hz_wsX40 _) (Nat.le_of_ble_eq_true rfl) (List.mem_cons_of_mem _ (aw_r4 _ (List.mem_of_getElem? (i := 8) rfl))) rfl dX4_choose_38 ?_
          refine lv_aload_n hx hb dX4_choose_41 rfl (lv_at hl 0 rfl) ?_
          refine k_get 7 X hk (wg_5 G _) rfl (hz_wsX40 _) (Nat.le_of_ble_eq_true rfl) (List.mem_cons_of_mem _ (aw_r37 _ (List.mem_of_getElem? (i := 7) rfl))) rfl dX4_choose_42 ?_
          refine lv_iload_n hx hb dX4_choose_45 rfl (lv_at hl 3 rfl) ?_
          refine k_iast X hk (wg_28 G _) (ws_28 G _) rfl hw.1 dX4_choose_46 (fun H locs hk => ?_)
          replace hw := hw.2
          obtain ⟨σ6, eσ6⟩ : ∃ y : Sg, y = (put σ 28 ((σ 5 7)).toNatClampNeg x3) := ⟨_, rfl⟩
          rw [← eσ6] at hk
          replace hw := hw σ6 eσ6
          refine lv_aload_n hx hb dX4_choose_47 rfl (lv_at hl 0 rfl) ?_
          refine lv_dup hx hb dX4_choose_48 rfl ?_
          refine k_get 7 X hk (wg_5 G _) rfl (hz_wsX40 _) (Nat.le_of_ble_eq_true rfl) (List.mem_cons_of_mem _ (aw_r37 _ (List.mem_of_getElem? (i := 7) rfl))) rfl dX4_choose_49 ?_
          refine lv_iconst (v := (1 : Int32)) hx hb dX4_choose_52 (by decide) ?_
          refine lv_iadd hx hb dX4_choose_53 ?_
          refine k_put 7 X hk (wg_5 G _) rfl (hz_wsX40 _) tyX4_ok nmX4 (Nat.le_of_ble_eq_true rfl) (List.mem_cons_of_mem _ (aw_r37 _ (List.mem_of_getElem? (i := 7) rfl))) rfl rfl (Nat.le_of_ble_eq_true rfl) (ws_5_7 G _ _) dX4_choose_54 (fun H locs hk => ?_)
          obtain ⟨σ7, eσ7⟩ : ∃ y : Sg, y = (put σ6 5 7 ((σ6 5 7) + (1 : Int32))) := ⟨_, rfl⟩
          rw [← eσ7] at hk
          replace hw := hw σ7 eσ7
          refine lv_iload_n hx hb dX4_choose_57 rfl (lv_at hl 2 rfl) ?_
          refine lv_iconst (v := (3 : Int32)) hx hb dX4_choose_58 (by decide) ?_
          refine lv_imul hx hb dX4_choose_59 ?_
          refine lv_topi (fun x2_8 ex2_8 => ?_)
          replace hw := hw x2_8 ex2_8
          refine lv_istore_n (lv' := [(2, .int x2_8), (0, .ref (G.1 5)), (1, .int x1), (3, .int x3)]) hx hb dX4_choose_60 rfl hl (Nat.le_of_ble_eq_true rfl) rfl (fun ls hl => ?_)
          exact t_X4_choose_61 X Q _ ih _ _ _ _ _ _ _ hw hk (lv_sub hl [1, 2, 0, 3] rfl)
def wp_X4_choose (σ : Sg) (p1 : Int32) (Q : Int32 → Sg → Prop) : Prop := ∀ σ1 : Sg, σ1 = (put σ 5 7 (0 : Int32)) → (∃ n0, wp_X4_choose_9 Q  n0 p1 (1 : Int32) (0 : Int32) σ1)
set_option maxHeartbeats 4000000 in
set_option maxRecDepth 100000 in
theorem c_X4_choose (l : Launch) (G : Gw) (σ : Sg) (p1 : Int32) (Q : Int32 → Sg → Prop) (hw : wp_X4_choose σ p1 Q) : MetI l yX4_choose wz_X4_choose rm_X4_choose G σ [.ref (G.1 5), .int p1] Q := by
  refine MetI.of cX4_choose 4 (some .int) (by decide) rfl (Nat.le_of_ble_eq_true rfl) ?_
  intro p e s m below meth c X hk ls hl
  have X : KC p m meth c cX4_choose 4 s _ wz_X4_choose RX4 (some .int) G := X
  have hl : lv_has ls 4 [(0, .ref (G.1 5)), (1, .int p1)] := hl
  unfold wp_X4_choose at hw
  have hx := X.1.1
  have hb := X.1.2.1
  refine lv_aload_n hx hb dX4_choose_0 rfl (lv_at hl 0 rfl) ?_
  refine lv_iconst (v := (0 : Int32)) hx hb dX4_choose_1 (by decide) ?_
  refine k_put 7 X hk (wg_5 G _) rfl (hz_wsX40 _) tyX4_ok nmX4 (Nat.le_of_ble_eq_true rfl) (List.mem_cons_of_mem _ (aw_r37 _ (List.mem_of_getElem? (i := 7) rfl))) rfl rfl (Nat.le_of_ble_eq_true rfl) (ws_5_7 G _ _) dX4_choose_2 (fun H locs hk => ?_)
  obtain ⟨σ1, eσ1⟩ : ∃ y : Sg, y = (put σ 5 7 (0 : Int32)) := ⟨_, rfl⟩
  rw [← eσ1] at hk
  replace hw := hw σ1 eσ1
  refine lv_iconst (v := (1 : Int32)) hx hb dX4_choose_5 (by decide) ?_
  refine lv_istore_n (lv' := [(2, .int (1 : Int32)), (0, .ref (G.1 5)), (1, .int p1)]) hx hb dX4_choose_6 rfl hl (Nat.le_of_ble_eq_true rfl) rfl (fun ls hl => ?_)
  refine lv_iconst (v := (0 : Int32)) hx hb dX4_choose_7 (by decide) ?_
  refine lv_istore_n (lv' := [(3, .int (0 : Int32)), (2, .int (1 : Int32)), (0, .ref (G.1 5)), (1, .int p1)]) hx hb dX4_choose_8 rfl hl (Nat.le_of_ble_eq_true rfl) rfl (fun ls hl => ?_)
  obtain ⟨n0, hw⟩ := hw
  exact t_X4_choose_9 X Q   n0 _ _ _ _ _ _ _ hw hk (lv_sub hl [2, 3, 1, 0] rfl)
def rm_X4_digitsNotZero : Room := { frames := 0, cells := 0, slots := 0, locals := 0 }
abbrev wz_X4_digitsNotZero : List Cond := Cond.code yX4_digitsNotZero cX4_digitsNotZero 4 (some .int) :: wsA
theorem hds_X4_digitsNotZero : yX4_digitsNotZero.cls ≠ "java/lang/invoke/MethodHandle" ∧ yX4_digitsNotZero.cls ≠ "java/lang/invoke/VarHandle" ∧ (parseMethodDescriptor yX4_digitsNotZero.desc).map (fun d => d.parameters.length) = some 1 := by decide +kernel
def wp_X4_digitsNotZero_20 (Q : Int32 → Sg → Prop) (K6 : Int32 → Int32 → Int32 → Sg → Prop) (x1 x2 x3 : Int32) (σ : Sg) : Prop := ∀ x2_3 : Int32, x2_3 = (x2 / (3 : Int32)) → (∀ x3_4 : Int32, x3_4 = (x3 + (1 : Int32)) → (K6 x1 x2_3 x3_4 σ))
set_option maxHeartbeats 4000000 in
set_option maxRecDepth 100000 in
theorem t_X4_digitsNotZero_20 {p : Program} {l : Launch} {e : Env} {s : State} {m : MethodId} {args : Array Value} {below : List Frame} {meth : Method} {c : Code} {G : Gw} (X : KC p m meth c cX4_digitsNotZero 4 s args wz_X4_digitsNotZero RX4 (some .int) G) (Q : Int32 → Sg → Prop) (K6 : Int32 → Int32 → Int32 → Sg → Prop) (hK6 : ∀ (σ : Sg) (x1 x2 x3 : Int32) (H : Heap) (locs : List Loc) (ls : Array Slot), K6 x1 x2 x3 σ → WK G s H locs σ → lv_has ls 4 [(1, .int x1), (2, .int x2), (3, .int x3)] → W p l e rm_X4_digitsNotZero s m args below meth c H locs 0 0 (ZI below args s G Q) (F0 m 6 ls [])) : ∀ (σ : Sg) (x1 x2 x3 : Int32) (H : Heap) (locs : List Loc) (ls : Array Slot), wp_X4_digitsNotZero_20 Q K6 x1 x2 x3 σ → WK G s H locs σ → lv_has ls 4 [(1, .int x1), (2, .int x2), (3, .int x3)] → W p l e rm_X4_digitsNotZero s m args below meth c H locs 0 0 (ZI below args s G Q) (F0 m 20 ls []) := by
  have hx := X.1.1
  have hb := X.1.2.1
  intro σ x1 x2 x3 H locs ls hw hk hl
  unfold wp_X4_digitsNotZero_20 at hw
  refine lv_iload_n hx hb dX4_digitsNotZero_20 rfl (lv_at hl 1 rfl) ?_
  refine lv_iconst (v := (3 : Int32)) hx hb dX4_digitsNotZero_21 (by decide) ?_
  refine lv_idiv hx hb dX4_digitsNotZero_22 (by decide) ?_
  refine lv_topi (fun x2_3 ex2_3 => ?_)
  replace hw := hw x2_3 ex2_3
  refine lv_istore_n (lv' := [(2, .int x2_3), (1, .int x1), (3, .int x3)]) hx hb dX4_digitsNotZero_23 rfl hl (Nat.le_of_ble_eq_true rfl) rfl (fun ls hl => ?_)
  obtain ⟨x3_4, ex3_4⟩ : ∃ y : Int32, y = (x3 + (1 : Int32)) := ⟨_, rfl⟩
  replace hw := hw x3_4 ex3_4
  refine lv_iinc (v := x3_4) (lv' := [(3, .int x3_4), (2, .int x2_3), (1, .int x1)]) hx hb dX4_digitsNotZero_24 hl (k := 2) rfl (by rw [ex3_4]; rfl) (Nat.le_of_ble_eq_true rfl) rfl (fun ls hl => ?_)
  refine lv_goto (tgt := 6) hx hb dX4_digitsNotZero_27 (by decide) ?_
  exact hK6 _ _ _ _ _ _ _ hw hk (lv_sub hl [2, 1, 0] rfl)
def wp_X4_digitsNotZero_6 (Q : Int32 → Sg → Prop)  : Nat → Int32 → Int32 → Int32 → Sg → Prop
  | 0, _, _, _, _ => False
  | n + 1, x1, x2, x3, σ => ((4 : Int32) ≤ x3 → (Q x1 σ)) ∧ (¬ ((4 : Int32) ≤ x3) → (((x2 - x2 / (3 : Int32) * (3 : Int32)) = 0 → (wp_X4_digitsNotZero_20 Q (fun z1 z2 z3 σ => wp_X4_digitsNotZero_6 Q  n z1 z2 z3 σ) x1 x2 x3 σ)) ∧ (¬ ((x2 - x2 / (3 : Int32) * (3 : Int32)) = 0) → (∀ x1_5 : Int32, x1_5 = (x1 + (1 : Int32)) → (wp_X4_digitsNotZero_20 Q (fun z1 z2 z3 σ => wp_X4_digitsNotZero_6 Q  n z1 z2 z3 σ) x1_5 x2 x3 σ)))))
set_option maxHeartbeats 4000000 in
set_option maxRecDepth 100000 in
theorem t_X4_digitsNotZero_6 {p : Program} {l : Launch} {e : Env} {s : State} {m : MethodId} {args : Array Value} {below : List Frame} {meth : Method} {c : Code} {G : Gw} (X : KC p m meth c cX4_digitsNotZero 4 s args wz_X4_digitsNotZero RX4 (some .int) G) (Q : Int32 → Sg → Prop)  : ∀ (n : Nat) (σ : Sg) (x1 x2 x3 : Int32) (H : Heap) (locs : List Loc) (ls : Array Slot), wp_X4_digitsNotZero_6 Q  n x1 x2 x3 σ → WK G s H locs σ → lv_has ls 4 [(1, .int x1), (2, .int x2), (3, .int x3)] → W p l e rm_X4_digitsNotZero s m args below meth c H locs 0 0 (ZI below args s G Q) (F0 m 6 ls []) := by
  have hx := X.1.1
  have hb := X.1.2.1
  intro n
  induction n with
  | zero =>
    intro σ x1 x2 x3 H locs ls hw hk hl
    exact False.elim hw
  | succ n ih =>
    intro σ x1 x2 x3 H locs ls hw hk hl
    rw [wp_X4_digitsNotZero_6] at hw
    refine lv_iload_n hx hb dX4_digitsNotZero_6 rfl (lv_at hl 2 rfl) ?_
    refine lv_iconst (v := (4 : Int32)) hx hb dX4_digitsNotZero_7 (by decide) ?_
    refine lv_icmp_ge (tgt := 30) hx hb dX4_digitsNotZero_8 (by decide) (fun c1 => ?_) (fun c1 => ?_)
    · replace hw := hw.1 c1
      refine lv_iload_n hx hb dX4_digitsNotZero_30 rfl (lv_at hl 0 rfl) ?_
      exact k_iret X hk hw dX4_digitsNotZero_31
    · replace hw := hw.2 c1
      refine lv_iload_n hx hb dX4_digitsNotZero_11 rfl (lv_at hl 1 rfl) ?_
      refine lv_iconst (v := (3 : Int32)) hx hb dX4_digitsNotZero_12 (by decide) ?_
      refine lv_irem hx hb dX4_digitsNotZero_13 (by decide) ?_
      refine lv_if_eq (tgt := 20) hx hb dX4_digitsNotZero_14 (by decide) (fun c2 => ?_) (fun c2 => ?_)
      · replace hw := hw.1 c2
        exact t_X4_digitsNotZero_20 X Q _ ih _ _ _ _ _ _ _ hw hk hl
      · replace hw := hw.2 c2
        obtain ⟨x1_5, ex1_5⟩ : ∃ y : Int32, y = (x1 + (1 : Int32)) := ⟨_, rfl⟩
        replace hw := hw x1_5 ex1_5
        refine lv_iinc (v := x1_5) (lv' := [(1, .int x1_5), (2, .int x2), (3, .int x3)]) hx hb dX4_digitsNotZero_17 hl (k := 0) rfl (by rw [ex1_5]; rfl) (Nat.le_of_ble_eq_true rfl) rfl (fun ls hl => ?_)
        exact t_X4_digitsNotZero_20 X Q _ ih _ _ _ _ _ _ _ hw hk hl
def wp_X4_digitsNotZero (σ : Sg) (p0 : Int32) (Q : Int32 → Sg → Prop) : Prop := ∃ n0, wp_X4_digitsNotZero_6 Q  n0 (0 : Int32) p0 (0 : Int32) σ
set_option maxHeartbeats 4000000 in
set_option maxRecDepth 100000 in
theorem c_X4_digitsNotZero (l : Launch) (G : Gw) (σ : Sg) (p0 : Int32) (Q : Int32 → Sg → Prop) (hw : wp_X4_digitsNotZero σ p0 Q) : MetI l yX4_digitsNotZero wz_X4_digitsNotZero rm_X4_digitsNotZero G σ [.int p0] Q := by
  refine MetI.of cX4_digitsNotZero 4 (some .int) (by decide) rfl (Nat.le_of_ble_eq_true rfl) ?_
  intro p e s m below meth c X hk ls hl
  have X : KC p m meth c cX4_digitsNotZero 4 s _ wz_X4_digitsNotZero RX4 (some .int) G := X
  have hl : lv_has ls 4 [(0, .int p0)] := hl
  unfold wp_X4_digitsNotZero at hw
  have hx := X.1.1
  have hb := X.1.2.1
  refine lv_iconst (v := (0 : Int32)) hx hb dX4_digitsNotZero_0 (by decide) ?_
  refine lv_istore_n (lv' := [(1, .int (0 : Int32)), (0, .int p0)]) hx hb dX4_digitsNotZero_1 rfl hl (Nat.le_of_ble_eq_true rfl) rfl (fun ls hl => ?_)
  refine lv_iload_n hx hb dX4_digitsNotZero_2 rfl (lv_at hl 1 rfl) ?_
  refine lv_istore_n (lv' := [(2, .int p0), (1, .int (0 : Int32)), (0, .int p0)]) hx hb dX4_digitsNotZero_3 rfl hl (Nat.le_of_ble_eq_true rfl) rfl (fun ls hl => ?_)
  refine lv_iconst (v := (0 : Int32)) hx hb dX4_digitsNotZero_4 (by decide) ?_
  refine lv_istore_n (lv' := [(3, .int (0 : Int32)), (2, .int p0), (1, .int (0 : Int32)), (0, .int p0)]) hx hb dX4_digitsNotZero_5 rfl hl (Nat.le_of_ble_eq_true rfl) rfl (fun ls hl => ?_)
  obtain ⟨n0, hw⟩ := hw
  exact t_X4_digitsNotZero_6 X Q   n0 _ _ _ _ _ _ _ hw hk (lv_sub hl [2, 1, 0] rfl)
def rm_X4_turnAll : Room := { frames := 1, cells := 0, slots := 0, locals := 22 }
abbrev wz_X4_turnAll : List Cond := Cond.code yX4_turnAll cX4_turnAll 4 (some .int) :: wsA
theorem hd_X4_turnAll : yX4_turnAll.cls = RX4 ∧ yX4_turnAll.cls ≠ "java/lang/invoke/MethodHandle" ∧ yX4_turnAll.cls ≠ "java/lang/invoke/VarHandle" ∧ (parseMethodDescriptor yX4_turnAll.desc).map (fun d => d.parameters.length) = some 2 := by decide +kernel
def wp_X4_turnAll_39 (Q : Int32 → Sg → Prop)  (x1 y0 : Int32) (σ : Sg) : Prop := wp_X3_shiftLanes σ x1 y0 (fun σ3 => wp_X0_crossingMore σ3 x1 y0 (fun r6 σ5 => Q r6 σ5))
set_option maxHeartbeats 4000000 in
set_option maxRecDepth 100000 in
theorem t_X4_turnAll_39 {p : Program} {l : Launch} {e : Env} {s : State} {m : MethodId} {args : Array Value} {below : List Frame} {meth : Method} {c : Code} {G : Gw} (X : KC p m meth c cX4_turnAll 4 s args wz_X4_turnAll RX4 (some .int) G) (Q : Int32 → Sg → Prop)  : ∀ (σ : Sg) (x1 y0 : Int32) (H : Heap) (locs : List Loc) (ls : Array Slot), wp_X4_turnAll_39 Q  x1 y0 σ → WK G s H locs σ → lv_has ls 4 [(0, .ref (G.1 5)), (1, .int x1)] → W p l e rm_X4_turnAll s m args below meth c H locs 0 0 (ZI below args s G Q) (F0 m 39 ls [.int y0]) := by
  have hx := X.1.1
  have hb := X.1.2.1
  intro σ x1 y0 H locs ls hw hk hl
  unfold wp_X4_turnAll_39 at hw
  refine lv_istore_n (lv' := [(3, .int y0), (0, .ref (G.1 5)), (1, .int x1)]) hx hb dX4_turnAll_39 rfl hl (Nat.le_of_ble_eq_true rfl) rfl (fun ls hl => ?_)
  refine lv_aload_n hx hb dX4_turnAll_40 rfl (lv_at hl 1 rfl) ?_
  refine k_get 4 X hk (wg_5 G _) rfl (hz_wsX40 _) (Nat.le_of_ble_eq_true rfl) (List.mem_cons_of_mem _ (aw_r4 _ (List.mem_of_getElem? (i := 10) rfl))) rfl dX4_turnAll_41 ?_
  refine lv_iload_n hx hb dX4_turnAll_44 rfl (lv_at hl 2 rfl) ?_
  refine lv_iload_n hx hb dX4_turnAll_45 rfl (lv_at hl 0 rfl) ?_
  refine k_callVv (rest := []) X hk (c_X3_shiftLanes l G _ _ _ _ hw) (cwV 2 X.1.2.2.2.2 (gzV (aw_r36 _ (List.mem_of_getElem? (i := 4) rfl)) (aw_r13 _ (List.mem_of_getElem? (i := 23) rfl)) (aw_r14 _ (List.mem_of_getElem? (i := 0) rfl)) (aw_r1 _ (List.mem_of_getElem? (i := 15) rfl)) (aw_r14 _ (List.mem_of_getElem? (i := 1) rfl))) rfl rfl rfl hd_X3_shiftLanes ⟨(Nat.le_of_ble_eq_true rfl), (Nat.le_of_ble_eq_true rfl)⟩) (wg_1 G _) rfl rfl hl.1 rfl (Nat.le_of_ble_eq_true rfl) dX4_turnAll_46 ⟨Nat.zero_le _, Nat.zero_le _⟩ (fun σ3 H locs hw hk => ?_)
  refine lv_aload_n hx hb dX4_turnAll_49 rfl (lv_at hl 1 rfl) ?_
  refine k_get 5 X hk (wg_5 G _) rfl (hz_wsX40 _) (Nat.le_of_ble_eq_true rfl) (List.mem_cons_of_mem _ (aw_r4 _ (List.mem_of_getElem? (i := 11) rfl))) rfl dX4_turnAll_50 ?_
  refine lv_iload_n hx hb dX4_turnAll_53 rfl (lv_at hl 2 rfl) ?_
  refine lv_iload_n hx hb dX4_turnAll_54 rfl (lv_at hl 0 rfl) ?_
  refine k_callVi (rest := []) X hk (c_X0_crossingMore l G _ _ _ _ hw) (cwV 2 X.1.2.2.2.2 (gzV (aw_r36 _ (List.mem_of_getElem? (i := 0) rfl)) (aw_r36 _ (List.mem_of_getElem? (i := 1) rfl)) (aw_r36 _ (List.mem_of_getElem? (i := 2) rfl)) (aw_r2 _ (List.mem_of_getElem? (i := 3) rfl)) (aw_r36 _ (List.mem_of_getElem? (i := 3) rfl))) rfl rfl rfl hd_X0_crossingMore ⟨(Nat.le_of_ble_eq_true rfl), (Nat.le_of_ble_eq_true rfl)⟩) (wg_4 G _) rfl rfl hl.1 rfl (Nat.le_of_ble_eq_true rfl) dX4_turnAll_55 ⟨Nat.zero_le _, Nat.zero_le _⟩ (fun r6 σ5 H locs hw hk => ?_)
  exact k_iret X hk hw dX4_turnAll_58
def wp_X4_turnAll (σ : Sg) (p1 p2 : Int32) (Q : Int32 → Sg → Prop) : Prop := (p2 = 0 → (Q (0 : Int32) σ)) ∧ (¬ (p2 = 0) → ((p2 = (1 : Int32) → (vp_in (((2 : Int32) * p1) + (1 : Int32)) 24 ∧ (wp_X4_turnAll_39 Q  p1 (σ 8 ((((2 : Int32) * p1) + (1 : Int32))).toNatClampNeg) σ))) ∧ (¬ (p2 = (1 : Int32)) → (vp_in ((2 : Int32) * p1) 24 ∧ (wp_X4_turnAll_39 Q  p1 (-(σ 8 (((2 : Int32) * p1)).toNatClampNeg)) σ)))))
set_option maxHeartbeats 4000000 in
set_option maxRecDepth 100000 in
theorem c_X4_turnAll (l : Launch) (G : Gw) (σ : Sg) (p1 p2 : Int32) (Q : Int32 → Sg → Prop) (hw : wp_X4_turnAll σ p1 p2 Q) : MetI l yX4_turnAll wz_X4_turnAll rm_X4_turnAll G σ [.ref (G.1 5), .int p1, .int p2] Q := by
  refine MetI.of cX4_turnAll 4 (some .int) (by decide) rfl (Nat.le_of_ble_eq_true rfl) ?_
  intro p e s m below meth c X hk ls hl
  have X : KC p m meth c cX4_turnAll 4 s _ wz_X4_turnAll RX4 (some .int) G := X
  have hl : lv_has ls 4 [(0, .ref (G.1 5)), (1, .int p1), (2, .int p2)] := hl
  unfold wp_X4_turnAll at hw
  have hx := X.1.1
  have hb := X.1.2.1
  refine lv_iload_n hx hb dX4_turnAll_0 rfl (lv_at hl 2 rfl) ?_
  refine lv_if_ne (tgt := 6) hx hb dX4_turnAll_1 (by decide) (fun c1 => ?_) (fun c1 => ?_)
  · replace hw := hw.2 c1
    refine lv_iload_n hx hb dX4_turnAll_6 rfl (lv_at hl 2 rfl) ?_
    refine lv_iconst (v := (1 : Int32)) hx hb dX4_turnAll_7 (by decide) ?_
    refine lv_icmp_ne (tgt := 27) hx hb dX4_turnAll_8 (by decide) (fun c2 => ?_) (fun c2 => ?_)
    · replace hw := hw.2 c2
      refine lv_aload_n hx hb dX4_turnAll_27 rfl (lv_at hl 0 rfl) ?_
      refine k_get 4 X hk (wg_5 G _) rfl (hz_wsX40 _) (Nat.le_of_ble_eq_true rfl) (List.mem_cons_of_mem _ (aw_r4 _ (List.mem_of_getElem? (i := 10) rfl))) rfl dX4_turnAll_28 ?_
      refine k_get 4 X hk (wg_1 G _) rfl (hz_wsX30 _) (Nat.le_of_ble_eq_true rfl) (List.mem_cons_of_mem _ (aw_r37 _ (List.mem_of_getElem? (i := 19) rfl))) rfl dX4_turnAll_31 ?_
      refine lv_iconst (v := (2 : Int32)) hx hb dX4_turnAll_34 (by decide) ?_
      refine lv_iload_n hx hb dX4_turnAll_35 rfl (lv_at hl 1 rfl) ?_
      refine lv_imul hx hb dX4_turnAll_36 ?_
      refine k_iald X hk (wg_8 G _) hw.1 dX4_turnAll_37 ?_
      replace hw := hw.2
      refine lv_ineg hx hb dX4_turnAll_38 ?_
      exact t_X4_turnAll_39 X Q   _ _ _ _ _ _ hw hk (lv_sub hl [0, 1] rfl)
    · replace hw := hw.1 c2
      refine lv_aload_n hx hb dX4_turnAll_11 rfl (lv_at hl 0 rfl) ?_
      refine k_get 4 X hk (wg_5 G _) rfl (hz_wsX40 _) (Nat.le_of_ble_eq_true rfl) (List.mem_cons_of_mem _ (aw_r4 _ (List.mem_of_getElem? (i := 10) rfl))) rfl dX4_turnAll_12 ?_
      refine k_get 4 X hk (wg_1 G _) rfl (hz_wsX30 _) (Nat.le_of_ble_eq_true rfl) (List.mem_cons_of_mem _ (aw_r37 _ (List.mem_of_getElem? (i := 19) rfl))) rfl dX4_turnAll_15 ?_
      refine lv_iconst (v := (2 : Int32)) hx hb dX4_turnAll_18 (by decide) ?_
      refine lv_iload_n hx hb dX4_turnAll_19 rfl (lv_at hl 1 rfl) ?_
      refine lv_imul hx hb dX4_turnAll_20 ?_
      refine lv_iconst (v := (1 : Int32)) hx hb dX4_turnAll_21 (by decide) ?_
      refine lv_iadd hx hb dX4_turnAll_22 ?_
      refine k_iald X hk (wg_8 G _) hw.1 dX4_turnAll_23 ?_
      replace hw := hw.2
      refine lv_goto (tgt := 39) hx hb dX4_turnAll_24 (by decide) ?_
      exact t_X4_turnAll_39 X Q   _ _ _ _ _ _ hw hk (lv_sub hl [0, 1] rfl)
  · replace hw := hw.1 c1
    refine lv_iconst (v := (0 : Int32)) hx hb dX4_turnAll_4 (by decide) ?_
    exact k_iret X hk hw dX4_turnAll_5
def rm_X4_tryRow : Room := { frames := 5, cells := 0, slots := 0, locals := 116 }
abbrev wz_X4_tryRow : List Cond := Cond.code yX4_tryRow cX4_tryRow 5 (some .boolean) :: wsA
theorem hd_X4_tryRow : yX4_tryRow.cls = RX4 ∧ yX4_tryRow.cls ≠ "java/lang/invoke/MethodHandle" ∧ yX4_tryRow.cls ≠ "java/lang/invoke/VarHandle" ∧ (parseMethodDescriptor yX4_tryRow.desc).map (fun d => d.parameters.length) = some 1 := by decide +kernel
def wp_X4_tryRow_106 (Q : Int32 → Sg → Prop)  (x1 x4 : Int32) (σ : Sg) : Prop := k_cpyok (0 : Int32) (0 : Int32) (24 : Int32) 24 24 ∧ (∀ σ6 : Sg, σ6 = (setA σ 8 (va_cpy (σ 29) (σ 8) ((0 : Int32)).toNatClampNeg ((0 : Int32)).toNatClampNeg ((24 : Int32)).toNatClampNeg)) → ((x4 = (σ6 5 0) → (bz (0 : Int32) ∧ Q (0 : Int32) σ6)) ∧ (¬ (x4 = (σ6 5 0)) → (∀ σ8 : Sg, σ8 = (put σ6 5 0 x4) → (∀ σ9 : Sg, σ9 = (put σ8 5 3 x1) → (bz (1 : Int32) ∧ Q (1 : Int32) σ9))))))
set_option maxHeartbeats 4000000 in
set_option maxRecDepth 100000 in
theorem t_X4_tryRow_106 {p : Program} {l : Launch} {e : Env} {s : State} {m : MethodId} {args : Array Value} {below : List Frame} {meth : Method} {c : Code} {G : Gw} (X : KC p m meth c cX4_tryRow 5 s args wz_X4_tryRow RX4 (some .boolean) G) (Q : Int32 → Sg → Prop)  : ∀ (σ : Sg) (x1 x4 : Int32) (H : Heap) (locs : List Loc) (ls : Array Slot), wp_X4_tryRow_106 Q  x1 x4 σ → WK G s H locs σ → lv_has ls 5 [(0, .ref (G.1 5)), (1, .int x1), (4, .int x4)] → W p l e rm_X4_tryRow s m args below meth c H locs 0 0 (ZI below args s G Q) (F0 m 106 ls []) := by
  have hx := X.1.1
  have hb := X.1.2.1
  intro σ x1 x4 H locs ls hw hk hl
  unfold wp_X4_tryRow_106 at hw
  refine lv_aload_n hx hb dX4_tryRow_106 rfl (lv_at hl 0 rfl) ?_
  refine k_get 9 X hk (wg_5 G _) rfl (hz_wsX40 _) (Nat.le_of_ble_eq_true rfl) (List.mem_cons_of_mem _ (aw_r4 _ (List.mem_of_getElem? (i := 9) rfl))) rfl dX4_tryRow_107 ?_
  refine lv_iconst (v := (0 : Int32)) hx hb dX4_tryRow_110 (by decide) ?_
  refine lv_aload_n hx hb dX4_tryRow_111 rfl (lv_at hl 0 rfl) ?_
  refine k_get 4 X hk (wg_5 G _) rfl (hz_wsX40 _) (Nat.le_of_ble_eq_true rfl) (List.mem_cons_of_mem _ (aw_r4 _ (List.mem_of_getElem? (i := 10) rfl))) rfl dX4_tryRow_112 ?_
  refine k_get 4 X hk (wg_1 G _) rfl (hz_wsX30 _) (Nat.le_of_ble_eq_true rfl) (List.mem_cons_of_mem _ (aw_r37 _ (List.mem_of_getElem? (i := 19) rfl))) rfl dX4_tryRow_115 ?_
  refine lv_iconst (v := (0 : Int32)) hx hb dX4_tryRow_118 (by decide) ?_
  refine lv_bipush (v := (24 : Int32)) hx hb dX4_tryRow_119 (by decide) ?_
  refine k_copy X hk hl.1 (List.mem_cons_of_mem _ (aw_r37 _ (List.mem_of_getElem? (i := 20) rfl))) (List.mem_cons_of_mem _ (aw_r7 _ (List.mem_of_getElem? (i := 9) rfl))) (List.mem_cons_of_mem _ (aw_r7 _ (List.mem_of_getElem? (i := 10) rfl))) (List.mem_cons_of_mem _ (aw_r7 _ (List.mem_of_getElem? (i := 11) rfl))) (wg_29 G _) (wg_8 G _) (ws_8 G _) hw.1 (Nat.le_of_ble_eq_true rfl) (Nat.le_of_ble_eq_true rfl) dX4_tryRow_121 (fun H locs hk => ?_)
  replace hw := hw.2
  obtain ⟨σ6, eσ6⟩ : ∃ y : Sg, y = (setA σ 8 (va_cpy (σ 29) (σ 8) ((0 : Int32)).toNatClampNeg ((0 : Int32)).toNatClampNeg ((24 : Int32)).toNatClampNeg)) := ⟨_, rfl⟩
  rw [← eσ6] at hk
  replace hw := hw σ6 eσ6
  refine lv_iload hx hb dX4_tryRow_124 (lv_at hl 2 rfl) ?_
  refine lv_aload_n hx hb dX4_tryRow_126 rfl (lv_at hl 0 rfl) ?_
  refine k_get 0 X hk (wg_5 G _) rfl (hz_wsX40 _) (Nat.le_of_ble_eq_true rfl) (List.mem_cons_of_mem _ (aw_r35 _ (List.mem_of_getElem? (i := 0) rfl))) rfl dX4_tryRow_127 ?_
  refine lv_icmp_ne (tgt := 135) hx hb dX4_tryRow_130 (by decide) (fun c7 => ?_) (fun c7 => ?_)
  · replace hw := hw.2 c7
    refine lv_aload_n hx hb dX4_tryRow_135 rfl (lv_at hl 0 rfl) ?_
    refine lv_iload hx hb dX4_tryRow_136 (lv_at hl 2 rfl) ?_
    refine k_put 0 X hk (wg_5 G _) rfl (hz_wsX40 _) tyX4_ok nmX4 (Nat.le_of_ble_eq_true rfl) (List.mem_cons_of_mem _ (aw_r35 _ (List.mem_of_getElem? (i := 0) rfl))) rfl rfl (Nat.le_of_ble_eq_true rfl) (ws_5_0 G _ _) dX4_tryRow_138 (fun H locs hk => ?_)
    obtain ⟨σ8, eσ8⟩ : ∃ y : Sg, y = (put σ6 5 0 x4) := ⟨_, rfl⟩
    rw [← eσ8] at hk
    replace hw := hw σ8 eσ8
    refine lv_aload_n hx hb dX4_tryRow_141 rfl (lv_at hl 0 rfl) ?_
    refine lv_iload_n hx hb dX4_tryRow_142 rfl (lv_at hl 1 rfl) ?_
    refine k_put 3 X hk (wg_5 G _) rfl (hz_wsX40 _) tyX4_ok nmX4 (Nat.le_of_ble_eq_true rfl) (List.mem_cons_of_mem _ (aw_r37 _ (List.mem_of_getElem? (i := 6) rfl))) rfl rfl (Nat.le_of_ble_eq_true rfl) (ws_5_3 G _ _) dX4_tryRow_143 (fun H locs hk => ?_)
    obtain ⟨σ9, eσ9⟩ : ∃ y : Sg, y = (put σ8 5 3 x1) := ⟨_, rfl⟩
    rw [← eσ9] at hk
    replace hw := hw σ9 eσ9
    refine lv_iconst (v := (1 : Int32)) hx hb dX4_tryRow_146 (by decide) ?_
    exact k_zret X hk hw dX4_tryRow_147
  · replace hw := hw.1 c7
    refine lv_iconst (v := (0 : Int32)) hx hb dX4_tryRow_133 (by decide) ?_
    exact k_zret X hk hw dX4_tryRow_134
def wp_X4_tryRow_30 (Q : Int32 → Sg → Prop)  : Nat → Int32 → Int32 → Int32 → Int32 → Sg → Prop
  | 0, _, _, _, _, _ => False
  | n + 1, x1, x2, x3, x4, σ => (x4 < 0 → (∀ x4_4 : Int32, x4_4 = (σ 5 0) → ((x2 < (σ 5 6) → (wp_X4_tryRow_106 Q  x1 x4_4 σ)) ∧ (¬ (x2 < (σ 5 6)) → (wp_X0_allSafeBy σ ((σ 5 0) - (1 : Int32)) (fun r11 σ10 => (r11 = 0 → (wp_X4_tryRow_106 Q  x1 x4_4 σ10)) ∧ (¬ (r11 = 0) → (wp_X0_soonestWithin σ10 (0 : Int32) (σ10 5 0) (fun r14 σ13 => wp_X4_tryRow_106 Q  x1 r14 σ13))))))))) ∧ (¬ (x4 < 0) → (vp_in x4 4 ∧ (wp_X4_turnAll σ (σ 28 (x4).toNatClampNeg) (x3 - x3 / (3 : Int32) * (3 : Int32)) (fun r16 σ15 => ∀ x2_17 : Int32, x2_17 = (x2 + r16) → (∀ x3_18 : Int32, x3_18 = (x3 / (3 : Int32)) → (∀ x4_19 : Int32, x4_19 = (x4 + (-1 : Int32)) → (wp_X4_tryRow_30 Q  n x1 x2_17 x3_18 x4_19 σ15)))))))
set_option maxHeartbeats 4000000 in
set_option maxRecDepth 100000 in
theorem t_X4_tryRow_30 {p : Program} {l : Launch} {e : Env} {s : State} {m : MethodId} {args : Array Value} {below : List Frame} {meth : Method} {c : Code} {G : Gw} (X : KC p m meth c cX4_tryRow 5 s args wz_X4_tryRow RX4 (some .boolean) G) (Q : Int32 → Sg → Prop)  : ∀ (n : Nat) (σ : Sg) (x1 x2 x3 x4 : Int32) (H : Heap) (locs : List Loc) (ls : Array Slot), wp_X4_tryRow_30 Q  n x1 x2 x3 x4 σ → WK G s H locs σ → lv_has ls 5 [(0, .ref (G.1 5)), (1, .int x1), (2, .int x2), (3, .int x3), (4, .int x4)] → W p l e rm_X4_tryRow s m args below meth c H locs 0 0 (ZI below args s G Q) (F0 m 30 ls []) := by
  have hx := X.1.1
  have hb := X.1.2.1
  intro n
  induction n with
  | zero =>
    intro σ x1 x2 x3 x4 H locs ls hw hk hl
    exact False.elim hw
  | succ n ih =>
    intro σ x1 x2 x3 x4 H locs ls hw hk hl
    rw [wp_X4_tryRow_30] at hw
    refine lv_iload hx hb dX4_tryRow_30 (lv_at hl 4 rfl) ?_
    refine lv_if_lt (tgt := 62) hx hb dX4_tryRow_32 (by decide) (fun c3 => ?_) (fun c3 => ?_)
    · replace hw := hw.1 c3
      refine lv_aload_n hx hb dX4_tryRow_62 rfl (lv_at hl 0 rfl) ?_
      refine k_get 0 X hk (wg_5 G _) rfl (hz_wsX40 _) (Nat.le_of_ble_eq_true rfl) (List.mem_cons_of_mem _ (aw_r35 _ (List.mem_of_getElem? (i := 0) rfl))) rfl dX4_tryRow_63 ?_
      refine lv_topi (fun x4_4 ex4_4 => ?_)
      replace hw := hw x4_4 ex4_4
      refine lv_istore (lv' := [(4, .int x4_4), (0, .ref (G.1 5)), (1, .int x1), (2, .int x2), (3, .int x3)]) hx hb dX4_tryRow_66 hl (Nat.le_of_ble_eq_true rfl) rfl (fun ls hl => ?_)
      refine lv_iload_n hx hb dX4_tryRow_68 rfl (lv_at hl 3 rfl) ?_
      refine lv_aload_n hx hb dX4_tryRow_69 rfl (lv_at hl 1 rfl) ?_
      refine k_get 6 X hk (wg_5 G _) rfl (hz_wsX40 _) (Nat.le_of_ble_eq_true rfl) (List.mem_cons_of_mem _ (aw_r35 _ (List.mem_of_getElem? (i := 7) rfl))) rfl dX4_tryRow_70 ?_
      refine lv_icmp_lt (tgt := 106) hx hb dX4_tryRow_73 (by decide) (fun c5 => ?_) (fun c5 => ?_)
      · replace hw := hw.1 c5
        exact t_X4_tryRow_106 X Q   _ _ _ _ _ _ hw hk (lv_sub hl [1, 2, 0] rfl)
      · replace hw := hw.2 c5
        refine lv_aload_n hx hb dX4_tryRow_76 rfl (lv_at hl 1 rfl) ?_
        refine k_get 5 X hk (wg_5 G _) rfl (hz_wsX40 _) (Nat.le_of_ble_eq_true rfl) (List.mem_cons_of_mem _ (aw_r4 _ (List.mem_of_getElem? (i := 11) rfl))) rfl dX4_tryRow_77 ?_
        refine lv_aload_n hx hb dX4_tryRow_80 rfl (lv_at hl 1 rfl) ?_
        refine k_get 0 X hk (wg_5 G _) rfl (hz_wsX40 _) (Nat.le_of_ble_eq_true rfl) (List.mem_cons_of_mem _ (aw_r35 _ (List.mem_of_getElem? (i := 0) rfl))) rfl dX4_tryRow_81 ?_
        refine lv_iconst (v := (1 : Int32)) hx hb dX4_tryRow_84 (by decide) ?_
        refine lv_isub hx hb dX4_tryRow_85 ?_
        refine k_callVi (rest := []) X hk (c_X0_allSafeBy l G _ _ _ hw) (cwV 1 X.1.2.2.2.2 (gzV (aw_r36 _ (List.mem_of_getElem? (i := 5) rfl)) (aw_r36 _ (List.mem_of_getElem? (i := 6) rfl)) (aw_r36 _ (List.mem_of_getElem? (i := 7) rfl)) (aw_r2 _ (List.mem_of_getElem? (i := 3) rfl)) (aw_r36 _ (List.mem_of_getElem? (i := 8) rfl))) rfl rfl rfl hd_X0_allSafeBy ⟨(Nat.le_of_ble_eq_true rfl), (Nat.le_of_ble_eq_true rfl)⟩) (wg_4 G _) rfl rfl hl.1 rfl (Nat.le_of_ble_eq_true rfl) dX4_tryRow_86 ⟨Nat.zero_le _, Nat.zero_le _⟩ (fun r11 σ10 H locs hw hk => ?_)
        refine lv_if_eq (tgt := 106) hx hb dX4_tryRow_89 (by decide) (fun c12 => ?_) (fun c12 => ?_)
        · replace hw := hw.1 c12
          exact t_X4_tryRow_106 X Q   _ _ _ _ _ _ hw hk (lv_sub hl [1, 2, 0] rfl)
        · replace hw := hw.2 c12
          refine lv_aload_n hx hb dX4_tryRow_92 rfl (lv_at hl 1 rfl) ?_
          refine k_get 5 X hk (wg_5 G _) rfl (hz_wsX40 _) (Nat.le_of_ble_eq_true rfl) (List.mem_cons_of_mem _ (aw_r4 _ (List.mem_of_getElem? (i := 11) rfl))) rfl dX4_tryRow_93 ?_
          refine lv_iconst (v := (0 : Int32)) hx hb dX4_tryRow_96 (by decide) ?_
          refine lv_aload_n hx hb dX4_tryRow_97 rfl (lv_at hl 1 rfl) ?_
          refine k_get 0 X hk (wg_5 G _) rfl (hz_wsX40 _) (Nat.le_of_ble_eq_true rfl) (List.mem_cons_of_mem _ (aw_r35 _ (List.mem_of_getElem? (i := 0) rfl))) rfl dX4_tryRow_98 ?_
          refine k_callVi (rest := []) X hk (c_X0_soonestWithin l G _ _ _ _ hw) (cwV 2 X.1.2.2.2.2 (gzV (aw_r36 _ (List.mem_of_getElem? (i := 9) rfl)) (aw_r30 _ (List.mem_of_getElem? (i := 4) rfl)) (aw_r30 _ (List.mem_of_getElem? (i := 5) rfl)) (aw_r2 _ (List.mem_of_getElem? (i := 3) rfl)) (aw_r30 _ (List.mem_of_getElem? (i := 6) rfl))) rfl rfl rfl hd_X0_soonestWithin ⟨(Nat.le_of_ble_eq_true rfl), (Nat.le_of_ble_eq_true rfl)⟩) (wg_4 G _) rfl rfl hl.1 rfl (Nat.le_of_ble_eq_true rfl) dX4_tryRow_101 ⟨Nat.zero_le _, Nat.zero_le _⟩ (fun r14 σ13 H locs hw hk => ?_)
          refine lv_istore (lv' := [(4, .int r14), (0, .ref (G.1 5)), (1, .int x1), (2, .int x2), (3, .int x3)]) hx hb dX4_tryRow_104 hl (Nat.le_of_ble_eq_true rfl) rfl (fun ls hl => ?_)
          exact t_X4_tryRow_106 X Q   _ _ _ _ _ _ hw hk (lv_sub hl [1, 2, 0] rfl)
    · replace hw := hw.2 c3
      refine lv_iload_n hx hb dX4_tryRow_35 rfl (lv_at hl 2 rfl) ?_
      refine lv_aload_n hx hb dX4_tryRow_36 rfl (lv_at hl 0 rfl) ?_
      refine lv_aload_n hx hb dX4_tryRow_37 rfl (lv_at hl 0 rfl) ?_
      refine k_get 8 X hk (wg_5 G _) rfl (hz_wsX40 _) (Nat.le_of_ble_eq_true rfl) (List.mem_cons_of_mem _ (aw_r4 _ (List.mem_of_getElem? (i := 8) rfl))) rfl dX4_tryRow_38 ?_
      refine lv_iload hx hb dX4_tryRow_41 (lv_at hl 4 rfl) ?_
      refine k_iald X hk (wg_28 G _) hw.1 dX4_tryRow_43 ?_
      replace hw := hw.2
      refine lv_iload_n hx hb dX4_tryRow_44 rfl (lv_at hl 3 rfl) ?_
      refine lv_iconst (v := (3 : Int32)) hx hb dX4_tryRow_45 (by decide) ?_
      refine lv_irem hx hb dX4_tryRow_46 (by decide) ?_
      refine k_callVi (rest := [.int x2]) X hk (c_X4_turnAll l G _ _ _ _ hw) (cwV 2 X.1.2.2.2.2 (gzV (aw_r37 _ (List.mem_of_getElem? (i := 21) rfl)) (aw_r37 _ (List.mem_of_getElem? (i := 22) rfl)) (aw_r37 _ (List.mem_of_getElem? (i := 23) rfl)) (aw_r2 _ (List.mem_of_getElem? (i := 7) rfl)) (aw_r38 _ (List.mem_of_getElem? (i := 0) rfl))) rfl rfl rfl hd_X4_turnAll ⟨(Nat.le_of_ble_eq_true rfl), (Nat.le_of_ble_eq_true rfl)⟩) (wg_5 G _) rfl rfl hl.1 rfl (Nat.le_of_ble_eq_true rfl) dX4_tryRow_47 ⟨Nat.zero_le _, Nat.zero_le _⟩ (fun r16 σ15 H locs hw hk => ?_)
      refine lv_iadd hx hb dX4_tryRow_50 ?_
      refine lv_topi (fun x2_17 ex2_17 => ?_)
      replace hw := hw x2_17 ex2_17
      refine lv_istore_n (lv' := [(2, .int x2_17), (0, .ref (G.1 5)), (1, .int x1), (3, .int x3), (4, .int x4)]) hx hb dX4_tryRow_51 rfl hl (Nat.le_of_ble_eq_true rfl) rfl (fun ls hl => ?_)
      refine lv_iload_n hx hb dX4_tryRow_52 rfl (lv_at hl 3 rfl) ?_
      refine lv_iconst (v := (3 : Int32)) hx hb dX4_tryRow_53 (by decide) ?_
      refine lv_idiv hx hb dX4_tryRow_54 (by decide) ?_
      refine lv_topi (fun x3_18 ex3_18 => ?_)
      replace hw := hw x3_18 ex3_18
      refine lv_istore_n (lv' := [(3, .int x3_18), (2, .int x2_17), (0, .ref (G.1 5)), (1, .int x1), (4, .int x4)]) hx hb dX4_tryRow_55 rfl hl (Nat.le_of_ble_eq_true rfl) rfl (fun ls hl => ?_)
      obtain ⟨x4_19, ex4_19⟩ : ∃ y : Int32, y = (x4 + (-1 : Int32)) := ⟨_, rfl⟩
      replace hw := hw x4_19 ex4_19
      refine lv_iinc (v := x4_19) (lv' := [(4, .int x4_19), (3, .int x3_18), (2, .int x2_17), (0, .ref (G.1 5)), (1, .int x1)]) hx hb dX4_tryRow_56 hl (k := 4) rfl (by rw [ex4_19]; rfl) (Nat.le_of_ble_eq_true rfl) rfl (fun ls hl => ?_)
      refine lv_goto (tgt := 30) hx hb dX4_tryRow_59 (by decide) ?_
      exact ih _ _ _ _ _ _ _ _ hw hk (lv_sub hl [3, 4, 2, 1, 0] rfl)
def wp_X4_tryRow (σ : Sg) (p1 : Int32) (Q : Int32 → Sg → Prop) : Prop := k_cpyok (0 : Int32) (0 : Int32) (24 : Int32) 24 24 ∧ (∀ σ1 : Sg, σ1 = (setA σ 29 (va_cpy (σ 8) (σ 29) ((0 : Int32)).toNatClampNeg ((0 : Int32)).toNatClampNeg ((24 : Int32)).toNatClampNeg)) → (∀ x4_2 : Int32, x4_2 = ((σ1 5 7) - (1 : Int32)) → (∃ n0, wp_X4_tryRow_30 Q  n0 p1 (0 : Int32) p1 x4_2 σ1)))
set_option maxHeartbeats 4000000 in
set_option maxRecDepth 100000 in
theorem c_X4_tryRow (l : Launch) (G : Gw) (σ : Sg) (p1 : Int32) (Q : Int32 → Sg → Prop) (hw : wp_X4_tryRow σ p1 Q) : MetI l yX4_tryRow wz_X4_tryRow rm_X4_tryRow G σ [.ref (G.1 5), .int p1] Q := by
  refine MetI.of cX4_tryRow 5 (some .boolean) (by decide) rfl (Nat.le_of_ble_eq_true rfl) ?_
  intro p e s m below meth c X hk ls hl
  have X : KC p m meth c cX4_tryRow 5 s _ wz_X4_tryRow RX4 (some .boolean) G := X
  have hl : lv_has ls 5 [(0, .ref (G.1 5)), (1, .int p1)] := hl
  unfold wp_X4_tryRow at hw
  have hx := X.1.1
  have hb := X.1.2.1
  refine lv_aload_n hx hb dX4_tryRow_0 rfl (lv_at hl 0 rfl) ?_
  refine k_get 4 X hk (wg_5 G _) rfl (hz_wsX40 _) (Nat.le_of_ble_eq_true rfl) (List.mem_cons_of_mem _ (aw_r4 _ (List.mem_of_getElem? (i := 10) rfl))) rfl dX4_tryRow_1 ?_
  refine k_get 4 X hk (wg_1 G _) rfl (hz_wsX30 _) (Nat.le_of_ble_eq_true rfl) (List.mem_cons_of_mem _ (aw_r37 _ (List.mem_of_getElem? (i := 19) rfl))) rfl dX4_tryRow_4 ?_
  refine lv_iconst (v := (0 : Int32)) hx hb dX4_tryRow_7 (by decide) ?_
  refine lv_aload_n hx hb dX4_tryRow_8 rfl (lv_at hl 0 rfl) ?_
  refine k_get 9 X hk (wg_5 G _) rfl (hz_wsX40 _) (Nat.le_of_ble_eq_true rfl) (List.mem_cons_of_mem _ (aw_r4 _ (List.mem_of_getElem? (i := 9) rfl))) rfl dX4_tryRow_9 ?_
  refine lv_iconst (v := (0 : Int32)) hx hb dX4_tryRow_12 (by decide) ?_
  refine lv_bipush (v := (24 : Int32)) hx hb dX4_tryRow_13 (by decide) ?_
  refine k_copy X hk hl.1 (List.mem_cons_of_mem _ (aw_r37 _ (List.mem_of_getElem? (i := 20) rfl))) (List.mem_cons_of_mem _ (aw_r7 _ (List.mem_of_getElem? (i := 9) rfl))) (List.mem_cons_of_mem _ (aw_r7 _ (List.mem_of_getElem? (i := 10) rfl))) (List.mem_cons_of_mem _ (aw_r7 _ (List.mem_of_getElem? (i := 11) rfl))) (wg_8 G _) (wg_29 G _) (ws_29 G _) hw.1 (Nat.le_of_ble_eq_true rfl) (Nat.le_of_ble_eq_true rfl) dX4_tryRow_15 (fun H locs hk => ?_)
  replace hw := hw.2
  obtain ⟨σ1, eσ1⟩ : ∃ y : Sg, y = (setA σ 29 (va_cpy (σ 8) (σ 29) ((0 : Int32)).toNatClampNeg ((0 : Int32)).toNatClampNeg ((24 : Int32)).toNatClampNeg)) := ⟨_, rfl⟩
  rw [← eσ1] at hk
  replace hw := hw σ1 eσ1
  refine lv_iconst (v := (0 : Int32)) hx hb dX4_tryRow_18 (by decide) ?_
  refine lv_istore_n (lv' := [(2, .int (0 : Int32)), (0, .ref (G.1 5)), (1, .int p1)]) hx hb dX4_tryRow_19 rfl hl (Nat.le_of_ble_eq_true rfl) rfl (fun ls hl => ?_)
  refine lv_iload_n hx hb dX4_tryRow_20 rfl (lv_at hl 2 rfl) ?_
  refine lv_istore_n (lv' := [(3, .int p1), (2, .int (0 : Int32)), (0, .ref (G.1 5)), (1, .int p1)]) hx hb dX4_tryRow_21 rfl hl (Nat.le_of_ble_eq_true rfl) rfl (fun ls hl => ?_)
  refine lv_aload_n hx hb dX4_tryRow_22 rfl (lv_at hl 2 rfl) ?_
  refine k_get 7 X hk (wg_5 G _) rfl (hz_wsX40 _) (Nat.le_of_ble_eq_true rfl) (List.mem_cons_of_mem _ (aw_r37 _ (List.mem_of_getElem? (i := 7) rfl))) rfl dX4_tryRow_23 ?_
  refine lv_iconst (v := (1 : Int32)) hx hb dX4_tryRow_26 (by decide) ?_
  refine lv_isub hx hb dX4_tryRow_27 ?_
  refine lv_topi (fun x4_2 ex4_2 => ?_)
  replace hw := hw x4_2 ex4_2
  refine lv_istore (lv' := [(4, .int x4_2), (3, .int p1), (2, .int (0 : Int32)), (0, .ref (G.1 5)), (1, .int p1)]) hx hb dX4_tryRow_28 hl (Nat.le_of_ble_eq_true rfl) rfl (fun ls hl => ?_)
  obtain ⟨n0, hw⟩ := hw
  exact t_X4_tryRow_30 X Q   n0 _ _ _ _ _ _ _ _ hw hk (lv_sub hl [3, 4, 2, 1, 0] rfl)
def rm_X4_findRow : Room := { frames := 6, cells := 0, slots := 0, locals := 140 }
abbrev wz_X4_findRow : List Cond := Cond.code yX4_findRow cX4_findRow 5 none :: wsA
theorem hd_X4_findRow : yX4_findRow.cls = RX4 ∧ yX4_findRow.cls ≠ "java/lang/invoke/MethodHandle" ∧ yX4_findRow.cls ≠ "java/lang/invoke/VarHandle" ∧ (parseMethodDescriptor yX4_findRow.desc).map (fun d => d.parameters.length) = some 1 := by decide +kernel
def wp_X4_findRow_80 (Q : Sg → Prop) (K28 : Int32 → Int32 → Sg → Prop) (x2 x3 : Int32) (σ : Sg) : Prop := ∀ x3_11 : Int32, x3_11 = (x3 + (1 : Int32)) → (K28 x2 x3_11 σ)
set_option maxHeartbeats 4000000 in
set_option maxRecDepth 100000 in
theorem t_X4_findRow_80 {p : Program} {l : Launch} {e : Env} {s : State} {m : MethodId} {args : Array Value} {below : List Frame} {meth : Method} {c : Code} {G : Gw} (X : KC p m meth c cX4_findRow 5 s args wz_X4_findRow RX4 none G) (Q : Sg → Prop) (K28 : Int32 → Int32 → Sg → Prop) (hK28 : ∀ (σ : Sg) (x2 x3 : Int32) (H : Heap) (locs : List Loc) (ls : Array Slot), K28 x2 x3 σ → WK G s H locs σ → lv_has ls 5 [(0, .ref (G.1 5)), (2, .int x2), (3, .int x3)] → W p l e rm_X4_findRow s m args below meth c H locs 0 0 (ZV below args s G Q) (F0 m 28 ls [])) : ∀ (σ : Sg) (x2 x3 : Int32) (H : Heap) (locs : List Loc) (ls : Array Slot), wp_X4_findRow_80 Q K28 x2 x3 σ → WK G s H locs σ → lv_has ls 5 [(0, .ref (G.1 5)), (2, .int x2), (3, .int x3)] → W p l e rm_X4_findRow s m args below meth c H locs 0 0 (ZV below args s G Q) (F0 m 80 ls []) := by
  have hx := X.1.1
  have hb := X.1.2.1
  intro σ x2 x3 H locs ls hw hk hl
  unfold wp_X4_findRow_80 at hw
  obtain ⟨x3_11, ex3_11⟩ : ∃ y : Int32, y = (x3 + (1 : Int32)) := ⟨_, rfl⟩
  replace hw := hw x3_11 ex3_11
  refine lv_iinc (v := x3_11) (lv' := [(3, .int x3_11), (0, .ref (G.1 5)), (2, .int x2)]) hx hb dX4_findRow_80 hl (k := 2) rfl (by rw [ex3_11]; rfl) (Nat.le_of_ble_eq_true rfl) rfl (fun ls hl => ?_)
  refine lv_goto (tgt := 28) hx hb dX4_findRow_83 (by decide) ?_
  exact hK28 _ _ _ _ _ _ hw hk (lv_sub hl [1, 2, 0] rfl)
def wp_X4_findRow_74 (Q : Sg → Prop) (K28 : Int32 → Int32 → Sg → Prop) (K39 : Int32 → Int32 → Int32 → Sg → Prop) (x2 x3 x4 : Int32) (σ : Sg) : Prop := ∀ x4_16 : Int32, x4_16 = (x4 + (1 : Int32)) → (K39 x2 x3 x4_16 σ)
set_option maxHeartbeats 4000000 in
set_option maxRecDepth 100000 in
theorem t_X4_findRow_74 {p : Program} {l : Launch} {e : Env} {s : State} {m : MethodId} {args : Array Value} {below : List Frame} {meth : Method} {c : Code} {G : Gw} (X : KC p m meth c cX4_findRow 5 s args wz_X4_findRow RX4 none G) (Q : Sg → Prop) (K28 : Int32 → Int32 → Sg → Prop) (K39 : Int32 → Int32 → Int32 → Sg → Prop) (hK28 : ∀ (σ : Sg) (x2 x3 : Int32) (H : Heap) (locs : List Loc) (ls : Array Slot), K28 x2 x3 σ → WK G s H locs σ → lv_has ls 5 [(0, .ref (G.1 5)), (2, .int x2), (3, .int x3)] → W p l e rm_X4_findRow s m args below meth c H locs 0 0 (ZV below args s G Q) (F0 m 28 ls [])) (hK39 : ∀ (σ : Sg) (x2 x3 x4 : Int32) (H : Heap) (locs : List Loc) (ls : Array Slot), K39 x2 x3 x4 σ → WK G s H locs σ → lv_has ls 5 [(0, .ref (G.1 5)), (2, .int x2), (3, .int x3), (4, .int x4)] → W p l e rm_X4_findRow s m args below meth c H locs 0 0 (ZV below args s G Q) (F0 m 39 ls [])) : ∀ (σ : Sg) (x2 x3 x4 : Int32) (H : Heap) (locs : List Loc) (ls : Array Slot), wp_X4_findRow_74 Q K28 K39 x2 x3 x4 σ → WK G s H locs σ → lv_has ls 5 [(0, .ref (G.1 5)), (2, .int x2), (3, .int x3), (4, .int x4)] → W p l e rm_X4_findRow s m args below meth c H locs 0 0 (ZV below args s G Q) (F0 m 74 ls []) := by
  have hx := X.1.1
  have hb := X.1.2.1
  intro σ x2 x3 x4 H locs ls hw hk hl
  unfold wp_X4_findRow_74 at hw
  obtain ⟨x4_16, ex4_16⟩ : ∃ y : Int32, y = (x4 + (1 : Int32)) := ⟨_, rfl⟩
  replace hw := hw x4_16 ex4_16
  refine lv_iinc (v := x4_16) (lv' := [(4, .int x4_16), (0, .ref (G.1 5)), (2, .int x2), (3, .int x3)]) hx hb dX4_findRow_74 hl (k := 3) rfl (by rw [ex4_16]; rfl) (Nat.le_of_ble_eq_true rfl) rfl (fun ls hl => ?_)
  refine lv_goto (tgt := 39) hx hb dX4_findRow_77 (by decide) ?_
  exact hK39 _ _ _ _ _ _ _ hw hk (lv_sub hl [1, 2, 3, 0] rfl)
def wp_X4_findRow_39 (Q : Sg → Prop) (K28 : Int32 → Int32 → Sg → Prop) : Nat → Int32 → Int32 → Int32 → Sg → Prop
  | 0, _, _, _, _ => False
  | n + 1, x2, x3, x4, σ => (x2 ≤ x4 → (wp_X4_findRow_80 Q K28 x2 x3 σ)) ∧ (¬ (x2 ≤ x4) → (((σ 5 0) ≤ 0 → (wp_X4_findRow_80 Q K28 x2 x3 σ)) ∧ (¬ ((σ 5 0) ≤ 0) → (wp_X4_digitsNotZero σ x4 (fun r14 σ13 => (r14 = x3 → (wp_X4_tryRow σ13 x4 (fun r18 σ17 => (r18 = 0 → (wp_X4_findRow_74 Q K28 (fun z2 z3 z4 σ => wp_X4_findRow_39 Q K28 n z2 z3 z4 σ) x2 x3 x4 σ17)) ∧ (¬ (r18 = 0) → (wp_X4_findNarrow σ17  (fun σ20 => wp_X4_findRow_74 Q K28 (fun z2 z3 z4 σ => wp_X4_findRow_39 Q K28 n z2 z3 z4 σ) x2 x3 x4 σ20)))))) ∧ (¬ (r14 = x3) → (wp_X4_findRow_74 Q K28 (fun z2 z3 z4 σ => wp_X4_findRow_39 Q K28 n z2 z3 z4 σ) x2 x3 x4 σ13)))))))
set_option maxHeartbeats 4000000 in
set_option maxRecDepth 100000 in
theorem t_X4_findRow_39 {p : Program} {l : Launch} {e : Env} {s : State} {m : MethodId} {args : Array Value} {below : List Frame} {meth : Method} {c : Code} {G : Gw} (X : KC p m meth c cX4_findRow 5 s args wz_X4_findRow RX4 none G) (Q : Sg → Prop) (K28 : Int32 → Int32 → Sg → Prop) (hK28 : ∀ (σ : Sg) (x2 x3 : Int32) (H : Heap) (locs : List Loc) (ls : Array Slot), K28 x2 x3 σ → WK G s H locs σ → lv_has ls 5 [(0, .ref (G.1 5)), (2, .int x2), (3, .int x3)] → W p l e rm_X4_findRow s m args below meth c H locs 0 0 (ZV below args s G Q) (F0 m 28 ls [])) : ∀ (n : Nat) (σ : Sg) (x2 x3 x4 : Int32) (H : Heap) (locs : List Loc) (ls : Array Slot), wp_X4_findRow_39 Q K28 n x2 x3 x4 σ → WK G s H locs σ → lv_has ls 5 [(0, .ref (G.1 5)), (2, .int x2), (3, .int x3), (4, .int x4)] → W p l e rm_X4_findRow s m args below meth c H locs 0 0 (ZV below args s G Q) (F0 m 39 ls []) := by
  have hx := X.1.1
  have hb := X.1.2.1
  intro n
  induction n with
  | zero =>
    intro σ x2 x3 x4 H locs ls hw hk hl
    exact False.elim hw
  | succ n ih =>
    intro σ x2 x3 x4 H locs ls hw hk hl
    rw [wp_X4_findRow_39] at hw
    refine lv_iload hx hb dX4_findRow_39 (lv_at hl 3 rfl) ?_
    refine lv_iload_n hx hb dX4_findRow_41 rfl (lv_at hl 1 rfl) ?_
    refine lv_icmp_ge (tgt := 80) hx hb dX4_findRow_42 (by decide) (fun c10 => ?_) (fun c10 => ?_)
    · replace hw := hw.1 c10
      exact t_X4_findRow_80 X Q _ hK28 _ _ _ _ _ _ hw hk (lv_sub hl [0, 1, 2] rfl)
    · replace hw := hw.2 c10
      refine lv_aload_n hx hb dX4_findRow_45 rfl (lv_at hl 0 rfl) ?_
      refine k_get 0 X hk (wg_5 G _) rfl (hz_wsX40 _) (Nat.le_of_ble_eq_true rfl) (List.mem_cons_of_mem _ (aw_r35 _ (List.mem_of_getElem? (i := 0) rfl))) rfl dX4_findRow_46 ?_
      refine lv_if_le (tgt := 80) hx hb dX4_findRow_49 (by decide) (fun c12 => ?_) (fun c12 => ?_)
      · replace hw := hw.1 c12
        exact t_X4_findRow_80 X Q _ hK28 _ _ _ _ _ _ hw hk (lv_sub hl [0, 1, 2] rfl)
      · replace hw := hw.2 c12
        refine lv_iload hx hb dX4_findRow_52 (lv_at hl 3 rfl) ?_
        refine k_callSi (rest := []) X hk (c_X4_digitsNotZero l G _ _ _ hw) (va_cwS 1 X.1.2.2.2.2 (gzS (aw_r37 _ (List.mem_of_getElem? (i := 12) rfl)) (aw_r37 _ (List.mem_of_getElem? (i := 13) rfl)) (aw_r2 _ (List.mem_of_getElem? (i := 7) rfl)) (aw_r37 _ (List.mem_of_getElem? (i := 14) rfl))) rfl rfl rfl hds_X4_digitsNotZero ⟨(Nat.le_of_ble_eq_true rfl), (Nat.le_of_ble_eq_true rfl)⟩) rfl hl.1 rfl (Nat.le_of_ble_eq_true rfl) dX4_findRow_54 ⟨Nat.zero_le _, Nat.zero_le _⟩ (fun r14 σ13 H locs hw hk => ?_)
        refine lv_iload_n hx hb dX4_findRow_57 rfl (lv_at hl 2 rfl) ?_
        refine lv_icmp_ne (tgt := 74) hx hb dX4_findRow_58 (by decide) (fun c15 => ?_) (fun c15 => ?_)
        · replace hw := hw.2 c15
          exact t_X4_findRow_74 X Q _ _ hK28 ih _ _ _ _ _ _ _ hw hk hl
        · replace hw := hw.1 c15
          refine lv_aload_n hx hb dX4_findRow_61 rfl (lv_at hl 0 rfl) ?_
          refine lv_iload hx hb dX4_findRow_62 (lv_at hl 3 rfl) ?_
          refine k_callVi (rest := []) X hk (c_X4_tryRow l G _ _ _ hw) (cwV 1 X.1.2.2.2.2 (gzV (aw_r37 _ (List.mem_of_getElem? (i := 15) rfl)) (aw_r37 _ (List.mem_of_getElem? (i := 16) rfl)) (aw_r37 _ (List.mem_of_getElem? (i := 17) rfl)) (aw_r2 _ (List.mem_of_getElem? (i := 7) rfl)) (aw_r37 _ (List.mem_of_getElem? (i := 18) rfl))) rfl rfl rfl hd_X4_tryRow ⟨(Nat.le_of_ble_eq_true rfl), (Nat.le_of_ble_eq_true rfl)⟩) (wg_5 G _) rfl rfl hl.1 rfl (Nat.le_of_ble_eq_true rfl) dX4_findRow_64 ⟨Nat.zero_le _, Nat.zero_le _⟩ (fun r18 σ17 H locs hw hk => ?_)
          refine lv_if_eq (tgt := 74) hx hb dX4_findRow_67 (by decide) (fun c19 => ?_) (fun c19 => ?_)
          · replace hw := hw.1 c19
            exact t_X4_findRow_74 X Q _ _ hK28 ih _ _ _ _ _ _ _ hw hk hl
          · replace hw := hw.2 c19
            refine lv_aload_n hx hb dX4_findRow_70 rfl (lv_at hl 0 rfl) ?_
            refine k_callVv (rest := []) X hk (c_X4_findNarrow l G _  _ hw) (cwV 0 X.1.2.2.2.2 (gzV (aw_r35 _ (List.mem_of_getElem? (i := 3) rfl)) (aw_r35 _ (List.mem_of_getElem? (i := 4) rfl)) (aw_r35 _ (List.mem_of_getElem? (i := 5) rfl)) (aw_r2 _ (List.mem_of_getElem? (i := 7) rfl)) (aw_r35 _ (List.mem_of_getElem? (i := 6) rfl))) rfl rfl rfl hd_X4_findNarrow ⟨(Nat.le_of_ble_eq_true rfl), (Nat.le_of_ble_eq_true rfl)⟩) (wg_5 G _) rfl rfl hl.1 rfl (Nat.le_of_ble_eq_true rfl) dX4_findRow_71 ⟨Nat.zero_le _, Nat.zero_le _⟩ (fun σ20 H locs hw hk => ?_)
            exact t_X4_findRow_74 X Q _ _ hK28 ih _ _ _ _ _ _ _ hw hk hl
def wp_X4_findRow_28 (Q : Sg → Prop)  : Nat → Int32 → Int32 → Sg → Prop
  | 0, _, _, _ => False
  | n + 1, x2, x3, σ => ((σ 5 7) < x3 → (Q σ)) ∧ (¬ ((σ 5 7) < x3) → (∃ n0, wp_X4_findRow_39 Q (fun z2 z3 σ => wp_X4_findRow_28 Q  n z2 z3 σ) n0 x2 x3 (1 : Int32) σ))
set_option maxHeartbeats 4000000 in
set_option maxRecDepth 100000 in
theorem t_X4_findRow_28 {p : Program} {l : Launch} {e : Env} {s : State} {m : MethodId} {args : Array Value} {below : List Frame} {meth : Method} {c : Code} {G : Gw} (X : KC p m meth c cX4_findRow 5 s args wz_X4_findRow RX4 none G) (Q : Sg → Prop)  : ∀ (n : Nat) (σ : Sg) (x2 x3 : Int32) (H : Heap) (locs : List Loc) (ls : Array Slot), wp_X4_findRow_28 Q  n x2 x3 σ → WK G s H locs σ → lv_has ls 5 [(0, .ref (G.1 5)), (2, .int x2), (3, .int x3)] → W p l e rm_X4_findRow s m args below meth c H locs 0 0 (ZV below args s G Q) (F0 m 28 ls []) := by
  have hx := X.1.1
  have hb := X.1.2.1
  intro n
  induction n with
  | zero =>
    intro σ x2 x3 H locs ls hw hk hl
    exact False.elim hw
  | succ n ih =>
    intro σ x2 x3 H locs ls hw hk hl
    rw [wp_X4_findRow_28] at hw
    refine lv_iload_n hx hb dX4_findRow_28 rfl (lv_at hl 2 rfl) ?_
    refine lv_aload_n hx hb dX4_findRow_29 rfl (lv_at hl 0 rfl) ?_
    refine k_get 7 X hk (wg_5 G _) rfl (hz_wsX40 _) (Nat.le_of_ble_eq_true rfl) (List.mem_cons_of_mem _ (aw_r37 _ (List.mem_of_getElem? (i := 7) rfl))) rfl dX4_findRow_30 ?_
    refine lv_icmp_gt (tgt := 86) hx hb dX4_findRow_33 (by decide) (fun c9 => ?_) (fun c9 => ?_)
    · replace hw := hw.1 c9
      exact k_vret X hk hw dX4_findRow_86
    · replace hw := hw.2 c9
      refine lv_iconst (v := (1 : Int32)) hx hb dX4_findRow_36 (by decide) ?_
      refine lv_istore (lv' := [(4, .int (1 : Int32)), (0, .ref (G.1 5)), (2, .int x2), (3, .int x3)]) hx hb dX4_findRow_37 hl (Nat.le_of_ble_eq_true rfl) rfl (fun ls hl => ?_)
      obtain ⟨n0, hw⟩ := hw
      exact t_X4_findRow_39 X Q _ ih n0 _ _ _ _ _ _ _ hw hk (lv_sub hl [1, 2, 3, 0] rfl)
def wp_X4_findRow (σ : Sg) (p1 : Int32) (Q : Sg → Prop) : Prop := wp_X4_choose σ p1 (fun r2 σ1 => ∀ σ3 : Sg, σ3 = (put σ1 5 3 (0 : Int32)) → (wp_X0_soonest σ3  (fun r5 σ4 => ∀ σ6 : Sg, σ6 = (put σ4 5 0 r5) → (wp_X4_findNarrow σ6  (fun σ7 => ∃ n0, wp_X4_findRow_28 Q  n0 r2 (1 : Int32) σ7)))))
set_option maxHeartbeats 4000000 in
set_option maxRecDepth 100000 in
theorem c_X4_findRow (l : Launch) (G : Gw) (σ : Sg) (p1 : Int32) (Q : Sg → Prop) (hw : wp_X4_findRow σ p1 Q) : MetV l yX4_findRow wz_X4_findRow rm_X4_findRow G σ [.ref (G.1 5), .int p1] Q := by
  refine MetV.of cX4_findRow 5 none (by decide) rfl (Nat.le_of_ble_eq_true rfl) ?_
  intro p e s m below meth c X hk ls hl
  have X : KC p m meth c cX4_findRow 5 s _ wz_X4_findRow RX4 none G := X
  have hl : lv_has ls 5 [(0, .ref (G.1 5)), (1, .int p1)] := hl
  unfold wp_X4_findRow at hw
  have hx := X.1.1
  have hb := X.1.2.1
  refine lv_aload_n hx hb dX4_findRow_0 rfl (lv_at hl 0 rfl) ?_
  refine lv_iload_n hx hb dX4_findRow_1 rfl (lv_at hl 1 rfl) ?_
  refine k_callVi (rest := []) X hk (c_X4_choose l G _ _ _ hw) (cwV 1 X.1.2.2.2.2 (gzV (aw_r37 _ (List.mem_of_getElem? (i := 8) rfl)) (aw_r37 _ (List.mem_of_getElem? (i := 9) rfl)) (aw_r37 _ (List.mem_of_getElem? (i := 10) rfl)) (aw_r2 _ (List.mem_of_getElem? (i := 7) rfl)) (aw_r37 _ (List.mem_of_getElem? (i := 11) rfl))) rfl rfl rfl hd_X4_choose ⟨(Nat.le_of_ble_eq_true rfl), (Nat.le_of_ble_eq_true rfl)⟩) (wg_5 G _) rfl rfl hl.1 rfl (Nat.le_of_ble_eq_true rfl) dX4_findRow_2 ⟨Nat.zero_le _, Nat.zero_le _⟩ (fun r2 σ1 H locs hw hk => ?_)
  refine lv_istore_n (lv' := [(2, .int r2), (0, .ref (G.1 5)), (1, .int p1)]) hx hb dX4_findRow_5 rfl hl (Nat.le_of_ble_eq_true rfl) rfl (fun ls hl => ?_)
  refine lv_aload_n hx hb dX4_findRow_6 rfl (lv_at hl 1 rfl) ?_
  refine lv_iconst (v := (0 : Int32)) hx hb dX4_findRow_7 (by decide) ?_
  refine k_put 3 X hk (wg_5 G _) rfl (hz_wsX40 _) tyX4_ok nmX4 (Nat.le_of_ble_eq_true rfl) (List.mem_cons_of_mem _ (aw_r37 _ (List.mem_of_getElem? (i := 6) rfl))) rfl rfl (Nat.le_of_ble_eq_true rfl) (ws_5_3 G _ _) dX4_findRow_8 (fun H locs hk => ?_)
  obtain ⟨σ3, eσ3⟩ : ∃ y : Sg, y = (put σ1 5 3 (0 : Int32)) := ⟨_, rfl⟩
  rw [← eσ3] at hk
  replace hw := hw σ3 eσ3
  refine lv_aload_n hx hb dX4_findRow_11 rfl (lv_at hl 1 rfl) ?_
  refine lv_aload_n hx hb dX4_findRow_12 rfl (lv_at hl 1 rfl) ?_
  refine k_get 5 X hk (wg_5 G _) rfl (hz_wsX40 _) (Nat.le_of_ble_eq_true rfl) (List.mem_cons_of_mem _ (aw_r4 _ (List.mem_of_getElem? (i := 11) rfl))) rfl dX4_findRow_13 ?_
  refine k_callVi (rest := [.ref (G.1 5)]) X hk (c_X0_soonest l G _  _ hw) (cwV 0 X.1.2.2.2.2 (gzV (aw_r35 _ (List.mem_of_getElem? (i := 2) rfl)) (aw_r30 _ (List.mem_of_getElem? (i := 0) rfl)) (aw_r30 _ (List.mem_of_getElem? (i := 1) rfl)) (aw_r2 _ (List.mem_of_getElem? (i := 3) rfl)) (aw_r30 _ (List.mem_of_getElem? (i := 2) rfl))) rfl rfl rfl hd_X0_soonest ⟨(Nat.le_of_ble_eq_true rfl), (Nat.le_of_ble_eq_true rfl)⟩) (wg_4 G _) rfl rfl hl.1 rfl (Nat.le_of_ble_eq_true rfl) dX4_findRow_16 ⟨Nat.zero_le _, Nat.zero_le _⟩ (fun r5 σ4 H locs hw hk => ?_)
  refine k_put 0 X hk (wg_5 G _) rfl (hz_wsX40 _) tyX4_ok nmX4 (Nat.le_of_ble_eq_true rfl) (List.mem_cons_of_mem _ (aw_r35 _ (List.mem_of_getElem? (i := 0) rfl))) rfl rfl (Nat.le_of_ble_eq_true rfl) (ws_5_0 G _ _) dX4_findRow_19 (fun H locs hk => ?_)
  obtain ⟨σ6, eσ6⟩ : ∃ y : Sg, y = (put σ4 5 0 r5) := ⟨_, rfl⟩
  rw [← eσ6] at hk
  replace hw := hw σ6 eσ6
  refine lv_aload_n hx hb dX4_findRow_22 rfl (lv_at hl 1 rfl) ?_
  refine k_callVv (rest := []) X hk (c_X4_findNarrow l G _  _ hw) (cwV 0 X.1.2.2.2.2 (gzV (aw_r35 _ (List.mem_of_getElem? (i := 3) rfl)) (aw_r35 _ (List.mem_of_getElem? (i := 4) rfl)) (aw_r35 _ (List.mem_of_getElem? (i := 5) rfl)) (aw_r2 _ (List.mem_of_getElem? (i := 7) rfl)) (aw_r35 _ (List.mem_of_getElem? (i := 6) rfl))) rfl rfl rfl hd_X4_findNarrow ⟨(Nat.le_of_ble_eq_true rfl), (Nat.le_of_ble_eq_true rfl)⟩) (wg_5 G _) rfl rfl hl.1 rfl (Nat.le_of_ble_eq_true rfl) dX4_findRow_23 ⟨Nat.zero_le _, Nat.zero_le _⟩ (fun σ7 H locs hw hk => ?_)
  refine lv_iconst (v := (1 : Int32)) hx hb dX4_findRow_26 (by decide) ?_
  refine lv_istore_n (lv' := [(3, .int (1 : Int32)), (2, .int r2), (0, .ref (G.1 5)), (1, .int p1)]) hx hb dX4_findRow_27 rfl hl (Nat.le_of_ble_eq_true rfl) rfl (fun ls hl => ?_)
  obtain ⟨n0, hw⟩ := hw
  exact t_X4_findRow_28 X Q   n0 _ _ _ _ _ _ hw hk (lv_sub hl [2, 1, 0] rfl)
def rm_J6_bitCount_0f7a4 : Room := { frames := 0, cells := 0, slots := 0, locals := 0 }
abbrev wz_J6_bitCount_0f7a4 : List Cond := Cond.code yJ6_bitCount_0f7a4 cJ6_bitCount_0f7a4 1 (some .int) :: wsA
theorem hds_J6_bitCount_0f7a4 : yJ6_bitCount_0f7a4.cls ≠ "java/lang/invoke/MethodHandle" ∧ yJ6_bitCount_0f7a4.cls ≠ "java/lang/invoke/VarHandle" ∧ (parseMethodDescriptor yJ6_bitCount_0f7a4.desc).map (fun d => d.parameters.length) = some 1 := by decide +kernel
def wp_J6_bitCount_0f7a4 (σ : Sg) (p0 : Int32) (Q : Int32 → Sg → Prop) : Prop := ∀ x0_1 : Int32, x0_1 = (p0 - (((p0.toUInt32 >>> ((1 : Int32).toUInt32 &&& Int32.toUInt32 31)).toInt32) &&& (1431655765 : Int32))) → (∀ x0_2 : Int32, x0_2 = ((x0_1 &&& (858993459 : Int32)) + (((x0_1.toUInt32 >>> ((2 : Int32).toUInt32 &&& Int32.toUInt32 31)).toInt32) &&& (858993459 : Int32))) → (∀ x0_3 : Int32, x0_3 = ((x0_2 + ((x0_2.toUInt32 >>> ((4 : Int32).toUInt32 &&& Int32.toUInt32 31)).toInt32)) &&& (252645135 : Int32)) → (∀ x0_4 : Int32, x0_4 = (x0_3 + ((x0_3.toUInt32 >>> ((8 : Int32).toUInt32 &&& Int32.toUInt32 31)).toInt32)) → (∀ x0_5 : Int32, x0_5 = (x0_4 + ((x0_4.toUInt32 >>> ((16 : Int32).toUInt32 &&& Int32.toUInt32 31)).toInt32)) → (Q (x0_5 &&& (63 : Int32)) σ)))))
set_option maxHeartbeats 4000000 in
set_option maxRecDepth 100000 in
theorem c_J6_bitCount_0f7a4 (l : Launch) (G : Gw) (σ : Sg) (p0 : Int32) (Q : Int32 → Sg → Prop) (hw : wp_J6_bitCount_0f7a4 σ p0 Q) : MetI l yJ6_bitCount_0f7a4 wz_J6_bitCount_0f7a4 rm_J6_bitCount_0f7a4 G σ [.int p0] Q := by
  refine MetI.of cJ6_bitCount_0f7a4 1 (some .int) (by decide) rfl (Nat.le_of_ble_eq_true rfl) ?_
  intro p e s m below meth c X hk ls hl
  have X : KC p m meth c cJ6_bitCount_0f7a4 1 s _ wz_J6_bitCount_0f7a4 RJ6 (some .int) G := X
  have hl : lv_has ls 1 [(0, .int p0)] := hl
  unfold wp_J6_bitCount_0f7a4 at hw
  have hx := X.1.1
  have hb := X.1.2.1
  refine lv_iload_n hx hb dJ6_bitCount_0f7a4_0 rfl (lv_at hl 0 rfl) ?_
  refine lv_iload_n hx hb dJ6_bitCount_0f7a4_1 rfl (lv_at hl 0 rfl) ?_
  refine lv_iconst (v := (1 : Int32)) hx hb dJ6_bitCount_0f7a4_2 (by decide) ?_
  refine lv_iushr hx hb dJ6_bitCount_0f7a4_3 rfl ?_
  refine lv_ldcw (v := (1431655765 : Int32)) hx hb X.1.2.2.2.1 (X.1.2.2.2.2 _ (List.mem_cons_of_mem _ (aw_r36 _ (List.mem_of_getElem? (i := 23) rfl)))) dJ6_bitCount_0f7a4_4 ?_
  refine lv_iand hx hb dJ6_bitCount_0f7a4_7 ?_
  refine lv_isub hx hb dJ6_bitCount_0f7a4_8 ?_
  refine lv_topi (fun x0_1 ex0_1 => ?_)
  replace hw := hw x0_1 ex0_1
  refine lv_istore_n (lv' := [(0, .int x0_1)]) hx hb dJ6_bitCount_0f7a4_9 rfl hl (Nat.le_of_ble_eq_true rfl) rfl (fun ls hl => ?_)
  refine lv_iload_n hx hb dJ6_bitCount_0f7a4_10 rfl (lv_at hl 0 rfl) ?_
  refine lv_ldcw (v := (858993459 : Int32)) hx hb X.1.2.2.2.1 (X.1.2.2.2.2 _ (List.mem_cons_of_mem _ (aw_r37 _ (List.mem_of_getElem? (i := 0) rfl)))) dJ6_bitCount_0f7a4_11 ?_
  refine lv_iand hx hb dJ6_bitCount_0f7a4_14 ?_
  refine lv_iload_n hx hb dJ6_bitCount_0f7a4_15 rfl (lv_at hl 0 rfl) ?_
  refine lv_iconst (v := (2 : Int32)) hx hb dJ6_bitCount_0f7a4_16 (by decide) ?_
  refine lv_iushr hx hb dJ6_bitCount_0f7a4_17 rfl ?_
  refine lv_ldcw (v := (858993459 : Int32)) hx hb X.1.2.2.2.1 (X.1.2.2.2.2 _ (List.mem_cons_of_mem _ (aw_r37 _ (List.mem_of_getElem? (i := 0) rfl)))) dJ6_bitCount_0f7a4_18 ?_
  refine lv_iand hx hb dJ6_bitCount_0f7a4_21 ?_
  refine lv_iadd hx hb dJ6_bitCount_0f7a4_22 ?_
  refine lv_topi (fun x0_2 ex0_2 => ?_)
  replace hw := hw x0_2 ex0_2
  refine lv_istore_n (lv' := [(0, .int x0_2)]) hx hb dJ6_bitCount_0f7a4_23 rfl hl (Nat.le_of_ble_eq_true rfl) rfl (fun ls hl => ?_)
  refine lv_iload_n hx hb dJ6_bitCount_0f7a4_24 rfl (lv_at hl 0 rfl) ?_
  refine lv_iload_n hx hb dJ6_bitCount_0f7a4_25 rfl (lv_at hl 0 rfl) ?_
  refine lv_iconst (v := (4 : Int32)) hx hb dJ6_bitCount_0f7a4_26 (by decide) ?_
  refine lv_iushr hx hb dJ6_bitCount_0f7a4_27 rfl ?_
  refine lv_iadd hx hb dJ6_bitCount_0f7a4_28 ?_
  refine lv_ldcw (v := (252645135 : Int32)) hx hb X.1.2.2.2.1 (X.1.2.2.2.2 _ (List.mem_cons_of_mem _ (aw_r37 _ (List.mem_of_getElem? (i := 1) rfl)))) dJ6_bitCount_0f7a4_29 ?_
  refine lv_iand hx hb dJ6_bitCount_0f7a4_32 ?_
  refine lv_topi (fun x0_3 ex0_3 => ?_)
  replace hw := hw x0_3 ex0_3
  refine lv_istore_n (lv' := [(0, .int x0_3)]) hx hb dJ6_bitCount_0f7a4_33 rfl hl (Nat.le_of_ble_eq_true rfl) rfl (fun ls hl => ?_)
  refine lv_iload_n hx hb dJ6_bitCount_0f7a4_34 rfl (lv_at hl 0 rfl) ?_
  refine lv_iload_n hx hb dJ6_bitCount_0f7a4_35 rfl (lv_at hl 0 rfl) ?_
  refine lv_bipush (v := (8 : Int32)) hx hb dJ6_bitCount_0f7a4_36 (by decide) ?_
  refine lv_iushr hx hb dJ6_bitCount_0f7a4_38 rfl ?_
  refine lv_iadd hx hb dJ6_bitCount_0f7a4_39 ?_
  refine lv_topi (fun x0_4 ex0_4 => ?_)
  replace hw := hw x0_4 ex0_4
  refine lv_istore_n (lv' := [(0, .int x0_4)]) hx hb dJ6_bitCount_0f7a4_40 rfl hl (Nat.le_of_ble_eq_true rfl) rfl (fun ls hl => ?_)
  refine lv_iload_n hx hb dJ6_bitCount_0f7a4_41 rfl (lv_at hl 0 rfl) ?_
  refine lv_iload_n hx hb dJ6_bitCount_0f7a4_42 rfl (lv_at hl 0 rfl) ?_
  refine lv_bipush (v := (16 : Int32)) hx hb dJ6_bitCount_0f7a4_43 (by decide) ?_
  refine lv_iushr hx hb dJ6_bitCount_0f7a4_45 rfl ?_
  refine lv_iadd hx hb dJ6_bitCount_0f7a4_46 ?_
  refine lv_topi (fun x0_5 ex0_5 => ?_)
  replace hw := hw x0_5 ex0_5
  refine lv_istore_n (lv' := [(0, .int x0_5)]) hx hb dJ6_bitCount_0f7a4_47 rfl hl (Nat.le_of_ble_eq_true rfl) rfl (fun ls hl => ?_)
  refine lv_iload_n hx hb dJ6_bitCount_0f7a4_48 rfl (lv_at hl 0 rfl) ?_
  refine lv_bipush (v := (63 : Int32)) hx hb dJ6_bitCount_0f7a4_49 (by decide) ?_
  refine lv_iand hx hb dJ6_bitCount_0f7a4_51 ?_
  exact k_iret X hk hw dJ6_bitCount_0f7a4_52
