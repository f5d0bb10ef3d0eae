def rm_X5_feed : Room := { frames := 1, cells := 0, slots := 0, locals := 22 }
abbrev wz_X5_feed : List Cond := Cond.code yX5_feed cX5_feed 6 (some .int) :: wsA
theorem hd_X5_feed : yX5_feed.cls = RX5 ∧ yX5_feed.cls ≠ "java/lang/invoke/MethodHandle" ∧ yX5_feed.cls ≠ "java/lang/invoke/VarHandle" ∧ (parseMethodDescriptor yX5_feed.desc).map (fun d => d.parameters.length) = some 5 := by decide +kernel
def wp_X5_feed (σ : Sg) (p1 p2 p3 p4 p5 : Int32) (Q : Int32 → Sg → Prop) : Prop := wp_X2_hasSpace σ (20 : Int32) (fun r2 σ1 => (r2 = 0 → (Q (-1 : Int32) σ1)) ∧ (¬ (r2 = 0) → (wp_X2_append σ1 p1 (fun σ4 => wp_X2_append σ4 p2 (fun σ6 => wp_X2_append σ6 p3 (fun σ8 => wp_X2_append σ8 p4 (fun σ10 => wp_X2_append σ10 p5 (fun σ12 => Q (σ12 3 0) σ12))))))))
set_option maxHeartbeats 4000000 in
set_option maxRecDepth 100000 in
theorem c_X5_feed (l : Launch) (G : Gw) (σ : Sg) (p1 p2 p3 p4 p5 : Int32) (Q : Int32 → Sg → Prop) (hw : wp_X5_feed σ p1 p2 p3 p4 p5 Q) : MetI l yX5_feed wz_X5_feed rm_X5_feed G σ [.ref (G.1 0), .int p1, .int p2, .int p3, .int p4, .int p5] Q := by
  refine MetI.of cX5_feed 6 (some .int) (by decide) rfl (Nat.le_of_ble_eq_true rfl) ?_
  intro p e s m below meth c X hk ls hl
  have X : KC p m meth c cX5_feed 6 s _ wz_X5_feed RX5 (some .int) G := X
  have hl : lv_has ls 6 [(0, .ref (G.1 0)), (1, .int p1), (2, .int p2), (3, .int p3), (4, .int p4), (5, .int p5)] := hl
  unfold wp_X5_feed at hw
  have hx := X.1.1
  have hb := X.1.2.1
  refine lv_aload_n hx hb dX5_feed_0 rfl (lv_at hl 0 rfl) ?_
  refine k_get 2 X hk (wg_0 G _) rfl (hz_wsX50 _) (Nat.le_of_ble_eq_true rfl) (List.mem_cons_of_mem _ (aw_r2 _ (List.mem_of_getElem? (i := 0) rfl))) rfl dX5_feed_1 ?_
  refine lv_bipush (v := (20 : Int32)) hx hb dX5_feed_4 (by decide) ?_
  refine k_callVi (rest := []) X hk (c_X2_hasSpace l G _ _ _ hw) (cwV 1 X.1.2.2.2.2 (gzV (aw_r5 _ (List.mem_of_getElem? (i := 14) rfl)) (aw_r5 _ (List.mem_of_getElem? (i := 15) rfl)) (aw_r5 _ (List.mem_of_getElem? (i := 16) rfl)) (aw_r1 _ (List.mem_of_getElem? (i := 23) rfl)) (aw_r5 _ (List.mem_of_getElem? (i := 17) rfl))) rfl rfl rfl hd_X2_hasSpace ⟨(Nat.le_of_ble_eq_true rfl), (Nat.le_of_ble_eq_true rfl)⟩) (wg_3 G _) rfl rfl hl.1 rfl (Nat.le_of_ble_eq_true rfl) dX5_feed_6 ⟨Nat.zero_le _, Nat.zero_le _⟩ (fun r2 σ1 H locs hw hk => ?_)
  refine lv_if_ne (tgt := 14) hx hb dX5_feed_9 (by decide) (fun c3 => ?_) (fun c3 => ?_)
  · replace hw := hw.2 c3
    refine lv_aload_n hx hb dX5_feed_14 rfl (lv_at hl 0 rfl) ?_
    refine k_get 2 X hk (wg_0 G _) rfl (hz_wsX50 _) (Nat.le_of_ble_eq_true rfl) (List.mem_cons_of_mem _ (aw_r2 _ (List.mem_of_getElem? (i := 0) rfl))) rfl dX5_feed_15 ?_
    refine lv_iload_n hx hb dX5_feed_18 rfl (lv_at hl 1 rfl) ?_
    refine k_callVv (rest := []) X hk (c_X2_append l G _ _ _ hw) (cwV 1 X.1.2.2.2.2 (gzV (aw_r5 _ (List.mem_of_getElem? (i := 19) rfl)) (aw_r5 _ (List.mem_of_getElem? (i := 20) rfl)) (aw_r5 _ (List.mem_of_getElem? (i := 21) rfl)) (aw_r1 _ (List.mem_of_getElem? (i := 23) rfl)) (aw_r5 _ (List.mem_of_getElem? (i := 22) rfl))) rfl rfl rfl hd_X2_append ⟨(Nat.le_of_ble_eq_true rfl), (Nat.le_of_ble_eq_true rfl)⟩) (wg_3 G _) rfl rfl hl.1 rfl (Nat.le_of_ble_eq_true rfl) dX5_feed_19 ⟨Nat.zero_le _, Nat.zero_le _⟩ (fun σ4 H locs hw hk => ?_)
    refine lv_aload_n hx hb dX5_feed_22 rfl (lv_at hl 0 rfl) ?_
    refine k_get 2 X hk (wg_0 G _) rfl (hz_wsX50 _) (Nat.le_of_ble_eq_true rfl) (List.mem_cons_of_mem _ (aw_r2 _ (List.mem_of_getElem? (i := 0) rfl))) rfl dX5_feed_23 ?_
    refine lv_iload_n hx hb dX5_feed_26 rfl (lv_at hl 2 rfl) ?_
    refine k_callVv (rest := []) X hk (c_X2_append l G _ _ _ hw) (cwV 1 X.1.2.2.2.2 (gzV (aw_r5 _ (List.mem_of_getElem? (i := 19) rfl)) (aw_r5 _ (List.mem_of_getElem? (i := 20) rfl)) (aw_r5 _ (List.mem_of_getElem? (i := 21) rfl)) (aw_r1 _ (List.mem_of_getElem? (i := 23) rfl)) (aw_r5 _ (List.mem_of_getElem? (i := 22) rfl))) rfl rfl rfl hd_X2_append ⟨(Nat.le_of_ble_eq_true rfl), (Nat.le_of_ble_eq_true rfl)⟩) (wg_3 G _) rfl rfl hl.1 rfl (Nat.le_of_ble_eq_true rfl) dX5_feed_27 ⟨Nat.zero_le _, Nat.zero_le _⟩ (fun σ6 H locs hw hk => ?_)
    refine lv_aload_n hx hb dX5_feed_30 rfl (lv_at hl 0 rfl) ?_
    refine k_get 2 X hk (wg_0 G _) rfl (hz_wsX50 _) (Nat.le_of_ble_eq_true rfl) (List.mem_cons_of_mem _ (aw_r2 _ (List.mem_of_getElem? (i := 0) rfl))) rfl dX5_feed_31 ?_
    refine lv_iload_n hx hb dX5_feed_34 rfl (lv_at hl 3 rfl) ?_
    refine k_callVv (rest := []) X hk (c_X2_append l G _ _ _ hw) (cwV 1 X.1.2.2.2.2 (gzV (aw_r5 _ (List.mem_of_getElem? (i := 19) rfl)) (aw_r5 _ (List.mem_of_getElem? (i := 20) rfl)) (aw_r5 _ (List.mem_of_getElem? (i := 21) rfl)) (aw_r1 _ (List.mem_of_getElem? (i := 23) rfl)) (aw_r5 _ (List.mem_of_getElem? (i := 22) rfl))) rfl rfl rfl hd_X2_append ⟨(Nat.le_of_ble_eq_true rfl), (Nat.le_of_ble_eq_true rfl)⟩) (wg_3 G _) rfl rfl hl.1 rfl (Nat.le_of_ble_eq_true rfl) dX5_feed_35 ⟨Nat.zero_le _, Nat.zero_le _⟩ (fun σ8 H locs hw hk => ?_)
    refine lv_aload_n hx hb dX5_feed_38 rfl (lv_at hl 0 rfl) ?_
    refine k_get 2 X hk (wg_0 G _) rfl (hz_wsX50 _) (Nat.le_of_ble_eq_true rfl) (List.mem_cons_of_mem _ (aw_r2 _ (List.mem_of_getElem? (i := 0) rfl))) rfl dX5_feed_39 ?_
    refine lv_iload hx hb dX5_feed_42 (lv_at hl 4 rfl) ?_
    refine k_callVv (rest := []) X hk (c_X2_append l G _ _ _ hw) (cwV 1 X.1.2.2.2.2 (gzV (aw_r5 _ (List.mem_of_getElem? (i := 19) rfl)) (aw_r5 _ (List.mem_of_getElem? (i := 20) rfl)) (aw_r5 _ (List.mem_of_getElem? (i := 21) rfl)) (aw_r1 _ (List.mem_of_getElem? (i := 23) rfl)) (aw_r5 _ (List.mem_of_getElem? (i := 22) rfl))) rfl rfl rfl hd_X2_append ⟨(Nat.le_of_ble_eq_true rfl), (Nat.le_of_ble_eq_true rfl)⟩) (wg_3 G _) rfl rfl hl.1 rfl (Nat.le_of_ble_eq_true rfl) dX5_feed_44 ⟨Nat.zero_le _, Nat.zero_le _⟩ (fun σ10 H locs hw hk => ?_)
    refine lv_aload_n hx hb dX5_feed_47 rfl (lv_at hl 0 rfl) ?_
    refine k_get 2 X hk (wg_0 G _) rfl (hz_wsX50 _) (Nat.le_of_ble_eq_true rfl) (List.mem_cons_of_mem _ (aw_r2 _ (List.mem_of_getElem? (i := 0) rfl))) rfl dX5_feed_48 ?_
    refine lv_iload hx hb dX5_feed_51 (lv_at hl 5 rfl) ?_
    refine k_callVv (rest := []) X hk (c_X2_append l G _ _ _ hw) (cwV 1 X.1.2.2.2.2 (gzV (aw_r5 _ (List.mem_of_getElem? (i := 19) rfl)) (aw_r5 _ (List.mem_of_getElem? (i := 20) rfl)) (aw_r5 _ (List.mem_of_getElem? (i := 21) rfl)) (aw_r1 _ (List.mem_of_getElem? (i := 23) rfl)) (aw_r5 _ (List.mem_of_getElem? (i := 22) rfl))) rfl rfl rfl hd_X2_append ⟨(Nat.le_of_ble_eq_true rfl), (Nat.le_of_ble_eq_true rfl)⟩) (wg_3 G _) rfl rfl hl.1 rfl (Nat.le_of_ble_eq_true rfl) dX5_feed_53 ⟨Nat.zero_le _, Nat.zero_le _⟩ (fun σ12 H locs hw hk => ?_)
    refine lv_aload_n hx hb dX5_feed_56 rfl (lv_at hl 0 rfl) ?_
    refine k_get 2 X hk (wg_0 G _) rfl (hz_wsX50 _) (Nat.le_of_ble_eq_true rfl) (List.mem_cons_of_mem _ (aw_r2 _ (List.mem_of_getElem? (i := 0) rfl))) rfl dX5_feed_57 ?_
    refine k_get 0 X hk (wg_3 G _) rfl (hz_wsX20 _) (Nat.le_of_ble_eq_true rfl) (List.mem_cons_of_mem _ (aw_r5 _ (List.mem_of_getElem? (i := 13) rfl))) rfl dX5_feed_60 ?_
    exact k_iret X hk hw dX5_feed_63
  · replace hw := hw.1 c3
    refine lv_iconst (v := (-1 : Int32)) hx hb dX5_feed_12 (by decide) ?_
    exact k_iret X hk hw dX5_feed_13
def rm_X5_end : Room := { frames := 0, cells := 0, slots := 0, locals := 0 }
abbrev wz_X5_end : List Cond := Cond.code yX5_end cX5_end 2 (some .boolean) :: wsA
theorem hd_X5_end : yX5_end.cls = RX5 ∧ yX5_end.cls ≠ "java/lang/invoke/MethodHandle" ∧ yX5_end.cls ≠ "java/lang/invoke/VarHandle" ∧ (parseMethodDescriptor yX5_end.desc).map (fun d => d.parameters.length) = some 1 := by decide +kernel
def wp_X5_end (σ : Sg) (p1 : Int32) (Q : Int32 → Sg → Prop) : Prop := (p1 < 0 → (bz (0 : Int32) ∧ Q (0 : Int32) σ)) ∧ (¬ (p1 < 0) → ((p1 ≤ (σ 3 0) → (∀ σ3 : Sg, σ3 = (put σ 3 0 p1) → (bz (1 : Int32) ∧ Q (1 : Int32) σ3))) ∧ (¬ (p1 ≤ (σ 3 0)) → (bz (0 : Int32) ∧ Q (0 : Int32) σ))))
set_option maxHeartbeats 4000000 in
set_option maxRecDepth 100000 in
theorem c_X5_end (l : Launch) (G : Gw) (σ : Sg) (p1 : Int32) (Q : Int32 → Sg → Prop) (hw : wp_X5_end σ p1 Q) : MetI l yX5_end wz_X5_end rm_X5_end G σ [.ref (G.1 0), .int p1] Q := by
  refine MetI.of cX5_end 2 (some .boolean) (by decide) rfl (Nat.le_of_ble_eq_true rfl) ?_
  intro p e s m below meth c X hk ls hl
  have X : KC p m meth c cX5_end 2 s _ wz_X5_end RX5 (some .boolean) G := X
  have hl : lv_has ls 2 [(0, .ref (G.1 0)), (1, .int p1)] := hl
  unfold wp_X5_end at hw
  have hx := X.1.1
  have hb := X.1.2.1
  refine lv_iload_n hx hb dX5_end_0 rfl (lv_at hl 1 rfl) ?_
  refine lv_if_lt (tgt := 15) hx hb dX5_end_1 (by decide) (fun c1 => ?_) (fun c1 => ?_)
  · replace hw := hw.1 c1
    refine lv_iconst (v := (0 : Int32)) hx hb dX5_end_15 (by decide) ?_
    exact k_zret X hk hw dX5_end_16
  · replace hw := hw.2 c1
    refine lv_iload_n hx hb dX5_end_4 rfl (lv_at hl 1 rfl) ?_
    refine lv_aload_n hx hb dX5_end_5 rfl (lv_at hl 0 rfl) ?_
    refine k_get 2 X hk (wg_0 G _) rfl (hz_wsX50 _) (Nat.le_of_ble_eq_true rfl) (List.mem_cons_of_mem _ (aw_r2 _ (List.mem_of_getElem? (i := 0) rfl))) rfl dX5_end_6 ?_
    refine k_get 0 X hk (wg_3 G _) rfl (hz_wsX20 _) (Nat.le_of_ble_eq_true rfl) (List.mem_cons_of_mem _ (aw_r5 _ (List.mem_of_getElem? (i := 13) rfl))) rfl dX5_end_9 ?_
    refine lv_icmp_le (tgt := 17) hx hb dX5_end_12 (by decide) (fun c2 => ?_) (fun c2 => ?_)
    · replace hw := hw.1 c2
      refine lv_aload_n hx hb dX5_end_17 rfl (lv_at hl 0 rfl) ?_
      refine k_get 2 X hk (wg_0 G _) rfl (hz_wsX50 _) (Nat.le_of_ble_eq_true rfl) (List.mem_cons_of_mem _ (aw_r2 _ (List.mem_of_getElem? (i := 0) rfl))) rfl dX5_end_18 ?_
      refine lv_iload_n hx hb dX5_end_21 rfl (lv_at hl 1 rfl) ?_
      refine k_put 0 X hk (wg_3 G _) rfl (hz_wsX20 _) tyX2_ok nmX2 (Nat.le_of_ble_eq_true rfl) (List.mem_cons_of_mem _ (aw_r5 _ (List.mem_of_getElem? (i := 13) rfl))) rfl rfl (Nat.le_of_ble_eq_true rfl) (ws_3_0 G _ _) dX5_end_22 (fun H locs hk => ?_)
      obtain ⟨σ3, eσ3⟩ : ∃ y : Sg, y = (put σ 3 0 p1) := ⟨_, rfl⟩
      rw [← eσ3] at hk
      replace hw := hw σ3 eσ3
      refine lv_iconst (v := (1 : Int32)) hx hb dX5_end_25 (by decide) ?_
      exact k_zret X hk hw dX5_end_26
    · replace hw := hw.2 c2
      refine lv_iconst (v := (0 : Int32)) hx hb dX5_end_15 (by decide) ?_
      exact k_zret X hk hw dX5_end_16
def rm_X5_tell : Room := { frames := 9, cells := 0, slots := 0, locals := 195 }
abbrev wz_X5_tell : List Cond := Cond.code yX5_tell cX5_tell 1 (some .int) :: wsA
theorem hd_X5_tell : yX5_tell.cls = RX5 ∧ yX5_tell.cls ≠ "java/lang/invoke/MethodHandle" ∧ yX5_tell.cls ≠ "java/lang/invoke/VarHandle" ∧ (parseMethodDescriptor yX5_tell.desc).map (fun d => d.parameters.length) = some 0 := by decide +kernel
def wp_X5_tell (σ : Sg) (Q : Int32 → Sg → Prop) : Prop := wp_X2_readAll σ  (fun r2 σ1 => Q r2 σ1)
set_option maxHeartbeats 4000000 in
set_option maxRecDepth 100000 in
theorem c_X5_tell (l : Launch) (G : Gw) (σ : Sg) (Q : Int32 → Sg → Prop) (hw : wp_X5_tell σ  Q) : MetI l yX5_tell wz_X5_tell rm_X5_tell G σ [.ref (G.1 0)] Q := by
  refine MetI.of cX5_tell 1 (some .int) (by decide) rfl (Nat.le_of_ble_eq_true rfl) ?_
  intro p e s m below meth c X hk ls hl
  have X : KC p m meth c cX5_tell 1 s _ wz_X5_tell RX5 (some .int) G := X
  have hl : lv_has ls 1 [(0, .ref (G.1 0))] := hl
  unfold wp_X5_tell at hw
  have hx := X.1.1
  have hb := X.1.2.1
  refine lv_aload_n hx hb dX5_tell_0 rfl (lv_at hl 0 rfl) ?_
  refine k_get 2 X hk (wg_0 G _) rfl (hz_wsX50 _) (Nat.le_of_ble_eq_true rfl) (List.mem_cons_of_mem _ (aw_r2 _ (List.mem_of_getElem? (i := 0) rfl))) rfl dX5_tell_1 ?_
  refine k_callVi (rest := []) X hk (c_X2_readAll l G _  _ hw) (cwV 0 X.1.2.2.2.2 (gzV (aw_r7 _ (List.mem_of_getElem? (i := 0) rfl)) (aw_r7 _ (List.mem_of_getElem? (i := 1) rfl)) (aw_r7 _ (List.mem_of_getElem? (i := 2) rfl)) (aw_r1 _ (List.mem_of_getElem? (i := 23) rfl)) (aw_r7 _ (List.mem_of_getElem? (i := 3) rfl))) rfl rfl rfl hd_X2_readAll ⟨(Nat.le_of_ble_eq_true rfl), (Nat.le_of_ble_eq_true rfl)⟩) (wg_3 G _) rfl rfl hl.1 rfl (Nat.le_of_ble_eq_true rfl) dX5_tell_4 ⟨Nat.zero_le _, Nat.zero_le _⟩ (fun r2 σ1 H locs hw hk => ?_)
  exact k_iret X hk hw dX5_tell_7
def rm_X5_fault : Room := { frames := 0, cells := 0, slots := 0, locals := 0 }
abbrev wz_X5_fault : List Cond := Cond.code yX5_fault cX5_fault 1 (some .int) :: wsA
theorem hd_X5_fault : yX5_fault.cls = RX5 ∧ yX5_fault.cls ≠ "java/lang/invoke/MethodHandle" ∧ yX5_fault.cls ≠ "java/lang/invoke/VarHandle" ∧ (parseMethodDescriptor yX5_fault.desc).map (fun d => d.parameters.length) = some 0 := by decide +kernel
def wp_X5_fault (σ : Sg) (Q : Int32 → Sg → Prop) : Prop := Q (σ 3 1) σ
set_option maxHeartbeats 4000000 in
set_option maxRecDepth 100000 in
theorem c_X5_fault (l : Launch) (G : Gw) (σ : Sg) (Q : Int32 → Sg → Prop) (hw : wp_X5_fault σ  Q) : MetI l yX5_fault wz_X5_fault rm_X5_fault G σ [.ref (G.1 0)] Q := by
  refine MetI.of cX5_fault 1 (some .int) (by decide) rfl (Nat.le_of_ble_eq_true rfl) ?_
  intro p e s m below meth c X hk ls hl
  have X : KC p m meth c cX5_fault 1 s _ wz_X5_fault RX5 (some .int) G := X
  have hl : lv_has ls 1 [(0, .ref (G.1 0))] := hl
  unfold wp_X5_fault at hw
  have hx := X.1.1
  have hb := X.1.2.1
  refine lv_aload_n hx hb dX5_fault_0 rfl (lv_at hl 0 rfl) ?_
  refine k_get 2 X hk (wg_0 G _) rfl (hz_wsX50 _) (Nat.le_of_ble_eq_true rfl) (List.mem_cons_of_mem _ (aw_r2 _ (List.mem_of_getElem? (i := 0) rfl))) rfl dX5_fault_1 ?_
  refine k_get 1 X hk (wg_3 G _) rfl (hz_wsX20 _) (Nat.le_of_ble_eq_true rfl) (List.mem_cons_of_mem _ (aw_r18 _ (List.mem_of_getElem? (i := 18) rfl))) rfl dX5_fault_4 ?_
  exact k_iret X hk hw dX5_fault_7
def rm_X5_place : Room := { frames := 2, cells := 0, slots := 0, locals := 47 }
abbrev wz_X5_place : List Cond := Cond.code yX5_place cX5_place 5 (some .int) :: wsA
theorem hd_X5_place : yX5_place.cls = RX5 ∧ yX5_place.cls ≠ "java/lang/invoke/MethodHandle" ∧ yX5_place.cls ≠ "java/lang/invoke/VarHandle" ∧ (parseMethodDescriptor yX5_place.desc).map (fun d => d.parameters.length) = some 4 := by decide +kernel
def wp_X5_place (σ : Sg) (p1 p2 p3 p4 : Int32) (Q : Int32 → Sg → Prop) : Prop := wp_X3_factFits σ (0 : Int32) p1 (fun r2 σ1 => (r2 = 0 → (Q (-1 : Int32) σ1)) ∧ (¬ (r2 = 0) → (wp_X3_factFits σ1 (1 : Int32) p2 (fun r5 σ4 => (r5 = 0 → (Q (-1 : Int32) σ4)) ∧ (¬ (r5 = 0) → (wp_X3_factFits σ4 (2 : Int32) p3 (fun r8 σ7 => (r8 = 0 → (Q (-1 : Int32) σ7)) ∧ (¬ (r8 = 0) → (wp_X3_factFits σ7 (3 : Int32) p4 (fun r11 σ10 => (r11 = 0 → (Q (-1 : Int32) σ10)) ∧ (¬ (r11 = 0) → (((σ10 1 0) < (8 : Int32) → (wp_X3_addPlace σ10 p1 p2 p3 p4 (fun r15 σ14 => Q r15 σ14))) ∧ (¬ ((σ10 1 0) < (8 : Int32)) → (Q (-2 : Int32) σ10))))))))))))))
set_option maxHeartbeats 4000000 in
set_option maxRecDepth 100000 in
theorem c_X5_place (l : Launch) (G : Gw) (σ : Sg) (p1 p2 p3 p4 : Int32) (Q : Int32 → Sg → Prop) (hw : wp_X5_place σ p1 p2 p3 p4 Q) : MetI l yX5_place wz_X5_place rm_X5_place G σ [.ref (G.1 0), .int p1, .int p2, .int p3, .int p4] Q := by
  refine MetI.of cX5_place 5 (some .int) (by decide) rfl (Nat.le_of_ble_eq_true rfl) ?_
  intro p e s m below meth c X hk ls hl
  have X : KC p m meth c cX5_place 5 s _ wz_X5_place RX5 (some .int) G := X
  have hl : lv_has ls 5 [(0, .ref (G.1 0)), (1, .int p1), (2, .int p2), (3, .int p3), (4, .int p4)] := hl
  unfold wp_X5_place at hw
  have hx := X.1.1
  have hb := X.1.2.1
  refine lv_aload_n hx hb dX5_place_0 rfl (lv_at hl 0 rfl) ?_
  refine k_get 0 X hk (wg_0 G _) rfl (hz_wsX50 _) (Nat.le_of_ble_eq_true rfl) (List.mem_cons_of_mem _ (aw_r1 _ (List.mem_of_getElem? (i := 16) rfl))) rfl dX5_place_1 ?_
  refine lv_iconst (v := (0 : Int32)) hx hb dX5_place_4 (by decide) ?_
  refine lv_iload_n hx hb dX5_place_5 rfl (lv_at hl 1 rfl) ?_
  refine k_callVi (rest := []) X hk (c_X3_factFits l G _ _ _ _ hw) (cwV 2 X.1.2.2.2.2 (gzV (aw_r19 _ (List.mem_of_getElem? (i := 4) rfl)) (aw_r12 _ (List.mem_of_getElem? (i := 3) rfl)) (aw_r12 _ (List.mem_of_getElem? (i := 4) rfl)) (aw_r1 _ (List.mem_of_getElem? (i := 15) rfl)) (aw_r12 _ (List.mem_of_getElem? (i := 5) rfl))) rfl rfl rfl hd_X3_factFits ⟨(Nat.le_of_ble_eq_true rfl), (Nat.le_of_ble_eq_true rfl)⟩) (wg_1 G _) rfl rfl hl.1 rfl (Nat.le_of_ble_eq_true rfl) dX5_place_6 ⟨Nat.zero_le _, Nat.zero_le _⟩ (fun r2 σ1 H locs hw hk => ?_)
  refine lv_if_eq (tgt := 49) hx hb dX5_place_9 (by decide) (fun c3 => ?_) (fun c3 => ?_)
  · replace hw := hw.1 c3
    refine lv_iconst (v := (-1 : Int32)) hx hb dX5_place_49 (by decide) ?_
    exact k_iret X hk hw dX5_place_50
  · replace hw := hw.2 c3
    refine lv_aload_n hx hb dX5_place_12 rfl (lv_at hl 0 rfl) ?_
    refine k_get 0 X hk (wg_0 G _) rfl (hz_wsX50 _) (Nat.le_of_ble_eq_true rfl) (List.mem_cons_of_mem _ (aw_r1 _ (List.mem_of_getElem? (i := 16) rfl))) rfl dX5_place_13 ?_
    refine lv_iconst (v := (1 : Int32)) hx hb dX5_place_16 (by decide) ?_
    refine lv_iload_n hx hb dX5_place_17 rfl (lv_at hl 2 rfl) ?_
    refine k_callVi (rest := []) X hk (c_X3_factFits l G _ _ _ _ hw) (cwV 2 X.1.2.2.2.2 (gzV (aw_r19 _ (List.mem_of_getElem? (i := 4) rfl)) (aw_r12 _ (List.mem_of_getElem? (i := 3) rfl)) (aw_r12 _ (List.mem_of_getElem? (i := 4) rfl)) (aw_r1 _ (List.mem_of_getElem? (i := 15) rfl)) (aw_r12 _ (List.mem_of_getElem? (i := 5) rfl))) rfl rfl rfl hd_X3_factFits ⟨(Nat.le_of_ble_eq_true rfl), (Nat.le_of_ble_eq_true rfl)⟩) (wg_1 G _) rfl rfl hl.1 rfl (Nat.le_of_ble_eq_true rfl) dX5_place_18 ⟨Nat.zero_le _, Nat.zero_le _⟩ (fun r5 σ4 H locs hw hk => ?_)
    refine lv_if_eq (tgt := 49) hx hb dX5_place_21 (by decide) (fun c6 => ?_) (fun c6 => ?_)
    · replace hw := hw.1 c6
      refine lv_iconst (v := (-1 : Int32)) hx hb dX5_place_49 (by decide) ?_
      exact k_iret X hk hw dX5_place_50
    · replace hw := hw.2 c6
      refine lv_aload_n hx hb dX5_place_24 rfl (lv_at hl 0 rfl) ?_
      refine k_get 0 X hk (wg_0 G _) rfl (hz_wsX50 _) (Nat.le_of_ble_eq_true rfl) (List.mem_cons_of_mem _ (aw_r1 _ (List.mem_of_getElem? (i := 16) rfl))) rfl dX5_place_25 ?_
      refine lv_iconst (v := (2 : Int32)) hx hb dX5_place_28 (by decide) ?_
      refine lv_iload_n hx hb dX5_place_29 rfl (lv_at hl 3 rfl) ?_
      refine k_callVi (rest := []) X hk (c_X3_factFits l G _ _ _ _ hw) (cwV 2 X.1.2.2.2.2 (gzV (aw_r19 _ (List.mem_of_getElem? (i := 4) rfl)) (aw_r12 _ (List.mem_of_getElem? (i := 3) rfl)) (aw_r12 _ (List.mem_of_getElem? (i := 4) rfl)) (aw_r1 _ (List.mem_of_getElem? (i := 15) rfl)) (aw_r12 _ (List.mem_of_getElem? (i := 5) rfl))) rfl rfl rfl hd_X3_factFits ⟨(Nat.le_of_ble_eq_true rfl), (Nat.le_of_ble_eq_true rfl)⟩) (wg_1 G _) rfl rfl hl.1 rfl (Nat.le_of_ble_eq_true rfl) dX5_place_30 ⟨Nat.zero_le _, Nat.zero_le _⟩ (fun r8 σ7 H locs hw hk => ?_)
      refine lv_if_eq (tgt := 49) hx hb dX5_place_33 (by decide) (fun c9 => ?_) (fun c9 => ?_)
      · replace hw := hw.1 c9
        refine lv_iconst (v := (-1 : Int32)) hx hb dX5_place_49 (by decide) ?_
        exact k_iret X hk hw dX5_place_50
      · replace hw := hw.2 c9
        refine lv_aload_n hx hb dX5_place_36 rfl (lv_at hl 0 rfl) ?_
        refine k_get 0 X hk (wg_0 G _) rfl (hz_wsX50 _) (Nat.le_of_ble_eq_true rfl) (List.mem_cons_of_mem _ (aw_r1 _ (List.mem_of_getElem? (i := 16) rfl))) rfl dX5_place_37 ?_
        refine lv_iconst (v := (3 : Int32)) hx hb dX5_place_40 (by decide) ?_
        refine lv_iload hx hb dX5_place_41 (lv_at hl 4 rfl) ?_
        refine k_callVi (rest := []) X hk (c_X3_factFits l G _ _ _ _ hw) (cwV 2 X.1.2.2.2.2 (gzV (aw_r19 _ (List.mem_of_getElem? (i := 4) rfl)) (aw_r12 _ (List.mem_of_getElem? (i := 3) rfl)) (aw_r12 _ (List.mem_of_getElem? (i := 4) rfl)) (aw_r1 _ (List.mem_of_getElem? (i := 15) rfl)) (aw_r12 _ (List.mem_of_getElem? (i := 5) rfl))) rfl rfl rfl hd_X3_factFits ⟨(Nat.le_of_ble_eq_true rfl), (Nat.le_of_ble_eq_true rfl)⟩) (wg_1 G _) rfl rfl hl.1 rfl (Nat.le_of_ble_eq_true rfl) dX5_place_43 ⟨Nat.zero_le _, Nat.zero_le _⟩ (fun r11 σ10 H locs hw hk => ?_)
        refine lv_if_ne (tgt := 51) hx hb dX5_place_46 (by decide) (fun c12 => ?_) (fun c12 => ?_)
        · replace hw := hw.2 c12
          refine lv_aload_n hx hb dX5_place_51 rfl (lv_at hl 0 rfl) ?_
          refine k_get 0 X hk (wg_0 G _) rfl (hz_wsX50 _) (Nat.le_of_ble_eq_true rfl) (List.mem_cons_of_mem _ (aw_r1 _ (List.mem_of_getElem? (i := 16) rfl))) rfl dX5_place_52 ?_
          refine k_get 0 X hk (wg_1 G _) rfl (hz_wsX30 _) (Nat.le_of_ble_eq_true rfl) (List.mem_cons_of_mem _ (aw_r19 _ (List.mem_of_getElem? (i := 3) rfl))) rfl dX5_place_55 ?_
          refine lv_bipush (v := (8 : Int32)) hx hb dX5_place_58 (by decide) ?_
          refine lv_icmp_lt (tgt := 66) hx hb dX5_place_60 (by decide) (fun c13 => ?_) (fun c13 => ?_)
          · replace hw := hw.1 c13
            refine lv_aload_n hx hb dX5_place_66 rfl (lv_at hl 0 rfl) ?_
            refine k_get 0 X hk (wg_0 G _) rfl (hz_wsX50 _) (Nat.le_of_ble_eq_true rfl) (List.mem_cons_of_mem _ (aw_r1 _ (List.mem_of_getElem? (i := 16) rfl))) rfl dX5_place_67 ?_
            refine lv_iload_n hx hb dX5_place_70 rfl (lv_at hl 1 rfl) ?_
            refine lv_iload_n hx hb dX5_place_71 rfl (lv_at hl 2 rfl) ?_
            refine lv_iload_n hx hb dX5_place_72 rfl (lv_at hl 3 rfl) ?_
            refine lv_iload hx hb dX5_place_73 (lv_at hl 4 rfl) ?_
            refine k_callVi (rest := []) X hk (c_X3_addPlace l G _ _ _ _ _ _ hw) (cwV 4 X.1.2.2.2.2 (gzV (aw_r19 _ (List.mem_of_getElem? (i := 5) rfl)) (aw_r13 _ (List.mem_of_getElem? (i := 11) rfl)) (aw_r13 _ (List.mem_of_getElem? (i := 12) rfl)) (aw_r1 _ (List.mem_of_getElem? (i := 15) rfl)) (aw_r13 _ (List.mem_of_getElem? (i := 13) rfl))) rfl rfl rfl hd_X3_addPlace ⟨(Nat.le_of_ble_eq_true rfl), (Nat.le_of_ble_eq_true rfl)⟩) (wg_1 G _) rfl rfl hl.1 rfl (Nat.le_of_ble_eq_true rfl) dX5_place_75 ⟨Nat.zero_le _, Nat.zero_le _⟩ (fun r15 σ14 H locs hw hk => ?_)
            exact k_iret X hk hw dX5_place_78
          · replace hw := hw.2 c13
            refine lv_bipush (v := (-2 : Int32)) hx hb dX5_place_63 (by decide) ?_
            exact k_iret X hk hw dX5_place_65
        · replace hw := hw.1 c12
          refine lv_iconst (v := (-1 : Int32)) hx hb dX5_place_49 (by decide) ?_
          exact k_iret X hk hw dX5_place_50
def rm_X5_road : Room := { frames := 2, cells := 0, slots := 0, locals := 44 }
abbrev wz_X5_road : List Cond := Cond.code yX5_road cX5_road 6 (some .int) :: wsA
theorem hd_X5_road : yX5_road.cls = RX5 ∧ yX5_road.cls ≠ "java/lang/invoke/MethodHandle" ∧ yX5_road.cls ≠ "java/lang/invoke/VarHandle" ∧ (parseMethodDescriptor yX5_road.desc).map (fun d => d.parameters.length) = some 5 := by decide +kernel
def wp_X5_road (σ : Sg) (p1 p2 p3 p4 p5 : Int32) (Q : Int32 → Sg → Prop) : Prop := wp_X3_roadFits σ (0 : Int32) p1 (0 : Int32) (fun r2 σ1 => (r2 = 0 → (Q (-1 : Int32) σ1)) ∧ (¬ (r2 = 0) → (wp_X3_roadFits σ1 (1 : Int32) p2 p1 (fun r5 σ4 => (r5 = 0 → (Q (-1 : Int32) σ4)) ∧ (¬ (r5 = 0) → (wp_X3_roadFits σ4 (2 : Int32) p3 p2 (fun r8 σ7 => (r8 = 0 → (Q (-1 : Int32) σ7)) ∧ (¬ (r8 = 0) → (wp_X3_roadFits σ7 (3 : Int32) p4 p3 (fun r11 σ10 => (r11 = 0 → (Q (-1 : Int32) σ10)) ∧ (¬ (r11 = 0) → (wp_X3_roadFits σ10 (4 : Int32) p5 p4 (fun r14 σ13 => (r14 = 0 → (Q (-1 : Int32) σ13)) ∧ (¬ (r14 = 0) → (((σ13 1 1) < (12 : Int32) → (wp_X3_addRoad σ13 p1 p2 p3 p4 p5 (fun r18 σ17 => Q r18 σ17))) ∧ (¬ ((σ13 1 1) < (12 : Int32)) → (Q (-2 : Int32) σ13)))))))))))))))))
set_option maxHeartbeats 4000000 in
set_option maxRecDepth 100000 in
theorem c_X5_road (l : Launch) (G : Gw) (σ : Sg) (p1 p2 p3 p4 p5 : Int32) (Q : Int32 → Sg → Prop) (hw : wp_X5_road σ p1 p2 p3 p4 p5 Q) : MetI l yX5_road wz_X5_road rm_X5_road G σ [.ref (G.1 0), .int p1, .int p2, .int p3, .int p4, .int p5] Q := by
  refine MetI.of cX5_road 6 (some .int) (by decide) rfl (Nat.le_of_ble_eq_true rfl) ?_
  intro p e s m below meth c X hk ls hl
  have X : KC p m meth c cX5_road 6 s _ wz_X5_road RX5 (some .int) G := X
  have hl : lv_has ls 6 [(0, .ref (G.1 0)), (1, .int p1), (2, .int p2), (3, .int p3), (4, .int p4), (5, .int p5)] := hl
  unfold wp_X5_road at hw
  have hx := X.1.1
  have hb := X.1.2.1
  refine lv_aload_n hx hb dX5_road_0 rfl (lv_at hl 0 rfl) ?_
  refine k_get 0 X hk (wg_0 G _) rfl (hz_wsX50 _) (Nat.le_of_ble_eq_true rfl) (List.mem_cons_of_mem _ (aw_r1 _ (List.mem_of_getElem? (i := 16) rfl))) rfl dX5_road_1 ?_
  refine lv_iconst (v := (0 : Int32)) hx hb dX5_road_4 (by decide) ?_
  refine lv_iload_n hx hb dX5_road_5 rfl (lv_at hl 1 rfl) ?_
  refine lv_iconst (v := (0 : Int32)) hx hb dX5_road_6 (by decide) ?_
  refine k_callVi (rest := []) X hk (c_X3_roadFits l G _ _ _ _ _ hw) (cwV 3 X.1.2.2.2.2 (gzV (aw_r19 _ (List.mem_of_getElem? (i := 18) rfl)) (aw_r12 _ (List.mem_of_getElem? (i := 7) rfl)) (aw_r12 _ (List.mem_of_getElem? (i := 8) rfl)) (aw_r1 _ (List.mem_of_getElem? (i := 15) rfl)) (aw_r12 _ (List.mem_of_getElem? (i := 9) rfl))) rfl rfl rfl hd_X3_roadFits ⟨(Nat.le_of_ble_eq_true rfl), (Nat.le_of_ble_eq_true rfl)⟩) (wg_1 G _) rfl rfl hl.1 rfl (Nat.le_of_ble_eq_true rfl) dX5_road_7 ⟨Nat.zero_le _, Nat.zero_le _⟩ (fun r2 σ1 H locs hw hk => ?_)
  refine lv_if_eq (tgt := 68) hx hb dX5_road_10 (by decide) (fun c3 => ?_) (fun c3 => ?_)
  · replace hw := hw.1 c3
    refine lv_iconst (v := (-1 : Int32)) hx hb dX5_road_68 (by decide) ?_
    exact k_iret X hk hw dX5_road_69
  · replace hw := hw.2 c3
    refine lv_aload_n hx hb dX5_road_13 rfl (lv_at hl 0 rfl) ?_
    refine k_get 0 X hk (wg_0 G _) rfl (hz_wsX50 _) (Nat.le_of_ble_eq_true rfl) (List.mem_cons_of_mem _ (aw_r1 _ (List.mem_of_getElem? (i := 16) rfl))) rfl dX5_road_14 ?_
    refine lv_iconst (v := (1 : Int32)) hx hb dX5_road_17 (by decide) ?_
    refine lv_iload_n hx hb dX5_road_18 rfl (lv_at hl 2 rfl) ?_
    refine lv_iload_n hx hb dX5_road_19 rfl (lv_at hl 1 rfl) ?_
    refine k_callVi (rest := []) X hk (c_X3_roadFits l G _ _ _ _ _ hw) (cwV 3 X.1.2.2.2.2 (gzV (aw_r19 _ (List.mem_of_getElem? (i := 18) rfl)) (aw_r12 _ (List.mem_of_getElem? (i := 7) rfl)) (aw_r12 _ (List.mem_of_getElem? (i := 8) rfl)) (aw_r1 _ (List.mem_of_getElem? (i := 15) rfl)) (aw_r12 _ (List.mem_of_getElem? (i := 9) rfl))) rfl rfl rfl hd_X3_roadFits ⟨(Nat.le_of_ble_eq_true rfl), (Nat.le_of_ble_eq_true rfl)⟩) (wg_1 G _) rfl rfl hl.1 rfl (Nat.le_of_ble_eq_true rfl) dX5_road_20 ⟨Nat.zero_le _, Nat.zero_le _⟩ (fun r5 σ4 H locs hw hk => ?_)
    refine lv_if_eq (tgt := 68) hx hb dX5_road_23 (by decide) (fun c6 => ?_) (fun c6 => ?_)
    · replace hw := hw.1 c6
      refine lv_iconst (v := (-1 : Int32)) hx hb dX5_road_68 (by decide) ?_
      exact k_iret X hk hw dX5_road_69
    · replace hw := hw.2 c6
      refine lv_aload_n hx hb dX5_road_26 rfl (lv_at hl 0 rfl) ?_
      refine k_get 0 X hk (wg_0 G _) rfl (hz_wsX50 _) (Nat.le_of_ble_eq_true rfl) (List.mem_cons_of_mem _ (aw_r1 _ (List.mem_of_getElem? (i := 16) rfl))) rfl dX5_road_27 ?_
      refine lv_iconst (v := (2 : Int32)) hx hb dX5_road_30 (by decide) ?_
      refine lv_iload_n hx hb dX5_road_31 rfl (lv_at hl 3 rfl) ?_
      refine lv_iload_n hx hb dX5_road_32 rfl (lv_at hl 2 rfl) ?_
      refine k_callVi (rest := []) X hk (c_X3_roadFits l G _ _ _ _ _ hw) (cwV 3 X.1.2.2.2.2 (gzV (aw_r19 _ (List.mem_of_getElem? (i := 18) rfl)) (aw_r12 _ (List.mem_of_getElem? (i := 7) rfl)) (aw_r12 _ (List.mem_of_getElem? (i := 8) rfl)) (aw_r1 _ (List.mem_of_getElem? (i := 15) rfl)) (aw_r12 _ (List.mem_of_getElem? (i := 9) rfl))) rfl rfl rfl hd_X3_roadFits ⟨(Nat.le_of_ble_eq_true rfl), (Nat.le_of_ble_eq_true rfl)⟩) (wg_1 G _) rfl rfl hl.1 rfl (Nat.le_of_ble_eq_true rfl) dX5_road_33 ⟨Nat.zero_le _, Nat.zero_le _⟩ (fun r8 σ7 H locs hw hk => ?_)
      refine lv_if_eq (tgt := 68) hx hb dX5_road_36 (by decide) (fun c9 => ?_) (fun c9 => ?_)
      · replace hw := hw.1 c9
        refine lv_iconst (v := (-1 : Int32)) hx hb dX5_road_68 (by decide) ?_
        exact k_iret X hk hw dX5_road_69
      · replace hw := hw.2 c9
        refine lv_aload_n hx hb dX5_road_39 rfl (lv_at hl 0 rfl) ?_
        refine k_get 0 X hk (wg_0 G _) rfl (hz_wsX50 _) (Nat.le_of_ble_eq_true rfl) (List.mem_cons_of_mem _ (aw_r1 _ (List.mem_of_getElem? (i := 16) rfl))) rfl dX5_road_40 ?_
        refine lv_iconst (v := (3 : Int32)) hx hb dX5_road_43 (by decide) ?_
        refine lv_iload hx hb dX5_road_44 (lv_at hl 4 rfl) ?_
        refine lv_iload_n hx hb dX5_road_46 rfl (lv_at hl 3 rfl) ?_
        refine k_callVi (rest := []) X hk (c_X3_roadFits l G _ _ _ _ _ hw) (cwV 3 X.1.2.2.2.2 (gzV (aw_r19 _ (List.mem_of_getElem? (i := 18) rfl)) (aw_r12 _ (List.mem_of_getElem? (i := 7) rfl)) (aw_r12 _ (List.mem_of_getElem? (i := 8) rfl)) (aw_r1 _ (List.mem_of_getElem? (i := 15) rfl)) (aw_r12 _ (List.mem_of_getElem? (i := 9) rfl))) rfl rfl rfl hd_X3_roadFits ⟨(Nat.le_of_ble_eq_true rfl), (Nat.le_of_ble_eq_true rfl)⟩) (wg_1 G _) rfl rfl hl.1 rfl (Nat.le_of_ble_eq_true rfl) dX5_road_47 ⟨Nat.zero_le _, Nat.zero_le _⟩ (fun r11 σ10 H locs hw hk => ?_)
        refine lv_if_eq (tgt := 68) hx hb dX5_road_50 (by decide) (fun c12 => ?_) (fun c12 => ?_)
        · replace hw := hw.1 c12
          refine lv_iconst (v := (-1 : Int32)) hx hb dX5_road_68 (by decide) ?_
          exact k_iret X hk hw dX5_road_69
        · replace hw := hw.2 c12
          refine lv_aload_n hx hb dX5_road_53 rfl (lv_at hl 0 rfl) ?_
          refine k_get 0 X hk (wg_0 G _) rfl (hz_wsX50 _) (Nat.le_of_ble_eq_true rfl) (List.mem_cons_of_mem _ (aw_r1 _ (List.mem_of_getElem? (i := 16) rfl))) rfl dX5_road_54 ?_
          refine lv_iconst (v := (4 : Int32)) hx hb dX5_road_57 (by decide) ?_
          refine lv_iload hx hb dX5_road_58 (lv_at hl 5 rfl) ?_
          refine lv_iload hx hb dX5_road_60 (lv_at hl 4 rfl) ?_
          refine k_callVi (rest := []) X hk (c_X3_roadFits l G _ _ _ _ _ hw) (cwV 3 X.1.2.2.2.2 (gzV (aw_r19 _ (List.mem_of_getElem? (i := 18) rfl)) (aw_r12 _ (List.mem_of_getElem? (i := 7) rfl)) (aw_r12 _ (List.mem_of_getElem? (i := 8) rfl)) (aw_r1 _ (List.mem_of_getElem? (i := 15) rfl)) (aw_r12 _ (List.mem_of_getElem? (i := 9) rfl))) rfl rfl rfl hd_X3_roadFits ⟨(Nat.le_of_ble_eq_true rfl), (Nat.le_of_ble_eq_true rfl)⟩) (wg_1 G _) rfl rfl hl.1 rfl (Nat.le_of_ble_eq_true rfl) dX5_road_62 ⟨Nat.zero_le _, Nat.zero_le _⟩ (fun r14 σ13 H locs hw hk => ?_)
          refine lv_if_ne (tgt := 70) hx hb dX5_road_65 (by decide) (fun c15 => ?_) (fun c15 => ?_)
          · replace hw := hw.2 c15
            refine lv_aload_n hx hb dX5_road_70 rfl (lv_at hl 0 rfl) ?_
            refine k_get 0 X hk (wg_0 G _) rfl (hz_wsX50 _) (Nat.le_of_ble_eq_true rfl) (List.mem_cons_of_mem _ (aw_r1 _ (List.mem_of_getElem? (i := 16) rfl))) rfl dX5_road_71 ?_
            refine k_get 1 X hk (wg_1 G _) rfl (hz_wsX30 _) (Nat.le_of_ble_eq_true rfl) (List.mem_cons_of_mem _ (aw_r19 _ (List.mem_of_getElem? (i := 17) rfl))) rfl dX5_road_74 ?_
            refine lv_bipush (v := (12 : Int32)) hx hb dX5_road_77 (by decide) ?_
            refine lv_icmp_lt (tgt := 85) hx hb dX5_road_79 (by decide) (fun c16 => ?_) (fun c16 => ?_)
            · replace hw := hw.1 c16
              refine lv_aload_n hx hb dX5_road_85 rfl (lv_at hl 0 rfl) ?_
              refine k_get 0 X hk (wg_0 G _) rfl (hz_wsX50 _) (Nat.le_of_ble_eq_true rfl) (List.mem_cons_of_mem _ (aw_r1 _ (List.mem_of_getElem? (i := 16) rfl))) rfl dX5_road_86 ?_
              refine lv_iload_n hx hb dX5_road_89 rfl (lv_at hl 1 rfl) ?_
              refine lv_iload_n hx hb dX5_road_90 rfl (lv_at hl 2 rfl) ?_
              refine lv_iload_n hx hb dX5_road_91 rfl (lv_at hl 3 rfl) ?_
              refine lv_iload hx hb dX5_road_92 (lv_at hl 4 rfl) ?_
              refine lv_iload hx hb dX5_road_94 (lv_at hl 5 rfl) ?_
              refine k_callVi (rest := []) X hk (c_X3_addRoad l G _ _ _ _ _ _ _ hw) (cwV 5 X.1.2.2.2.2 (gzV (aw_r19 _ (List.mem_of_getElem? (i := 19) rfl)) (aw_r13 _ (List.mem_of_getElem? (i := 19) rfl)) (aw_r13 _ (List.mem_of_getElem? (i := 20) rfl)) (aw_r1 _ (List.mem_of_getElem? (i := 15) rfl)) (aw_r13 _ (List.mem_of_getElem? (i := 21) rfl))) rfl rfl rfl hd_X3_addRoad ⟨(Nat.le_of_ble_eq_true rfl), (Nat.le_of_ble_eq_true rfl)⟩) (wg_1 G _) rfl rfl hl.1 rfl (Nat.le_of_ble_eq_true rfl) dX5_road_96 ⟨Nat.zero_le _, Nat.zero_le _⟩ (fun r18 σ17 H locs hw hk => ?_)
              exact k_iret X hk hw dX5_road_99
            · replace hw := hw.2 c16
              refine lv_bipush (v := (-2 : Int32)) hx hb dX5_road_82 (by decide) ?_
              exact k_iret X hk hw dX5_road_84
          · replace hw := hw.1 c15
            refine lv_iconst (v := (-1 : Int32)) hx hb dX5_road_68 (by decide) ?_
            exact k_iret X hk hw dX5_road_69
def rm_X5_turn : Room := { frames := 2, cells := 0, slots := 0, locals := 43 }
abbrev wz_X5_turn : List Cond := Cond.code yX5_turn cX5_turn 3 (some .boolean) :: wsA
theorem hd_X5_turn : yX5_turn.cls = RX5 ∧ yX5_turn.cls ≠ "java/lang/invoke/MethodHandle" ∧ yX5_turn.cls ≠ "java/lang/invoke/VarHandle" ∧ (parseMethodDescriptor yX5_turn.desc).map (fun d => d.parameters.length) = some 2 := by decide +kernel
def wp_X5_turn (σ : Sg) (p1 p2 : Int32) (Q : Int32 → Sg → Prop) : Prop := wp_X3_turnFits σ p1 p2 (fun r2 σ1 => (r2 = 0 → (bz (0 : Int32) ∧ Q (0 : Int32) σ1)) ∧ (¬ (r2 = 0) → (wp_X3_shiftLanes σ1 p1 p2 (fun σ4 => bz (1 : Int32) ∧ Q (1 : Int32) σ4))))
set_option maxHeartbeats 4000000 in
set_option maxRecDepth 100000 in
theorem c_X5_turn (l : Launch) (G : Gw) (σ : Sg) (p1 p2 : Int32) (Q : Int32 → Sg → Prop) (hw : wp_X5_turn σ p1 p2 Q) : MetI l yX5_turn wz_X5_turn rm_X5_turn G σ [.ref (G.1 0), .int p1, .int p2] Q := by
  refine MetI.of cX5_turn 3 (some .boolean) (by decide) rfl (Nat.le_of_ble_eq_true rfl) ?_
  intro p e s m below meth c X hk ls hl
  have X : KC p m meth c cX5_turn 3 s _ wz_X5_turn RX5 (some .boolean) G := X
  have hl : lv_has ls 3 [(0, .ref (G.1 0)), (1, .int p1), (2, .int p2)] := hl
  unfold wp_X5_turn at hw
  have hx := X.1.1
  have hb := X.1.2.1
  refine lv_aload_n hx hb dX5_turn_0 rfl (lv_at hl 0 rfl) ?_
  refine k_get 0 X hk (wg_0 G _) rfl (hz_wsX50 _) (Nat.le_of_ble_eq_true rfl) (List.mem_cons_of_mem _ (aw_r1 _ (List.mem_of_getElem? (i := 16) rfl))) rfl dX5_turn_1 ?_
  refine lv_iload_n hx hb dX5_turn_4 rfl (lv_at hl 1 rfl) ?_
  refine lv_iload_n hx hb dX5_turn_5 rfl (lv_at hl 2 rfl) ?_
  refine k_callVi (rest := []) X hk (c_X3_turnFits l G _ _ _ _ hw) (cwV 2 X.1.2.2.2.2 (gzV (aw_r20 _ (List.mem_of_getElem? (i := 8) rfl)) (aw_r12 _ (List.mem_of_getElem? (i := 21) rfl)) (aw_r12 _ (List.mem_of_getElem? (i := 22) rfl)) (aw_r1 _ (List.mem_of_getElem? (i := 15) rfl)) (aw_r12 _ (List.mem_of_getElem? (i := 23) rfl))) rfl rfl rfl hd_X3_turnFits ⟨(Nat.le_of_ble_eq_true rfl), (Nat.le_of_ble_eq_true rfl)⟩) (wg_1 G _) rfl rfl hl.1 rfl (Nat.le_of_ble_eq_true rfl) dX5_turn_6 ⟨Nat.zero_le _, Nat.zero_le _⟩ (fun r2 σ1 H locs hw hk => ?_)
  refine lv_if_ne (tgt := 14) hx hb dX5_turn_9 (by decide) (fun c3 => ?_) (fun c3 => ?_)
  · replace hw := hw.2 c3
    refine lv_aload_n hx hb dX5_turn_14 rfl (lv_at hl 0 rfl) ?_
    refine k_get 0 X hk (wg_0 G _) rfl (hz_wsX50 _) (Nat.le_of_ble_eq_true rfl) (List.mem_cons_of_mem _ (aw_r1 _ (List.mem_of_getElem? (i := 16) rfl))) rfl dX5_turn_15 ?_
    refine lv_iload_n hx hb dX5_turn_18 rfl (lv_at hl 1 rfl) ?_
    refine lv_iload_n hx hb dX5_turn_19 rfl (lv_at hl 2 rfl) ?_
    refine k_callVv (rest := []) X hk (c_X3_shiftLanes l G _ _ _ _ hw) (cwV 2 X.1.2.2.2.2 (gzV (aw_r20 _ (List.mem_of_getElem? (i := 9) rfl)) (aw_r13 _ (List.mem_of_getElem? (i := 23) rfl)) (aw_r14 _ (List.mem_of_getElem? (i := 0) rfl)) (aw_r1 _ (List.mem_of_getElem? (i := 15) rfl)) (aw_r14 _ (List.mem_of_getElem? (i := 1) rfl))) rfl rfl rfl hd_X3_shiftLanes ⟨(Nat.le_of_ble_eq_true rfl), (Nat.le_of_ble_eq_true rfl)⟩) (wg_1 G _) rfl rfl hl.1 rfl (Nat.le_of_ble_eq_true rfl) dX5_turn_20 ⟨Nat.zero_le _, Nat.zero_le _⟩ (fun σ4 H locs hw hk => ?_)
    refine lv_iconst (v := (1 : Int32)) hx hb dX5_turn_23 (by decide) ?_
    exact k_zret X hk hw dX5_turn_24
  · replace hw := hw.1 c3
    refine lv_iconst (v := (0 : Int32)) hx hb dX5_turn_12 (by decide) ?_
    exact k_zret X hk hw dX5_turn_13
def rm_X5_set : Room := { frames := 1, cells := 0, slots := 0, locals := 23 }
abbrev wz_X5_set : List Cond := Cond.code yX5_set cX5_set 4 (some .boolean) :: wsA
theorem hd_X5_set : yX5_set.cls = RX5 ∧ yX5_set.cls ≠ "java/lang/invoke/MethodHandle" ∧ yX5_set.cls ≠ "java/lang/invoke/VarHandle" ∧ (parseMethodDescriptor yX5_set.desc).map (fun d => d.parameters.length) = some 3 := by decide +kernel
def wp_X5_set (σ : Sg) (p1 p2 p3 : Int32) (Q : Int32 → Sg → Prop) : Prop := wp_X3_hasPlace σ p1 (fun r2 σ1 => (r2 = 0 → (bz (0 : Int32) ∧ Q (0 : Int32) σ1)) ∧ (¬ (r2 = 0) → (wp_X3_factFits σ1 p2 p3 (fun r5 σ4 => (r5 = 0 → (bz (0 : Int32) ∧ Q (0 : Int32) σ4)) ∧ (¬ (r5 = 0) → (wp_X3_fact σ4 p1 p2 (fun r8 σ7 => (r8 = p3 → (bz (0 : Int32) ∧ Q (0 : Int32) σ7)) ∧ (¬ (r8 = p3) → (wp_X3_change σ7 p1 p2 p3 (fun σ10 => bz (1 : Int32) ∧ Q (1 : Int32) σ10))))))))))
set_option maxHeartbeats 4000000 in
set_option maxRecDepth 100000 in
theorem c_X5_set (l : Launch) (G : Gw) (σ : Sg) (p1 p2 p3 : Int32) (Q : Int32 → Sg → Prop) (hw : wp_X5_set σ p1 p2 p3 Q) : MetI l yX5_set wz_X5_set rm_X5_set G σ [.ref (G.1 0), .int p1, .int p2, .int p3] Q := by
  refine MetI.of cX5_set 4 (some .boolean) (by decide) rfl (Nat.le_of_ble_eq_true rfl) ?_
  intro p e s m below meth c X hk ls hl
  have X : KC p m meth c cX5_set 4 s _ wz_X5_set RX5 (some .boolean) G := X
  have hl : lv_has ls 4 [(0, .ref (G.1 0)), (1, .int p1), (2, .int p2), (3, .int p3)] := hl
  unfold wp_X5_set at hw
  have hx := X.1.1
  have hb := X.1.2.1
  refine lv_aload_n hx hb dX5_set_0 rfl (lv_at hl 0 rfl) ?_
  refine k_get 0 X hk (wg_0 G _) rfl (hz_wsX50 _) (Nat.le_of_ble_eq_true rfl) (List.mem_cons_of_mem _ (aw_r1 _ (List.mem_of_getElem? (i := 16) rfl))) rfl dX5_set_1 ?_
  refine lv_iload_n hx hb dX5_set_4 rfl (lv_at hl 1 rfl) ?_
  refine k_callVi (rest := []) X hk (c_X3_hasPlace l G _ _ _ hw) (cwV 1 X.1.2.2.2.2 (gzV (aw_r20 _ (List.mem_of_getElem? (i := 18) rfl)) (aw_r12 _ (List.mem_of_getElem? (i := 11) rfl)) (aw_r12 _ (List.mem_of_getElem? (i := 12) rfl)) (aw_r1 _ (List.mem_of_getElem? (i := 15) rfl)) (aw_r12 _ (List.mem_of_getElem? (i := 13) rfl))) rfl rfl rfl hd_X3_hasPlace ⟨(Nat.le_of_ble_eq_true rfl), (Nat.le_of_ble_eq_true rfl)⟩) (wg_1 G _) rfl rfl hl.1 rfl (Nat.le_of_ble_eq_true rfl) dX5_set_5 ⟨Nat.zero_le _, Nat.zero_le _⟩ (fun r2 σ1 H locs hw hk => ?_)
  refine lv_if_eq (tgt := 36) hx hb dX5_set_8 (by decide) (fun c3 => ?_) (fun c3 => ?_)
  · replace hw := hw.1 c3
    refine lv_iconst (v := (0 : Int32)) hx hb dX5_set_36 (by decide) ?_
    exact k_zret X hk hw dX5_set_37
  · replace hw := hw.2 c3
    refine lv_aload_n hx hb dX5_set_11 rfl (lv_at hl 0 rfl) ?_
    refine k_get 0 X hk (wg_0 G _) rfl (hz_wsX50 _) (Nat.le_of_ble_eq_true rfl) (List.mem_cons_of_mem _ (aw_r1 _ (List.mem_of_getElem? (i := 16) rfl))) rfl dX5_set_12 ?_
    refine lv_iload_n hx hb dX5_set_15 rfl (lv_at hl 2 rfl) ?_
    refine lv_iload_n hx hb dX5_set_16 rfl (lv_at hl 3 rfl) ?_
    refine k_callVi (rest := []) X hk (c_X3_factFits l G _ _ _ _ hw) (cwV 2 X.1.2.2.2.2 (gzV (aw_r19 _ (List.mem_of_getElem? (i := 4) rfl)) (aw_r12 _ (List.mem_of_getElem? (i := 3) rfl)) (aw_r12 _ (List.mem_of_getElem? (i := 4) rfl)) (aw_r1 _ (List.mem_of_getElem? (i := 15) rfl)) (aw_r12 _ (List.mem_of_getElem? (i := 5) rfl))) rfl rfl rfl hd_X3_factFits ⟨(Nat.le_of_ble_eq_true rfl), (Nat.le_of_ble_eq_true rfl)⟩) (wg_1 G _) rfl rfl hl.1 rfl (Nat.le_of_ble_eq_true rfl) dX5_set_17 ⟨Nat.zero_le _, Nat.zero_le _⟩ (fun r5 σ4 H locs hw hk => ?_)
    refine lv_if_eq (tgt := 36) hx hb dX5_set_20 (by decide) (fun c6 => ?_) (fun c6 => ?_)
    · replace hw := hw.1 c6
      refine lv_iconst (v := (0 : Int32)) hx hb dX5_set_36 (by decide) ?_
      exact k_zret X hk hw dX5_set_37
    · replace hw := hw.2 c6
      refine lv_aload_n hx hb dX5_set_23 rfl (lv_at hl 0 rfl) ?_
      refine k_get 0 X hk (wg_0 G _) rfl (hz_wsX50 _) (Nat.le_of_ble_eq_true rfl) (List.mem_cons_of_mem _ (aw_r1 _ (List.mem_of_getElem? (i := 16) rfl))) rfl dX5_set_24 ?_
      refine lv_iload_n hx hb dX5_set_27 rfl (lv_at hl 1 rfl) ?_
      refine lv_iload_n hx hb dX5_set_28 rfl (lv_at hl 2 rfl) ?_
      refine k_callVi (rest := []) X hk (c_X3_fact l G _ _ _ _ hw) (cwV 2 X.1.2.2.2.2 (gzV (aw_r20 _ (List.mem_of_getElem? (i := 19) rfl)) (aw_r20 _ (List.mem_of_getElem? (i := 20) rfl)) (aw_r20 _ (List.mem_of_getElem? (i := 21) rfl)) (aw_r1 _ (List.mem_of_getElem? (i := 15) rfl)) (aw_r20 _ (List.mem_of_getElem? (i := 22) rfl))) rfl rfl rfl hd_X3_fact ⟨(Nat.le_of_ble_eq_true rfl), (Nat.le_of_ble_eq_true rfl)⟩) (wg_1 G _) rfl rfl hl.1 rfl (Nat.le_of_ble_eq_true rfl) dX5_set_29 ⟨Nat.zero_le _, Nat.zero_le _⟩ (fun r8 σ7 H locs hw hk => ?_)
      refine lv_iload_n hx hb dX5_set_32 rfl (lv_at hl 3 rfl) ?_
      refine lv_icmp_ne (tgt := 38) hx hb dX5_set_33 (by decide) (fun c9 => ?_) (fun c9 => ?_)
      · replace hw := hw.2 c9
        refine lv_aload_n hx hb dX5_set_38 rfl (lv_at hl 0 rfl) ?_
        refine k_get 0 X hk (wg_0 G _) rfl (hz_wsX50 _) (Nat.le_of_ble_eq_true rfl) (List.mem_cons_of_mem _ (aw_r1 _ (List.mem_of_getElem? (i := 16) rfl))) rfl dX5_set_39 ?_
        refine lv_iload_n hx hb dX5_set_42 rfl (lv_at hl 1 rfl) ?_
        refine lv_iload_n hx hb dX5_set_43 rfl (lv_at hl 2 rfl) ?_
        refine lv_iload_n hx hb dX5_set_44 rfl (lv_at hl 3 rfl) ?_
        refine k_callVv (rest := []) X hk (c_X3_change l G _ _ _ _ _ hw) (cwV 3 X.1.2.2.2.2 (gzV (aw_r20 _ (List.mem_of_getElem? (i := 23) rfl)) (aw_r13 _ (List.mem_of_getElem? (i := 15) rfl)) (aw_r13 _ (List.mem_of_getElem? (i := 16) rfl)) (aw_r1 _ (List.mem_of_getElem? (i := 15) rfl)) (aw_r13 _ (List.mem_of_getElem? (i := 17) rfl))) rfl rfl rfl hd_X3_change ⟨(Nat.le_of_ble_eq_true rfl), (Nat.le_of_ble_eq_true rfl)⟩) (wg_1 G _) rfl rfl hl.1 rfl (Nat.le_of_ble_eq_true rfl) dX5_set_45 ⟨Nat.zero_le _, Nat.zero_le _⟩ (fun σ10 H locs hw hk => ?_)
        refine lv_iconst (v := (1 : Int32)) hx hb dX5_set_48 (by decide) ?_
        exact k_zret X hk hw dX5_set_49
      · replace hw := hw.1 c9
        refine lv_iconst (v := (0 : Int32)) hx hb dX5_set_36 (by decide) ?_
        exact k_zret X hk hw dX5_set_37
def rm_X5_drop : Room := { frames := 2, cells := 0, slots := 0, locals := 45 }
abbrev wz_X5_drop : List Cond := Cond.code yX5_drop cX5_drop 1 (some .int) :: wsA
theorem hd_X5_drop : yX5_drop.cls = RX5 ∧ yX5_drop.cls ≠ "java/lang/invoke/MethodHandle" ∧ yX5_drop.cls ≠ "java/lang/invoke/VarHandle" ∧ (parseMethodDescriptor yX5_drop.desc).map (fun d => d.parameters.length) = some 0 := by decide +kernel
def wp_X5_drop (σ : Sg) (Q : Int32 → Sg → Prop) : Prop := ((σ 1 1) = 0 → (Q (-1 : Int32) σ)) ∧ (¬ ((σ 1 1) = 0) → (∀ σ2 : Sg, σ2 = (put σ 1 1 ((σ 1 1) - (1 : Int32))) → (wp_X1_forgetRoad σ2 (σ2 1 1) (fun σ3 => Q (σ3 1 1) σ3))))
set_option maxHeartbeats 4000000 in
set_option maxRecDepth 100000 in
theorem c_X5_drop (l : Launch) (G : Gw) (σ : Sg) (Q : Int32 → Sg → Prop) (hw : wp_X5_drop σ  Q) : MetI l yX5_drop wz_X5_drop rm_X5_drop G σ [.ref (G.1 0)] Q := by
  refine MetI.of cX5_drop 1 (some .int) (by decide) rfl (Nat.le_of_ble_eq_true rfl) ?_
  intro p e s m below meth c X hk ls hl
  have X : KC p m meth c cX5_drop 1 s _ wz_X5_drop RX5 (some .int) G := X
  have hl : lv_has ls 1 [(0, .ref (G.1 0))] := hl
  unfold wp_X5_drop at hw
  have hx := X.1.1
  have hb := X.1.2.1
  refine lv_aload_n hx hb dX5_drop_0 rfl (lv_at hl 0 rfl) ?_
  refine k_get 0 X hk (wg_0 G _) rfl (hz_wsX50 _) (Nat.le_of_ble_eq_true rfl) (List.mem_cons_of_mem _ (aw_r1 _ (List.mem_of_getElem? (i := 16) rfl))) rfl dX5_drop_1 ?_
  refine k_get 1 X hk (wg_1 G _) rfl (hz_wsX30 _) (Nat.le_of_ble_eq_true rfl) (List.mem_cons_of_mem _ (aw_r19 _ (List.mem_of_getElem? (i := 17) rfl))) rfl dX5_drop_4 ?_
  refine lv_if_ne (tgt := 12) hx hb dX5_drop_7 (by decide) (fun c1 => ?_) (fun c1 => ?_)
  · replace hw := hw.2 c1
    refine lv_aload_n hx hb dX5_drop_12 rfl (lv_at hl 0 rfl) ?_
    refine k_get 0 X hk (wg_0 G _) rfl (hz_wsX50 _) (Nat.le_of_ble_eq_true rfl) (List.mem_cons_of_mem _ (aw_r1 _ (List.mem_of_getElem? (i := 16) rfl))) rfl dX5_drop_13 ?_
    refine lv_dup hx hb dX5_drop_16 rfl ?_
    refine k_get 1 X hk (wg_1 G _) rfl (hz_wsX30 _) (Nat.le_of_ble_eq_true rfl) (List.mem_cons_of_mem _ (aw_r19 _ (List.mem_of_getElem? (i := 17) rfl))) rfl dX5_drop_17 ?_
    refine lv_iconst (v := (1 : Int32)) hx hb dX5_drop_20 (by decide) ?_
    refine lv_isub hx hb dX5_drop_21 ?_
    refine k_put 1 X hk (wg_1 G _) rfl (hz_wsX30 _) tyX3_ok nmX3 (Nat.le_of_ble_eq_true rfl) (List.mem_cons_of_mem _ (aw_r19 _ (List.mem_of_getElem? (i := 17) rfl))) rfl rfl (Nat.le_of_ble_eq_true rfl) (ws_1_1 G _ _) dX5_drop_22 (fun H locs hk => ?_)
    obtain ⟨σ2, eσ2⟩ : ∃ y : Sg, y = (put σ 1 1 ((σ 1 1) - (1 : Int32))) := ⟨_, rfl⟩
    rw [← eσ2] at hk
    replace hw := hw σ2 eσ2
    refine lv_aload_n hx hb dX5_drop_25 rfl (lv_at hl 0 rfl) ?_
    refine k_get 1 X hk (wg_0 G _) rfl (hz_wsX50 _) (Nat.le_of_ble_eq_true rfl) (List.mem_cons_of_mem _ (aw_r1 _ (List.mem_of_getElem? (i := 20) rfl))) rfl dX5_drop_26 ?_
    refine lv_aload_n hx hb dX5_drop_29 rfl (lv_at hl 0 rfl) ?_
    refine k_get 0 X hk (wg_0 G _) rfl (hz_wsX50 _) (Nat.le_of_ble_eq_true rfl) (List.mem_cons_of_mem _ (aw_r1 _ (List.mem_of_getElem? (i := 16) rfl))) rfl dX5_drop_30 ?_
    refine k_get 1 X hk (wg_1 G _) rfl (hz_wsX30 _) (Nat.le_of_ble_eq_true rfl) (List.mem_cons_of_mem _ (aw_r19 _ (List.mem_of_getElem? (i := 17) rfl))) rfl dX5_drop_33 ?_
    refine k_callVv (rest := []) X hk (c_X1_forgetRoad l G _ _ _ hw) (cwV 1 X.1.2.2.2.2 (gzV (aw_r21 _ (List.mem_of_getElem? (i := 12) rfl)) (aw_r21 _ (List.mem_of_getElem? (i := 13) rfl)) (aw_r21 _ (List.mem_of_getElem? (i := 14) rfl)) (aw_r1 _ (List.mem_of_getElem? (i := 19) rfl)) (aw_r21 _ (List.mem_of_getElem? (i := 15) rfl))) rfl rfl rfl hd_X1_forgetRoad ⟨(Nat.le_of_ble_eq_true rfl), (Nat.le_of_ble_eq_true rfl)⟩) (wg_2 G _) rfl rfl hl.1 rfl (Nat.le_of_ble_eq_true rfl) dX5_drop_36 ⟨Nat.zero_le _, Nat.zero_le _⟩ (fun σ3 H locs hw hk => ?_)
    refine lv_aload_n hx hb dX5_drop_39 rfl (lv_at hl 0 rfl) ?_
    refine k_get 0 X hk (wg_0 G _) rfl (hz_wsX50 _) (Nat.le_of_ble_eq_true rfl) (List.mem_cons_of_mem _ (aw_r1 _ (List.mem_of_getElem? (i := 16) rfl))) rfl dX5_drop_40 ?_
    refine k_get 1 X hk (wg_1 G _) rfl (hz_wsX30 _) (Nat.le_of_ble_eq_true rfl) (List.mem_cons_of_mem _ (aw_r19 _ (List.mem_of_getElem? (i := 17) rfl))) rfl dX5_drop_43 ?_
    exact k_iret X hk hw dX5_drop_46
  · replace hw := hw.1 c1
    refine lv_iconst (v := (-1 : Int32)) hx hb dX5_drop_10 (by decide) ?_
    exact k_iret X hk hw dX5_drop_11
def rm_X5_move : Room := { frames := 2, cells := 0, slots := 0, locals := 43 }
abbrev wz_X5_move : List Cond := Cond.code yX5_move cX5_move 5 (some .int) :: wsA
theorem hd_X5_move : yX5_move.cls = RX5 ∧ yX5_move.cls ≠ "java/lang/invoke/MethodHandle" ∧ yX5_move.cls ≠ "java/lang/invoke/VarHandle" ∧ (parseMethodDescriptor yX5_move.desc).map (fun d => d.parameters.length) = some 4 := by decide +kernel
def wp_X5_move (σ : Sg) (p1 p2 p3 p4 : Int32) (Q : Int32 → Sg → Prop) : Prop := wp_X1_moveFits σ (0 : Int32) p1 (fun r2 σ1 => (r2 = 0 → (Q (-1 : Int32) σ1)) ∧ (¬ (r2 = 0) → (wp_X1_moveFits σ1 (1 : Int32) p2 (fun r5 σ4 => (r5 = 0 → (Q (-1 : Int32) σ4)) ∧ (¬ (r5 = 0) → (wp_X1_moveFits σ4 (2 : Int32) p4 (fun r8 σ7 => (r8 = 0 → (Q (-1 : Int32) σ7)) ∧ (¬ (r8 = 0) → (((σ7 2 0) < (40 : Int32) → (wp_X1_add σ7 p1 p2 p3 p4 (fun r12 σ11 => Q r12 σ11))) ∧ (¬ ((σ7 2 0) < (40 : Int32)) → (Q (-2 : Int32) σ7)))))))))))
set_option maxHeartbeats 4000000 in
set_option maxRecDepth 100000 in
theorem c_X5_move (l : Launch) (G : Gw) (σ : Sg) (p1 p2 p3 p4 : Int32) (Q : Int32 → Sg → Prop) (hw : wp_X5_move σ p1 p2 p3 p4 Q) : MetI l yX5_move wz_X5_move rm_X5_move G σ [.ref (G.1 0), .int p1, .int p2, .int p3, .int p4] Q := by
  refine MetI.of cX5_move 5 (some .int) (by decide) rfl (Nat.le_of_ble_eq_true rfl) ?_
  intro p e s m below meth c X hk ls hl
  have X : KC p m meth c cX5_move 5 s _ wz_X5_move RX5 (some .int) G := X
  have hl : lv_has ls 5 [(0, .ref (G.1 0)), (1, .int p1), (2, .int p2), (3, .int p3), (4, .int p4)] := hl
  unfold wp_X5_move at hw
  have hx := X.1.1
  have hb := X.1.2.1
  refine lv_aload_n hx hb dX5_move_0 rfl (lv_at hl 0 rfl) ?_
  refine k_get 1 X hk (wg_0 G _) rfl (hz_wsX50 _) (Nat.le_of_ble_eq_true rfl) (List.mem_cons_of_mem _ (aw_r1 _ (List.mem_of_getElem? (i := 20) rfl))) rfl dX5_move_1 ?_
  refine lv_iconst (v := (0 : Int32)) hx hb dX5_move_4 (by decide) ?_
  refine lv_iload_n hx hb dX5_move_5 rfl (lv_at hl 1 rfl) ?_
  refine k_callVi (rest := []) X hk (c_X1_moveFits l G _ _ _ _ hw) (cwV 2 X.1.2.2.2.2 (gzV (aw_r22 _ (List.mem_of_getElem? (i := 14) rfl)) (aw_r13 _ (List.mem_of_getElem? (i := 2) rfl)) (aw_r13 _ (List.mem_of_getElem? (i := 3) rfl)) (aw_r1 _ (List.mem_of_getElem? (i := 19) rfl)) (aw_r13 _ (List.mem_of_getElem? (i := 4) rfl))) rfl rfl rfl hd_X1_moveFits ⟨(Nat.le_of_ble_eq_true rfl), (Nat.le_of_ble_eq_true rfl)⟩) (wg_2 G _) rfl rfl hl.1 rfl (Nat.le_of_ble_eq_true rfl) dX5_move_6 ⟨Nat.zero_le _, Nat.zero_le _⟩ (fun r2 σ1 H locs hw hk => ?_)
  refine lv_if_eq (tgt := 37) hx hb dX5_move_9 (by decide) (fun c3 => ?_) (fun c3 => ?_)
  · replace hw := hw.1 c3
    refine lv_iconst (v := (-1 : Int32)) hx hb dX5_move_37 (by decide) ?_
    exact k_iret X hk hw dX5_move_38
  · replace hw := hw.2 c3
    refine lv_aload_n hx hb dX5_move_12 rfl (lv_at hl 0 rfl) ?_
    refine k_get 1 X hk (wg_0 G _) rfl (hz_wsX50 _) (Nat.le_of_ble_eq_true rfl) (List.mem_cons_of_mem _ (aw_r1 _ (List.mem_of_getElem? (i := 20) rfl))) rfl dX5_move_13 ?_
    refine lv_iconst (v := (1 : Int32)) hx hb dX5_move_16 (by decide) ?_
    refine lv_iload_n hx hb dX5_move_17 rfl (lv_at hl 2 rfl) ?_
    refine k_callVi (rest := []) X hk (c_X1_moveFits l G _ _ _ _ hw) (cwV 2 X.1.2.2.2.2 (gzV (aw_r22 _ (List.mem_of_getElem? (i := 14) rfl)) (aw_r13 _ (List.mem_of_getElem? (i := 2) rfl)) (aw_r13 _ (List.mem_of_getElem? (i := 3) rfl)) (aw_r1 _ (List.mem_of_getElem? (i := 19) rfl)) (aw_r13 _ (List.mem_of_getElem? (i := 4) rfl))) rfl rfl rfl hd_X1_moveFits ⟨(Nat.le_of_ble_eq_true rfl), (Nat.le_of_ble_eq_true rfl)⟩) (wg_2 G _) rfl rfl hl.1 rfl (Nat.le_of_ble_eq_true rfl) dX5_move_18 ⟨Nat.zero_le _, Nat.zero_le _⟩ (fun r5 σ4 H locs hw hk => ?_)
    refine lv_if_eq (tgt := 37) hx hb dX5_move_21 (by decide) (fun c6 => ?_) (fun c6 => ?_)
    · replace hw := hw.1 c6
      refine lv_iconst (v := (-1 : Int32)) hx hb dX5_move_37 (by decide) ?_
      exact k_iret X hk hw dX5_move_38
    · replace hw := hw.2 c6
      refine lv_aload_n hx hb dX5_move_24 rfl (lv_at hl 0 rfl) ?_
      refine k_get 1 X hk (wg_0 G _) rfl (hz_wsX50 _) (Nat.le_of_ble_eq_true rfl) (List.mem_cons_of_mem _ (aw_r1 _ (List.mem_of_getElem? (i := 20) rfl))) rfl dX5_move_25 ?_
      refine lv_iconst (v := (2 : Int32)) hx hb dX5_move_28 (by decide) ?_
      refine lv_iload hx hb dX5_move_29 (lv_at hl 4 rfl) ?_
      refine k_callVi (rest := []) X hk (c_X1_moveFits l G _ _ _ _ hw) (cwV 2 X.1.2.2.2.2 (gzV (aw_r22 _ (List.mem_of_getElem? (i := 14) rfl)) (aw_r13 _ (List.mem_of_getElem? (i := 2) rfl)) (aw_r13 _ (List.mem_of_getElem? (i := 3) rfl)) (aw_r1 _ (List.mem_of_getElem? (i := 19) rfl)) (aw_r13 _ (List.mem_of_getElem? (i := 4) rfl))) rfl rfl rfl hd_X1_moveFits ⟨(Nat.le_of_ble_eq_true rfl), (Nat.le_of_ble_eq_true rfl)⟩) (wg_2 G _) rfl rfl hl.1 rfl (Nat.le_of_ble_eq_true rfl) dX5_move_31 ⟨Nat.zero_le _, Nat.zero_le _⟩ (fun r8 σ7 H locs hw hk => ?_)
      refine lv_if_ne (tgt := 39) hx hb dX5_move_34 (by decide) (fun c9 => ?_) (fun c9 => ?_)
      · replace hw := hw.2 c9
        refine lv_aload_n hx hb dX5_move_39 rfl (lv_at hl 0 rfl) ?_
        refine k_get 1 X hk (wg_0 G _) rfl (hz_wsX50 _) (Nat.le_of_ble_eq_true rfl) (List.mem_cons_of_mem _ (aw_r1 _ (List.mem_of_getElem? (i := 20) rfl))) rfl dX5_move_40 ?_
        refine k_get 0 X hk (wg_2 G _) rfl (hz_wsX10 _) (Nat.le_of_ble_eq_true rfl) (List.mem_cons_of_mem _ (aw_r22 _ (List.mem_of_getElem? (i := 13) rfl))) rfl dX5_move_43 ?_
        refine lv_bipush (v := (40 : Int32)) hx hb dX5_move_46 (by decide) ?_
        refine lv_icmp_lt (tgt := 54) hx hb dX5_move_48 (by decide) (fun c10 => ?_) (fun c10 => ?_)
        · replace hw := hw.1 c10
          refine lv_aload_n hx hb dX5_move_54 rfl (lv_at hl 0 rfl) ?_
          refine k_get 1 X hk (wg_0 G _) rfl (hz_wsX50 _) (Nat.le_of_ble_eq_true rfl) (List.mem_cons_of_mem _ (aw_r1 _ (List.mem_of_getElem? (i := 20) rfl))) rfl dX5_move_55 ?_
          refine lv_iload_n hx hb dX5_move_58 rfl (lv_at hl 1 rfl) ?_
          refine lv_iload_n hx hb dX5_move_59 rfl (lv_at hl 2 rfl) ?_
          refine lv_iload_n hx hb dX5_move_60 rfl (lv_at hl 3 rfl) ?_
          refine lv_iload hx hb dX5_move_61 (lv_at hl 4 rfl) ?_
          refine k_callVi (rest := []) X hk (c_X1_add l G _ _ _ _ _ _ hw) (cwV 4 X.1.2.2.2.2 (gzV (aw_r22 _ (List.mem_of_getElem? (i := 15) rfl)) (aw_r14 _ (List.mem_of_getElem? (i := 3) rfl)) (aw_r14 _ (List.mem_of_getElem? (i := 4) rfl)) (aw_r1 _ (List.mem_of_getElem? (i := 19) rfl)) (aw_r14 _ (List.mem_of_getElem? (i := 5) rfl))) rfl rfl rfl hd_X1_add ⟨(Nat.le_of_ble_eq_true rfl), (Nat.le_of_ble_eq_true rfl)⟩) (wg_2 G _) rfl rfl hl.1 rfl (Nat.le_of_ble_eq_true rfl) dX5_move_63 ⟨Nat.zero_le _, Nat.zero_le _⟩ (fun r12 σ11 H locs hw hk => ?_)
          exact k_iret X hk hw dX5_move_66
        · replace hw := hw.2 c10
          refine lv_bipush (v := (-2 : Int32)) hx hb dX5_move_51 (by decide) ?_
          exact k_iret X hk hw dX5_move_53
      · replace hw := hw.1 c9
        refine lv_iconst (v := (-1 : Int32)) hx hb dX5_move_37 (by decide) ?_
        exact k_iret X hk hw dX5_move_38
def rm_X5_back : Room := { frames := 0, cells := 0, slots := 0, locals := 0 }
abbrev wz_X5_back : List Cond := Cond.code yX5_back cX5_back 2 (some .int) :: wsA
theorem hd_X5_back : yX5_back.cls = RX5 ∧ yX5_back.cls ≠ "java/lang/invoke/MethodHandle" ∧ yX5_back.cls ≠ "java/lang/invoke/VarHandle" ∧ (parseMethodDescriptor yX5_back.desc).map (fun d => d.parameters.length) = some 1 := by decide +kernel
def wp_X5_back_35 (Q : Int32 → Sg → Prop)  (y1 : Int32) (σ : Sg) : Prop := ∀ σ3 : Sg, σ3 = (put σ 2 0 y1) → (Q (σ3 2 0) σ3)
set_option maxHeartbeats 4000000 in
set_option maxRecDepth 100000 in
theorem t_X5_back_35 {p : Program} {l : Launch} {e : Env} {s : State} {m : MethodId} {args : Array Value} {below : List Frame} {meth : Method} {c : Code} {G : Gw} (X : KC p m meth c cX5_back 2 s args wz_X5_back RX5 (some .int) G) (Q : Int32 → Sg → Prop)  : ∀ (σ : Sg) (y1 : Int32) (H : Heap) (locs : List Loc) (ls : Array Slot), wp_X5_back_35 Q  y1 σ → WK G s H locs σ → lv_has ls 2 [(0, .ref (G.1 0))] → W p l e rm_X5_back s m args below meth c H locs 0 0 (ZI below args s G Q) (F0 m 35 ls [.int y1, .ref (G.1 2)]) := by
  have hx := X.1.1
  have hb := X.1.2.1
  intro σ y1 H locs ls hw hk hl
  unfold wp_X5_back_35 at hw
  refine k_put 0 X hk (wg_2 G _) rfl (hz_wsX10 _) tyX1_ok nmX1 (Nat.le_of_ble_eq_true rfl) (List.mem_cons_of_mem _ (aw_r22 _ (List.mem_of_getElem? (i := 13) rfl))) rfl rfl (Nat.le_of_ble_eq_true rfl) (ws_2_0 G _ _) dX5_back_35 (fun H locs hk => ?_)
  obtain ⟨σ3, eσ3⟩ : ∃ y : Sg, y = (put σ 2 0 y1) := ⟨_, rfl⟩
  rw [← eσ3] at hk
  replace hw := hw σ3 eσ3
  refine lv_aload_n hx hb dX5_back_38 rfl (lv_at hl 0 rfl) ?_
  refine k_get 1 X hk (wg_0 G _) rfl (hz_wsX50 _) (Nat.le_of_ble_eq_true rfl) (List.mem_cons_of_mem _ (aw_r1 _ (List.mem_of_getElem? (i := 20) rfl))) rfl dX5_back_39 ?_
  refine k_get 0 X hk (wg_2 G _) rfl (hz_wsX10 _) (Nat.le_of_ble_eq_true rfl) (List.mem_cons_of_mem _ (aw_r22 _ (List.mem_of_getElem? (i := 13) rfl))) rfl dX5_back_42 ?_
  exact k_iret X hk hw dX5_back_45
def wp_X5_back (σ : Sg) (p1 : Int32) (Q : Int32 → Sg → Prop) : Prop := ((1 : Int32) ≤ p1 → ((p1 ≤ (σ 2 0) → (wp_X5_back_35 Q  ((σ 2 0) - p1) σ)) ∧ (¬ (p1 ≤ (σ 2 0)) → (wp_X5_back_35 Q  (0 : Int32) σ)))) ∧ (¬ ((1 : Int32) ≤ p1) → (Q (-1 : Int32) σ))
set_option maxHeartbeats 4000000 in
set_option maxRecDepth 100000 in
theorem c_X5_back (l : Launch) (G : Gw) (σ : Sg) (p1 : Int32) (Q : Int32 → Sg → Prop) (hw : wp_X5_back σ p1 Q) : MetI l yX5_back wz_X5_back rm_X5_back G σ [.ref (G.1 0), .int p1] Q := by
  refine MetI.of cX5_back 2 (some .int) (by decide) rfl (Nat.le_of_ble_eq_true rfl) ?_
  intro p e s m below meth c X hk ls hl
  have X : KC p m meth c cX5_back 2 s _ wz_X5_back RX5 (some .int) G := X
  have hl : lv_has ls 2 [(0, .ref (G.1 0)), (1, .int p1)] := hl
  unfold wp_X5_back at hw
  have hx := X.1.1
  have hb := X.1.2.1
  refine lv_iload_n hx hb dX5_back_0 rfl (lv_at hl 1 rfl) ?_
  refine lv_iconst (v := (1 : Int32)) hx hb dX5_back_1 (by decide) ?_
  refine lv_icmp_ge (tgt := 7) hx hb dX5_back_2 (by decide) (fun c1 => ?_) (fun c1 => ?_)
  · replace hw := hw.1 c1
    refine lv_aload_n hx hb dX5_back_7 rfl (lv_at hl 0 rfl) ?_
    refine k_get 1 X hk (wg_0 G _) rfl (hz_wsX50 _) (Nat.le_of_ble_eq_true rfl) (List.mem_cons_of_mem _ (aw_r1 _ (List.mem_of_getElem? (i := 20) rfl))) rfl dX5_back_8 ?_
    refine lv_iload_n hx hb dX5_back_11 rfl (lv_at hl 1 rfl) ?_
    refine lv_aload_n hx hb dX5_back_12 rfl (lv_at hl 0 rfl) ?_
    refine k_get 1 X hk (wg_0 G _) rfl (hz_wsX50 _) (Nat.le_of_ble_eq_true rfl) (List.mem_cons_of_mem _ (aw_r1 _ (List.mem_of_getElem? (i := 20) rfl))) rfl dX5_back_13 ?_
    refine k_get 0 X hk (wg_2 G _) rfl (hz_wsX10 _) (Nat.le_of_ble_eq_true rfl) (List.mem_cons_of_mem _ (aw_r22 _ (List.mem_of_getElem? (i := 13) rfl))) rfl dX5_back_16 ?_
    refine lv_icmp_le (tgt := 26) hx hb dX5_back_19 (by decide) (fun c2 => ?_) (fun c2 => ?_)
    · replace hw := hw.1 c2
      refine lv_aload_n hx hb dX5_back_26 rfl (lv_at hl 0 rfl) ?_
      refine k_get 1 X hk (wg_0 G _) rfl (hz_wsX50 _) (Nat.le_of_ble_eq_true rfl) (List.mem_cons_of_mem _ (aw_r1 _ (List.mem_of_getElem? (i := 20) rfl))) rfl dX5_back_27 ?_
      refine k_get 0 X hk (wg_2 G _) rfl (hz_wsX10 _) (Nat.le_of_ble_eq_true rfl) (List.mem_cons_of_mem _ (aw_r22 _ (List.mem_of_getElem? (i := 13) rfl))) rfl dX5_back_30 ?_
      refine lv_iload_n hx hb dX5_back_33 rfl (lv_at hl 1 rfl) ?_
      refine lv_isub hx hb dX5_back_34 ?_
      exact t_X5_back_35 X Q   _ _ _ _ _ hw hk (lv_sub hl [0] rfl)
    · replace hw := hw.2 c2
      refine lv_iconst (v := (0 : Int32)) hx hb dX5_back_22 (by decide) ?_
      refine lv_goto (tgt := 35) hx hb dX5_back_23 (by decide) ?_
      exact t_X5_back_35 X Q   _ _ _ _ _ hw hk (lv_sub hl [0] rfl)
  · replace hw := hw.2 c1
    refine lv_iconst (v := (-1 : Int32)) hx hb dX5_back_5 (by decide) ?_
    exact k_iret X hk hw dX5_back_6
def rm_X5_count : Room := { frames := 2, cells := 0, slots := 0, locals := 45 }
abbrev wz_X5_count : List Cond := Cond.code yX5_count cX5_count 2 (some .int) :: wsA
theorem hd_X5_count : yX5_count.cls = RX5 ∧ yX5_count.cls ≠ "java/lang/invoke/MethodHandle" ∧ yX5_count.cls ≠ "java/lang/invoke/VarHandle" ∧ (parseMethodDescriptor yX5_count.desc).map (fun d => d.parameters.length) = some 1 := by decide +kernel
def wp_X5_count (σ : Sg) (p1 : Int32) (Q : Int32 → Sg → Prop) : Prop := (p1 = (0 : Int32) → (Q (σ 1 0) σ)) ∧ (p1 = (1 : Int32) → (Q (σ 1 1) σ)) ∧ (p1 = (2 : Int32) → (Q (σ 2 0) σ)) ∧ (p1 = (3 : Int32) → (Q (σ 3 0) σ)) ∧ (p1 = (4 : Int32) → (wp_X3_total σ (0 : Int32) (fun r7 σ6 => Q r7 σ6))) ∧ (p1 = (5 : Int32) → (wp_X3_total σ (1 : Int32) (fun r10 σ9 => Q r10 σ9))) ∧ (¬ p1 = (0 : Int32) → ¬ p1 = (1 : Int32) → ¬ p1 = (2 : Int32) → ¬ p1 = (3 : Int32) → ¬ p1 = (4 : Int32) → ¬ p1 = (5 : Int32) → (Q (-1 : Int32) σ))
set_option maxHeartbeats 4000000 in
set_option maxRecDepth 100000 in
theorem c_X5_count (l : Launch) (G : Gw) (σ : Sg) (p1 : Int32) (Q : Int32 → Sg → Prop) (hw : wp_X5_count σ p1 Q) : MetI l yX5_count wz_X5_count rm_X5_count G σ [.ref (G.1 0), .int p1] Q := by
  refine MetI.of cX5_count 2 (some .int) (by decide) rfl (Nat.le_of_ble_eq_true rfl) ?_
  intro p e s m below meth c X hk ls hl
  have X : KC p m meth c cX5_count 2 s _ wz_X5_count RX5 (some .int) G := X
  have hl : lv_has ls 2 [(0, .ref (G.1 0)), (1, .int p1)] := hl
  unfold wp_X5_count at hw
  have hx := X.1.1
  have hb := X.1.2.1
  refine lv_iload_n hx hb dX5_count_0 rfl (lv_at hl 1 rfl) ?_
  by_cases c1 : p1 = (0 : Int32)
  · have ec1 : (p1).toInt = 0 := by rw [c1]; rfl
    refine lv_tableIn (tgt := 40) hx hb dX5_count_1 (by rw [ec1]; decide) (by rw [ec1]; decide) (by rw [ec1]; rfl) (by decide) ?_
    replace hw := hw.1 c1
    refine lv_aload_n hx hb dX5_count_40 rfl (lv_at hl 0 rfl) ?_
    refine k_get 0 X hk (wg_0 G _) rfl (hz_wsX50 _) (Nat.le_of_ble_eq_true rfl) (List.mem_cons_of_mem _ (aw_r1 _ (List.mem_of_getElem? (i := 16) rfl))) rfl dX5_count_41 ?_
    refine k_get 0 X hk (wg_1 G _) rfl (hz_wsX30 _) (Nat.le_of_ble_eq_true rfl) (List.mem_cons_of_mem _ (aw_r19 _ (List.mem_of_getElem? (i := 3) rfl))) rfl dX5_count_44 ?_
    exact k_iret X hk hw dX5_count_47
  replace hw := hw.2
  by_cases c2 : p1 = (1 : Int32)
  · have ec2 : (p1).toInt = 1 := by rw [c2]; rfl
    refine lv_tableIn (tgt := 48) hx hb dX5_count_1 (by rw [ec2]; decide) (by rw [ec2]; decide) (by rw [ec2]; rfl) (by decide) ?_
    replace hw := hw.1 c2
    refine lv_aload_n hx hb dX5_count_48 rfl (lv_at hl 0 rfl) ?_
    refine k_get 0 X hk (wg_0 G _) rfl (hz_wsX50 _) (Nat.le_of_ble_eq_true rfl) (List.mem_cons_of_mem _ (aw_r1 _ (List.mem_of_getElem? (i := 16) rfl))) rfl dX5_count_49 ?_
    refine k_get 1 X hk (wg_1 G _) rfl (hz_wsX30 _) (Nat.le_of_ble_eq_true rfl) (List.mem_cons_of_mem _ (aw_r19 _ (List.mem_of_getElem? (i := 17) rfl))) rfl dX5_count_52 ?_
    exact k_iret X hk hw dX5_count_55
  replace hw := hw.2
  by_cases c3 : p1 = (2 : Int32)
  · have ec3 : (p1).toInt = 2 := by rw [c3]; rfl
    refine lv_tableIn (tgt := 56) hx hb dX5_count_1 (by rw [ec3]; decide) (by rw [ec3]; decide) (by rw [ec3]; rfl) (by decide) ?_
    replace hw := hw.1 c3
    refine lv_aload_n hx hb dX5_count_56 rfl (lv_at hl 0 rfl) ?_
    refine k_get 1 X hk (wg_0 G _) rfl (hz_wsX50 _) (Nat.le_of_ble_eq_true rfl) (List.mem_cons_of_mem _ (aw_r1 _ (List.mem_of_getElem? (i := 20) rfl))) rfl dX5_count_57 ?_
    refine k_get 0 X hk (wg_2 G _) rfl (hz_wsX10 _) (Nat.le_of_ble_eq_true rfl) (List.mem_cons_of_mem _ (aw_r22 _ (List.mem_of_getElem? (i := 13) rfl))) rfl dX5_count_60 ?_
    exact k_iret X hk hw dX5_count_63
  replace hw := hw.2
  by_cases c4 : p1 = (3 : Int32)
  · have ec4 : (p1).toInt = 3 := by rw [c4]; rfl
    refine lv_tableIn (tgt := 64) hx hb dX5_count_1 (by rw [ec4]; decide) (by rw [ec4]; decide) (by rw [ec4]; rfl) (by decide) ?_
    replace hw := hw.1 c4
    refine lv_aload_n hx hb dX5_count_64 rfl (lv_at hl 0 rfl) ?_
    refine k_get 2 X hk (wg_0 G _) rfl (hz_wsX50 _) (Nat.le_of_ble_eq_true rfl) (List.mem_cons_of_mem _ (aw_r2 _ (List.mem_of_getElem? (i := 0) rfl))) rfl dX5_count_65 ?_
    refine k_get 0 X hk (wg_3 G _) rfl (hz_wsX20 _) (Nat.le_of_ble_eq_true rfl) (List.mem_cons_of_mem _ (aw_r5 _ (List.mem_of_getElem? (i := 13) rfl))) rfl dX5_count_68 ?_
    exact k_iret X hk hw dX5_count_71
  replace hw := hw.2
  by_cases c5 : p1 = (4 : Int32)
  · have ec5 : (p1).toInt = 4 := by rw [c5]; rfl
    refine lv_tableIn (tgt := 72) hx hb dX5_count_1 (by rw [ec5]; decide) (by rw [ec5]; decide) (by rw [ec5]; rfl) (by decide) ?_
    replace hw := hw.1 c5
    refine lv_aload_n hx hb dX5_count_72 rfl (lv_at hl 0 rfl) ?_
    refine k_get 0 X hk (wg_0 G _) rfl (hz_wsX50 _) (Nat.le_of_ble_eq_true rfl) (List.mem_cons_of_mem _ (aw_r1 _ (List.mem_of_getElem? (i := 16) rfl))) rfl dX5_count_73 ?_
    refine lv_iconst (v := (0 : Int32)) hx hb dX5_count_76 (by decide) ?_
    refine k_callVi (rest := []) X hk (c_X3_total l G _ _ _ hw) (cwV 1 X.1.2.2.2.2 (gzV (aw_r23 _ (List.mem_of_getElem? (i := 15) rfl)) (aw_r23 _ (List.mem_of_getElem? (i := 16) rfl)) (aw_r23 _ (List.mem_of_getElem? (i := 17) rfl)) (aw_r1 _ (List.mem_of_getElem? (i := 15) rfl)) (aw_r23 _ (List.mem_of_getElem? (i := 18) rfl))) rfl rfl rfl hd_X3_total ⟨(Nat.le_of_ble_eq_true rfl), (Nat.le_of_ble_eq_true rfl)⟩) (wg_1 G _) rfl rfl hl.1 rfl (Nat.le_of_ble_eq_true rfl) dX5_count_77 ⟨Nat.zero_le _, Nat.zero_le _⟩ (fun r7 σ6 H locs hw hk => ?_)
    exact k_iret X hk hw dX5_count_80
  replace hw := hw.2
  by_cases c8 : p1 = (5 : Int32)
  · have ec8 : (p1).toInt = 5 := by rw [c8]; rfl
    refine lv_tableIn (tgt := 81) hx hb dX5_count_1 (by rw [ec8]; decide) (by rw [ec8]; decide) (by rw [ec8]; rfl) (by decide) ?_
    replace hw := hw.1 c8
    refine lv_aload_n hx hb dX5_count_81 rfl (lv_at hl 0 rfl) ?_
    refine k_get 0 X hk (wg_0 G _) rfl (hz_wsX50 _) (Nat.le_of_ble_eq_true rfl) (List.mem_cons_of_mem _ (aw_r1 _ (List.mem_of_getElem? (i := 16) rfl))) rfl dX5_count_82 ?_
    refine lv_iconst (v := (1 : Int32)) hx hb dX5_count_85 (by decide) ?_
    refine k_callVi (rest := []) X hk (c_X3_total l G _ _ _ hw) (cwV 1 X.1.2.2.2.2 (gzV (aw_r23 _ (List.mem_of_getElem? (i := 15) rfl)) (aw_r23 _ (List.mem_of_getElem? (i := 16) rfl)) (aw_r23 _ (List.mem_of_getElem? (i := 17) rfl)) (aw_r1 _ (List.mem_of_getElem? (i := 15) rfl)) (aw_r23 _ (List.mem_of_getElem? (i := 18) rfl))) rfl rfl rfl hd_X3_total ⟨(Nat.le_of_ble_eq_true rfl), (Nat.le_of_ble_eq_true rfl)⟩) (wg_1 G _) rfl rfl hl.1 rfl (Nat.le_of_ble_eq_true rfl) dX5_count_86 ⟨Nat.zero_le _, Nat.zero_le _⟩ (fun r10 σ9 H locs hw hk => ?_)
    exact k_iret X hk hw dX5_count_89
  replace hw := hw.2
  have ec1 := lv_neT (a := 0) c1 rfl
  have ec2 := lv_neT (a := 1) c2 rfl
  have ec3 := lv_neT (a := 2) c3 rfl
  have ec4 := lv_neT (a := 3) c4 rfl
  have ec5 := lv_neT (a := 4) c5 rfl
  have ec8 := lv_neT (a := 5) c8 rfl
  refine lv_tableOut (tgt := 90) hx hb dX5_count_1 (by omega) (by decide) ?_
  replace hw := hw c1 c2 c3 c4 c5 c8
  refine lv_iconst (v := (-1 : Int32)) hx hb dX5_count_90 (by decide) ?_
  exact k_iret X hk hw dX5_count_91
def rm_X5_of : Room := { frames := 1, cells := 0, slots := 0, locals := 22 }
abbrev wz_X5_of : List Cond := Cond.code yX5_of cX5_of 3 (some .int) :: wsA
theorem hd_X5_of : yX5_of.cls = RX5 ∧ yX5_of.cls ≠ "java/lang/invoke/MethodHandle" ∧ yX5_of.cls ≠ "java/lang/invoke/VarHandle" ∧ (parseMethodDescriptor yX5_of.desc).map (fun d => d.parameters.length) = some 2 := by decide +kernel
def wp_X5_of (σ : Sg) (p1 p2 : Int32) (Q : Int32 → Sg → Prop) : Prop := wp_X3_hasPlace σ p1 (fun r2 σ1 => (r2 = 0 → (Q (-1 : Int32) σ1)) ∧ (¬ (r2 = 0) → (wp_X3_hasFact σ1 p2 (fun r5 σ4 => (r5 = 0 → (Q (-1 : Int32) σ4)) ∧ (¬ (r5 = 0) → (wp_X3_fact σ4 p1 p2 (fun r8 σ7 => Q r8 σ7)))))))
set_option maxHeartbeats 4000000 in
set_option maxRecDepth 100000 in
theorem c_X5_of (l : Launch) (G : Gw) (σ : Sg) (p1 p2 : Int32) (Q : Int32 → Sg → Prop) (hw : wp_X5_of σ p1 p2 Q) : MetI l yX5_of wz_X5_of rm_X5_of G σ [.ref (G.1 0), .int p1, .int p2] Q := by
  refine MetI.of cX5_of 3 (some .int) (by decide) rfl (Nat.le_of_ble_eq_true rfl) ?_
  intro p e s m below meth c X hk ls hl
  have X : KC p m meth c cX5_of 3 s _ wz_X5_of RX5 (some .int) G := X
  have hl : lv_has ls 3 [(0, .ref (G.1 0)), (1, .int p1), (2, .int p2)] := hl
  unfold wp_X5_of at hw
  have hx := X.1.1
  have hb := X.1.2.1
  refine lv_aload_n hx hb dX5_of_0 rfl (lv_at hl 0 rfl) ?_
  refine k_get 0 X hk (wg_0 G _) rfl (hz_wsX50 _) (Nat.le_of_ble_eq_true rfl) (List.mem_cons_of_mem _ (aw_r1 _ (List.mem_of_getElem? (i := 16) rfl))) rfl dX5_of_1 ?_
  refine lv_iload_n hx hb dX5_of_4 rfl (lv_at hl 1 rfl) ?_
  refine k_callVi (rest := []) X hk (c_X3_hasPlace l G _ _ _ hw) (cwV 1 X.1.2.2.2.2 (gzV (aw_r20 _ (List.mem_of_getElem? (i := 18) rfl)) (aw_r12 _ (List.mem_of_getElem? (i := 11) rfl)) (aw_r12 _ (List.mem_of_getElem? (i := 12) rfl)) (aw_r1 _ (List.mem_of_getElem? (i := 15) rfl)) (aw_r12 _ (List.mem_of_getElem? (i := 13) rfl))) rfl rfl rfl hd_X3_hasPlace ⟨(Nat.le_of_ble_eq_true rfl), (Nat.le_of_ble_eq_true rfl)⟩) (wg_1 G _) rfl rfl hl.1 rfl (Nat.le_of_ble_eq_true rfl) dX5_of_5 ⟨Nat.zero_le _, Nat.zero_le _⟩ (fun r2 σ1 H locs hw hk => ?_)
  refine lv_if_eq (tgt := 34) hx hb dX5_of_8 (by decide) (fun c3 => ?_) (fun c3 => ?_)
  · replace hw := hw.1 c3
    refine lv_iconst (v := (-1 : Int32)) hx hb dX5_of_34 (by decide) ?_
    exact k_iret X hk hw dX5_of_35
  · replace hw := hw.2 c3
    refine lv_aload_n hx hb dX5_of_11 rfl (lv_at hl 0 rfl) ?_
    refine k_get 0 X hk (wg_0 G _) rfl (hz_wsX50 _) (Nat.le_of_ble_eq_true rfl) (List.mem_cons_of_mem _ (aw_r1 _ (List.mem_of_getElem? (i := 16) rfl))) rfl dX5_of_12 ?_
    refine lv_iload_n hx hb dX5_of_15 rfl (lv_at hl 2 rfl) ?_
    refine k_callVi (rest := []) X hk (c_X3_hasFact l G _ _ _ hw) (cwV 1 X.1.2.2.2.2 (gzV (aw_r24 _ (List.mem_of_getElem? (i := 8) rfl)) (aw_r24 _ (List.mem_of_getElem? (i := 9) rfl)) (aw_r24 _ (List.mem_of_getElem? (i := 10) rfl)) (aw_r1 _ (List.mem_of_getElem? (i := 15) rfl)) (aw_r24 _ (List.mem_of_getElem? (i := 11) rfl))) rfl rfl rfl hd_X3_hasFact ⟨(Nat.le_of_ble_eq_true rfl), (Nat.le_of_ble_eq_true rfl)⟩) (wg_1 G _) rfl rfl hl.1 rfl (Nat.le_of_ble_eq_true rfl) dX5_of_16 ⟨Nat.zero_le _, Nat.zero_le _⟩ (fun r5 σ4 H locs hw hk => ?_)
    refine lv_if_eq (tgt := 34) hx hb dX5_of_19 (by decide) (fun c6 => ?_) (fun c6 => ?_)
    · replace hw := hw.1 c6
      refine lv_iconst (v := (-1 : Int32)) hx hb dX5_of_34 (by decide) ?_
      exact k_iret X hk hw dX5_of_35
    · replace hw := hw.2 c6
      refine lv_aload_n hx hb dX5_of_22 rfl (lv_at hl 0 rfl) ?_
      refine k_get 0 X hk (wg_0 G _) rfl (hz_wsX50 _) (Nat.le_of_ble_eq_true rfl) (List.mem_cons_of_mem _ (aw_r1 _ (List.mem_of_getElem? (i := 16) rfl))) rfl dX5_of_23 ?_
      refine lv_iload_n hx hb dX5_of_26 rfl (lv_at hl 1 rfl) ?_
      refine lv_iload_n hx hb dX5_of_27 rfl (lv_at hl 2 rfl) ?_
      refine k_callVi (rest := []) X hk (c_X3_fact l G _ _ _ _ hw) (cwV 2 X.1.2.2.2.2 (gzV (aw_r20 _ (List.mem_of_getElem? (i := 19) rfl)) (aw_r20 _ (List.mem_of_getElem? (i := 20) rfl)) (aw_r20 _ (List.mem_of_getElem? (i := 21) rfl)) (aw_r1 _ (List.mem_of_getElem? (i := 15) rfl)) (aw_r20 _ (List.mem_of_getElem? (i := 22) rfl))) rfl rfl rfl hd_X3_fact ⟨(Nat.le_of_ble_eq_true rfl), (Nat.le_of_ble_eq_true rfl)⟩) (wg_1 G _) rfl rfl hl.1 rfl (Nat.le_of_ble_eq_true rfl) dX5_of_28 ⟨Nat.zero_le _, Nat.zero_le _⟩ (fun r8 σ7 H locs hw hk => ?_)
      refine lv_goto (tgt := 35) hx hb dX5_of_31 (by decide) ?_
      exact k_iret X hk hw dX5_of_35
def rm_X5_along : Room := { frames := 6, cells := 1, slots := 6, locals := 82 }
abbrev wz_X5_along : List Cond := Cond.code yX5_along cX5_along 3 (some .int) :: wsA
theorem hd_X5_along : yX5_along.cls = RX5 ∧ yX5_along.cls ≠ "java/lang/invoke/MethodHandle" ∧ yX5_along.cls ≠ "java/lang/invoke/VarHandle" ∧ (parseMethodDescriptor yX5_along.desc).map (fun d => d.parameters.length) = some 2 := by decide +kernel
def wp_X5_along_20 (QX : Sg → Prop) (Q : Int32 → Sg → Prop)  (σ : Sg) : Prop := QX σ
set_option maxHeartbeats 4000000 in
set_option maxRecDepth 100000 in
theorem t_X5_along_20 {p : Program} {l : Launch} {e : Env} {s : State} {m : MethodId} {args : Array Value} {below : List Frame} {meth : Method} {c : Code} {G : Gw} (X : KC p m meth c cX5_along 3 s args wz_X5_along RX5 (some .int) G) (hst : l.stackTraces = false) (hout : ∀ x ∈ c.exceptionTable.toList, False) (QX : Sg → Prop) (Q : Int32 → Sg → Prop)  : ∀ (σ : Sg) (H : Heap) (locs : List Loc) (ls : Array Slot), wp_X5_along_20 QX Q   σ → WK G s H locs σ → lv_has ls 3 [] → W p l e rm_X5_along s m args below meth c H locs 0 0 (ZX below args s G Q QX) (F0 m 20 ls []) := by
  have hx := X.1.1
  have hb := X.1.2.1
  intro σ H locs ls hw hk hl
  unfold wp_X5_along_20 at hw
  exact k_xthrow X hst hout hk hl.1 hw (List.mem_cons_of_mem _ (aw_r25 _ (List.mem_of_getElem? (i := 1) rfl))) (List.mem_cons_of_mem _ (aw_r25 _ (List.mem_of_getElem? (i := 2) rfl))) dX5_along_20 dX5_along_23 dX5_along_24 dX5_along_26 dX5_along_29 (Nat.le_of_ble_eq_true rfl) (Nat.le_of_ble_eq_true rfl) (Nat.le_of_ble_eq_true rfl) (Nat.le_of_ble_eq_true rfl)
def wp_X5_along (σ : Sg) (QX : Sg → Prop) (p1 p2 : Int32) (Q : Int32 → Sg → Prop) : Prop := wp_X3_hasRoad σ p1 (fun r2 σ1 => (r2 = 0 → (wp_X5_along_20 QX Q   σ1)) ∧ (¬ (r2 = 0) → ((p2 < 0 → (wp_X5_along_20 QX Q   σ1)) ∧ (¬ (p2 < 0) → ((p2 ≤ (4 : Int32) → ((p2 = (0 : Int32) → (vp_in ((2 : Int32) * p1) 24 ∧ (Q (σ1 7 (((2 : Int32) * p1)).toNatClampNeg) σ1))) ∧ (p2 = (1 : Int32) → (vp_in (((2 : Int32) * p1) + (1 : Int32)) 24 ∧ (Q (σ1 7 ((((2 : Int32) * p1) + (1 : Int32))).toNatClampNeg) σ1))) ∧ (p2 = (2 : Int32) → (vp_in p1 12 ∧ (Q (σ1 6 (p1).toNatClampNeg) σ1))) ∧ (p2 = (3 : Int32) → (vp_in ((2 : Int32) * p1) 24 ∧ (Q (σ1 8 (((2 : Int32) * p1)).toNatClampNeg) σ1))) ∧ (¬ p2 = (0 : Int32) → ¬ p2 = (1 : Int32) → ¬ p2 = (2 : Int32) → ¬ p2 = (3 : Int32) → (vp_in (((2 : Int32) * p1) + (1 : Int32)) 24 ∧ (Q (σ1 8 ((((2 : Int32) * p1) + (1 : Int32))).toNatClampNeg) σ1))))) ∧ (¬ (p2 ≤ (4 : Int32)) → (wp_X5_along_20 QX Q   σ1)))))))
set_option maxHeartbeats 4000000 in
set_option maxRecDepth 100000 in
theorem c_X5_along (l : Launch) (hst : l.stackTraces = false) (G : Gw) (σ : Sg) (QX : Sg → Prop) (p1 p2 : Int32) (Q : Int32 → Sg → Prop) (hw : wp_X5_along σ QX p1 p2 Q) : MetX l yX5_along wz_X5_along rm_X5_along G σ [.ref (G.1 0), .int p1, .int p2] Q QX := by
  refine MetX.of cX5_along 3 (some .int) (by decide) rfl (Nat.le_of_ble_eq_true rfl) ?_
  intro p e s m below meth c X hout hk ls hl
  have X : KC p m meth c cX5_along 3 s _ wz_X5_along RX5 (some .int) G := X
  have hl : lv_has ls 3 [(0, .ref (G.1 0)), (1, .int p1), (2, .int p2)] := hl
  unfold wp_X5_along at hw
  have hx := X.1.1
  have hb := X.1.2.1
  refine lv_aload_n hx hb dX5_along_0 rfl (lv_at hl 0 rfl) ?_
  refine k_get 0 X hk (wg_0 G _) rfl (hz_wsX50 _) (Nat.le_of_ble_eq_true rfl) (List.mem_cons_of_mem _ (aw_r1 _ (List.mem_of_getElem? (i := 16) rfl))) rfl dX5_along_1 ?_
  refine lv_iload_n hx hb dX5_along_4 rfl (lv_at hl 1 rfl) ?_
  refine k_callVi (rest := []) X hk (c_X3_hasRoad l G _ _ _ hw) (cwV 1 X.1.2.2.2.2 (gzV (aw_r25 _ (List.mem_of_getElem? (i := 6) rfl)) (aw_r12 _ (List.mem_of_getElem? (i := 16) rfl)) (aw_r12 _ (List.mem_of_getElem? (i := 17) rfl)) (aw_r1 _ (List.mem_of_getElem? (i := 15) rfl)) (aw_r12 _ (List.mem_of_getElem? (i := 18) rfl))) rfl rfl rfl hd_X3_hasRoad ⟨(Nat.le_of_ble_eq_true rfl), (Nat.le_of_ble_eq_true rfl)⟩) (wg_1 G _) rfl rfl hl.1 rfl (Nat.le_of_ble_eq_true rfl) dX5_along_5 ⟨Nat.zero_le _, Nat.zero_le _⟩ (fun r2 σ1 H locs hw hk => ?_)
  refine lv_if_eq (tgt := 20) hx hb dX5_along_8 (by decide) (fun c3 => ?_) (fun c3 => ?_)
  · replace hw := hw.1 c3
    exact t_X5_along_20 X hst hout QX Q   _  _ _ _ hw hk (lv_sub hl [] rfl)
  · replace hw := hw.2 c3
    refine lv_iload_n hx hb dX5_along_11 rfl (lv_at hl 2 rfl) ?_
    refine lv_if_lt (tgt := 20) hx hb dX5_along_12 (by decide) (fun c4 => ?_) (fun c4 => ?_)
    · replace hw := hw.1 c4
      exact t_X5_along_20 X hst hout QX Q   _  _ _ _ hw hk (lv_sub hl [] rfl)
    · replace hw := hw.2 c4
      refine lv_iload_n hx hb dX5_along_15 rfl (lv_at hl 2 rfl) ?_
      refine lv_iconst (v := (4 : Int32)) hx hb dX5_along_16 (by decide) ?_
      refine lv_icmp_le (tgt := 30) hx hb dX5_along_17 (by decide) (fun c5 => ?_) (fun c5 => ?_)
      · replace hw := hw.1 c5
        refine lv_iload_n hx hb dX5_along_30 rfl (lv_at hl 2 rfl) ?_
        by_cases c6 : p2 = (0 : Int32)
        · have ec6 : (p2).toInt = 0 := by rw [c6]; rfl
          refine lv_tableIn (tgt := 60) hx hb dX5_along_31 (by rw [ec6]; decide) (by rw [ec6]; decide) (by rw [ec6]; rfl) (by decide) ?_
          replace hw := hw.1 c6
          refine lv_aload_n hx hb dX5_along_60 rfl (lv_at hl 0 rfl) ?_
          refine k_get 0 X hk (wg_0 G _) rfl (hz_wsX50 _) (Nat.le_of_ble_eq_true rfl) (List.mem_cons_of_mem _ (aw_r1 _ (List.mem_of_getElem? (i := 16) rfl))) rfl dX5_along_61 ?_
          refine k_get 3 X hk (wg_1 G _) rfl (hz_wsX30 _) (Nat.le_of_ble_eq_true rfl) (List.mem_cons_of_mem _ (aw_r25 _ (List.mem_of_getElem? (i := 3) rfl))) rfl dX5_along_64 ?_
          refine lv_iconst (v := (2 : Int32)) hx hb dX5_along_67 (by decide) ?_
          refine lv_iload_n hx hb dX5_along_68 rfl (lv_at hl 1 rfl) ?_
          refine lv_imul hx hb dX5_along_69 ?_
          refine k_iald X hk (wg_7 G _) hw.1 dX5_along_70 ?_
          replace hw := hw.2
          exact k_xret X hk hw dX5_along_71
        replace hw := hw.2
        by_cases c7 : p2 = (1 : Int32)
        · have ec7 : (p2).toInt = 1 := by rw [c7]; rfl
          refine lv_tableIn (tgt := 72) hx hb dX5_along_31 (by rw [ec7]; decide) (by rw [ec7]; decide) (by rw [ec7]; rfl) (by decide) ?_
          replace hw := hw.1 c7
          refine lv_aload_n hx hb dX5_along_72 rfl (lv_at hl 0 rfl) ?_
          refine k_get 0 X hk (wg_0 G _) rfl (hz_wsX50 _) (Nat.le_of_ble_eq_true rfl) (List.mem_cons_of_mem _ (aw_r1 _ (List.mem_of_getElem? (i := 16) rfl))) rfl dX5_along_73 ?_
          refine k_get 3 X hk (wg_1 G _) rfl (hz_wsX30 _) (Nat.le_of_ble_eq_true rfl) (List.mem_cons_of_mem _ (aw_r25 _ (List.mem_of_getElem? (i := 3) rfl))) rfl dX5_along_76 ?_
          refine lv_iconst (v := (2 : Int32)) hx hb dX5_along_79 (by decide) ?_
          refine lv_iload_n hx hb dX5_along_80 rfl (lv_at hl 1 rfl) ?_
          refine lv_imul hx hb dX5_along_81 ?_
          refine lv_iconst (v := (1 : Int32)) hx hb dX5_along_82 (by decide) ?_
          refine lv_iadd hx hb dX5_along_83 ?_
          refine k_iald X hk (wg_7 G _) hw.1 dX5_along_84 ?_
          replace hw := hw.2
          exact k_xret X hk hw dX5_along_85
        replace hw := hw.2
        by_cases c8 : p2 = (2 : Int32)
        · have ec8 : (p2).toInt = 2 := by rw [c8]; rfl
          refine lv_tableIn (tgt := 86) hx hb dX5_along_31 (by rw [ec8]; decide) (by rw [ec8]; decide) (by rw [ec8]; rfl) (by decide) ?_
          replace hw := hw.1 c8
          refine lv_aload_n hx hb dX5_along_86 rfl (lv_at hl 0 rfl) ?_
          refine k_get 0 X hk (wg_0 G _) rfl (hz_wsX50 _) (Nat.le_of_ble_eq_true rfl) (List.mem_cons_of_mem _ (aw_r1 _ (List.mem_of_getElem? (i := 16) rfl))) rfl dX5_along_87 ?_
          refine k_get 2 X hk (wg_1 G _) rfl (hz_wsX30 _) (Nat.le_of_ble_eq_true rfl) (List.mem_cons_of_mem _ (aw_r25 _ (List.mem_of_getElem? (i := 4) rfl))) rfl dX5_along_90 ?_
          refine lv_iload_n hx hb dX5_along_93 rfl (lv_at hl 1 rfl) ?_
          refine k_iald X hk (wg_6 G _) hw.1 dX5_along_94 ?_
          replace hw := hw.2
          exact k_xret X hk hw dX5_along_95
        replace hw := hw.2
        by_cases c9 : p2 = (3 : Int32)
        · have ec9 : (p2).toInt = 3 := by rw [c9]; rfl
          refine lv_tableIn (tgt := 96) hx hb dX5_along_31 (by rw [ec9]; decide) (by rw [ec9]; decide) (by rw [ec9]; rfl) (by decide) ?_
          replace hw := hw.1 c9
          refine lv_aload_n hx hb dX5_along_96 rfl (lv_at hl 0 rfl) ?_
          refine k_get 0 X hk (wg_0 G _) rfl (hz_wsX50 _) (Nat.le_of_ble_eq_true rfl) (List.mem_cons_of_mem _ (aw_r1 _ (List.mem_of_getElem? (i := 16) rfl))) rfl dX5_along_97 ?_
          refine k_get 4 X hk (wg_1 G _) rfl (hz_wsX30 _) (Nat.le_of_ble_eq_true rfl) (List.mem_cons_of_mem _ (aw_r25 _ (List.mem_of_getElem? (i := 5) rfl))) rfl dX5_along_100 ?_
          refine lv_iconst (v := (2 : Int32)) hx hb dX5_along_103 (by decide) ?_
          refine lv_iload_n hx hb dX5_along_104 rfl (lv_at hl 1 rfl) ?_
          refine lv_imul hx hb dX5_along_105 ?_
          refine k_iald X hk (wg_8 G _) hw.1 dX5_along_106 ?_
          replace hw := hw.2
          exact k_xret X hk hw dX5_along_107
        replace hw := hw.2
        have ec6 := lv_neT (a := 0) c6 rfl
        have ec7 := lv_neT (a := 1) c7 rfl
        have ec8 := lv_neT (a := 2) c8 rfl
        have ec9 := lv_neT (a := 3) c9 rfl
        refine lv_tableOut (tgt := 108) hx hb dX5_along_31 (by omega) (by decide) ?_
        replace hw := hw c6 c7 c8 c9
        refine lv_aload_n hx hb dX5_along_108 rfl (lv_at hl 0 rfl) ?_
        refine k_get 0 X hk (wg_0 G _) rfl (hz_wsX50 _) (Nat.le_of_ble_eq_true rfl) (List.mem_cons_of_mem _ (aw_r1 _ (List.mem_of_getElem? (i := 16) rfl))) rfl dX5_along_109 ?_
        refine k_get 4 X hk (wg_1 G _) rfl (hz_wsX30 _) (Nat.le_of_ble_eq_true rfl) (List.mem_cons_of_mem _ (aw_r25 _ (List.mem_of_getElem? (i := 5) rfl))) rfl dX5_along_112 ?_
        refine lv_iconst (v := (2 : Int32)) hx hb dX5_along_115 (by decide) ?_
        refine lv_iload_n hx hb dX5_along_116 rfl (lv_at hl 1 rfl) ?_
        refine lv_imul hx hb dX5_along_117 ?_
        refine lv_iconst (v := (1 : Int32)) hx hb dX5_along_118 (by decide) ?_
        refine lv_iadd hx hb dX5_along_119 ?_
        refine k_iald X hk (wg_8 G _) hw.1 dX5_along_120 ?_
        replace hw := hw.2
        exact k_xret X hk hw dX5_along_121
      · replace hw := hw.2 c5
        exact t_X5_along_20 X hst hout QX Q   _  _ _ _ hw hk (lv_sub hl [] rfl)
def rm_X5_isT : Room := { frames := 0, cells := 0, slots := 0, locals := 0 }
abbrev wz_X5_isT : List Cond := Cond.code yX5_isT cX5_isT 1 (some .boolean) :: wsA
theorem hds_X5_isT : yX5_isT.cls ≠ "java/lang/invoke/MethodHandle" ∧ yX5_isT.cls ≠ "java/lang/invoke/VarHandle" ∧ (parseMethodDescriptor yX5_isT.desc).map (fun d => d.parameters.length) = some 1 := by decide +kernel
def wp_X5_isT (σ : Sg) (p0 : Int32) (Q : Int32 → Sg → Prop) : Prop := (p0 < 0 → (bz (0 : Int32) ∧ Q (0 : Int32) σ)) ∧ (¬ (p0 < 0) → (((40 : Int32) < p0 → (bz (0 : Int32) ∧ Q (0 : Int32) σ)) ∧ (¬ ((40 : Int32) < p0) → (bz (1 : Int32) ∧ Q (1 : Int32) σ))))
set_option maxHeartbeats 4000000 in
set_option maxRecDepth 100000 in
theorem c_X5_isT (l : Launch) (G : Gw) (σ : Sg) (p0 : Int32) (Q : Int32 → Sg → Prop) (hw : wp_X5_isT σ p0 Q) : MetI l yX5_isT wz_X5_isT rm_X5_isT G σ [.int p0] Q := by
  refine MetI.of cX5_isT 1 (some .boolean) (by decide) rfl (Nat.le_of_ble_eq_true rfl) ?_
  intro p e s m below meth c X hk ls hl
  have X : KC p m meth c cX5_isT 1 s _ wz_X5_isT RX5 (some .boolean) G := X
  have hl : lv_has ls 1 [(0, .int p0)] := hl
  unfold wp_X5_isT at hw
  have hx := X.1.1
  have hb := X.1.2.1
  refine lv_iload_n hx hb dX5_isT_0 rfl (lv_at hl 0 rfl) ?_
  refine lv_if_lt (tgt := 14) hx hb dX5_isT_1 (by decide) (fun c1 => ?_) (fun c1 => ?_)
  · replace hw := hw.1 c1
    refine lv_iconst (v := (0 : Int32)) hx hb dX5_isT_14 (by decide) ?_
    exact k_zret X hk hw dX5_isT_15
  · replace hw := hw.2 c1
    refine lv_iload_n hx hb dX5_isT_4 rfl (lv_at hl 0 rfl) ?_
    refine lv_bipush (v := (40 : Int32)) hx hb dX5_isT_5 (by decide) ?_
    refine lv_icmp_gt (tgt := 14) hx hb dX5_isT_7 (by decide) (fun c2 => ?_) (fun c2 => ?_)
    · replace hw := hw.1 c2
      refine lv_iconst (v := (0 : Int32)) hx hb dX5_isT_14 (by decide) ?_
      exact k_zret X hk hw dX5_isT_15
    · replace hw := hw.2 c2
      refine lv_iconst (v := (1 : Int32)) hx hb dX5_isT_10 (by decide) ?_
      refine lv_goto (tgt := 15) hx hb dX5_isT_11 (by decide) ?_
      exact k_zret X hk hw dX5_isT_15
def rm_X5_safe : Room := { frames := 5, cells := 0, slots := 0, locals := 113 }
abbrev wz_X5_safe : List Cond := Cond.code yX5_safe cX5_safe 2 (some .int) :: wsA
theorem hd_X5_safe : yX5_safe.cls = RX5 ∧ yX5_safe.cls ≠ "java/lang/invoke/MethodHandle" ∧ yX5_safe.cls ≠ "java/lang/invoke/VarHandle" ∧ (parseMethodDescriptor yX5_safe.desc).map (fun d => d.parameters.length) = some 1 := by decide +kernel
def wp_X5_safe (σ : Sg) (p1 : Int32) (Q : Int32 → Sg → Prop) : Prop := wp_X5_isT σ p1 (fun r2 σ1 => (r2 = 0 → (Q (-1 : Int32) σ1)) ∧ (¬ (r2 = 0) → (wp_X0_mostSafeBy σ1 p1 (fun r5 σ4 => Q r5 σ4))))
set_option maxHeartbeats 4000000 in
set_option maxRecDepth 100000 in
theorem c_X5_safe (l : Launch) (G : Gw) (σ : Sg) (p1 : Int32) (Q : Int32 → Sg → Prop) (hw : wp_X5_safe σ p1 Q) : MetI l yX5_safe wz_X5_safe rm_X5_safe G σ [.ref (G.1 0), .int p1] Q := by
  refine MetI.of cX5_safe 2 (some .int) (by decide) rfl (Nat.le_of_ble_eq_true rfl) ?_
  intro p e s m below meth c X hk ls hl
  have X : KC p m meth c cX5_safe 2 s _ wz_X5_safe RX5 (some .int) G := X
  have hl : lv_has ls 2 [(0, .ref (G.1 0)), (1, .int p1)] := hl
  unfold wp_X5_safe at hw
  have hx := X.1.1
  have hb := X.1.2.1
  refine lv_iload_n hx hb dX5_safe_0 rfl (lv_at hl 1 rfl) ?_
  refine k_callSi (rest := []) X hk (c_X5_isT l G _ _ _ hw) (va_cwS 1 X.1.2.2.2.2 (gzS (aw_r25 _ (List.mem_of_getElem? (i := 19) rfl)) (aw_r25 _ (List.mem_of_getElem? (i := 20) rfl)) (aw_r1 _ (List.mem_of_getElem? (i := 2) rfl)) (aw_r25 _ (List.mem_of_getElem? (i := 21) rfl))) rfl rfl rfl hds_X5_isT ⟨(Nat.le_of_ble_eq_true rfl), (Nat.le_of_ble_eq_true rfl)⟩) rfl hl.1 rfl (Nat.le_of_ble_eq_true rfl) dX5_safe_1 ⟨Nat.zero_le _, Nat.zero_le _⟩ (fun r2 σ1 H locs hw hk => ?_)
  refine lv_if_eq (tgt := 18) hx hb dX5_safe_4 (by decide) (fun c3 => ?_) (fun c3 => ?_)
  · replace hw := hw.1 c3
    refine lv_iconst (v := (-1 : Int32)) hx hb dX5_safe_18 (by decide) ?_
    exact k_iret X hk hw dX5_safe_19
  · replace hw := hw.2 c3
    refine lv_aload_n hx hb dX5_safe_7 rfl (lv_at hl 0 rfl) ?_
    refine k_get 3 X hk (wg_0 G _) rfl (hz_wsX50 _) (Nat.le_of_ble_eq_true rfl) (List.mem_cons_of_mem _ (aw_r2 _ (List.mem_of_getElem? (i := 4) rfl))) rfl dX5_safe_8 ?_
    refine lv_iload_n hx hb dX5_safe_11 rfl (lv_at hl 1 rfl) ?_
    refine k_callVi (rest := []) X hk (c_X0_mostSafeBy l G _ _ _ hw) (cwV 1 X.1.2.2.2.2 (gzV (aw_r25 _ (List.mem_of_getElem? (i := 22) rfl)) (aw_r25 _ (List.mem_of_getElem? (i := 23) rfl)) (aw_r26 _ (List.mem_of_getElem? (i := 0) rfl)) (aw_r2 _ (List.mem_of_getElem? (i := 3) rfl)) (aw_r26 _ (List.mem_of_getElem? (i := 1) rfl))) rfl rfl rfl hd_X0_mostSafeBy ⟨(Nat.le_of_ble_eq_true rfl), (Nat.le_of_ble_eq_true rfl)⟩) (wg_4 G _) rfl rfl hl.1 rfl (Nat.le_of_ble_eq_true rfl) dX5_safe_12 ⟨Nat.zero_le _, Nat.zero_le _⟩ (fun r5 σ4 H locs hw hk => ?_)
    refine lv_goto (tgt := 19) hx hb dX5_safe_15 (by decide) ?_
    exact k_iret X hk hw dX5_safe_19
def rm_X5_told : Room := { frames := 0, cells := 0, slots := 0, locals := 0 }
abbrev wz_X5_told : List Cond := Cond.code yX5_told cX5_told 1 (some .int) :: wsA
theorem hds_X5_told : yX5_told.cls ≠ "java/lang/invoke/MethodHandle" ∧ yX5_told.cls ≠ "java/lang/invoke/VarHandle" ∧ (parseMethodDescriptor yX5_told.desc).map (fun d => d.parameters.length) = some 1 := by decide +kernel
def wp_X5_told (σ : Sg) (p0 : Int32) (Q : Int32 → Sg → Prop) : Prop := (p0 = (41 : Int32) → (Q (-1 : Int32) σ)) ∧ (¬ (p0 = (41 : Int32)) → (Q p0 σ))
set_option maxHeartbeats 4000000 in
set_option maxRecDepth 100000 in
theorem c_X5_told (l : Launch) (G : Gw) (σ : Sg) (p0 : Int32) (Q : Int32 → Sg → Prop) (hw : wp_X5_told σ p0 Q) : MetI l yX5_told wz_X5_told rm_X5_told G σ [.int p0] Q := by
  refine MetI.of cX5_told 1 (some .int) (by decide) rfl (Nat.le_of_ble_eq_true rfl) ?_
  intro p e s m below meth c X hk ls hl
  have X : KC p m meth c cX5_told 1 s _ wz_X5_told RX5 (some .int) G := X
  have hl : lv_has ls 1 [(0, .int p0)] := hl
  unfold wp_X5_told at hw
  have hx := X.1.1
  have hb := X.1.2.1
  refine lv_iload_n hx hb dX5_told_0 rfl (lv_at hl 0 rfl) ?_
  refine lv_bipush (v := (41 : Int32)) hx hb dX5_told_1 (by decide) ?_
  refine lv_icmp_ne (tgt := 10) hx hb dX5_told_3 (by decide) (fun c1 => ?_) (fun c1 => ?_)
  · replace hw := hw.2 c1
    refine lv_iload_n hx hb dX5_told_10 rfl (lv_at hl 0 rfl) ?_
    exact k_iret X hk hw dX5_told_11
  · replace hw := hw.1 c1
    refine lv_iconst (v := (-1 : Int32)) hx hb dX5_told_6 (by decide) ?_
    refine lv_goto (tgt := 11) hx hb dX5_told_7 (by decide) ?_
    exact k_iret X hk hw dX5_told_11
def rm_X5_quickest : Room := { frames := 6, cells := 0, slots := 0, locals := 136 }
abbrev wz_X5_quickest : List Cond := Cond.code yX5_quickest cX5_quickest 1 (some .int) :: wsA
theorem hd_X5_quickest : yX5_quickest.cls = RX5 ∧ yX5_quickest.cls ≠ "java/lang/invoke/MethodHandle" ∧ yX5_quickest.cls ≠ "java/lang/invoke/VarHandle" ∧ (parseMethodDescriptor yX5_quickest.desc).map (fun d => d.parameters.length) = some 0 := by decide +kernel
def wp_X5_quickest (σ : Sg) (Q : Int32 → Sg → Prop) : Prop := wp_X0_soonest σ  (fun r2 σ1 => wp_X5_told σ1 r2 (fun r4 σ3 => Q r4 σ3))
set_option maxHeartbeats 4000000 in
set_option maxRecDepth 100000 in
theorem c_X5_quickest (l : Launch) (G : Gw) (σ : Sg) (Q : Int32 → Sg → Prop) (hw : wp_X5_quickest σ  Q) : MetI l yX5_quickest wz_X5_quickest rm_X5_quickest G σ [.ref (G.1 0)] Q := by
  refine MetI.of cX5_quickest 1 (some .int) (by decide) rfl (Nat.le_of_ble_eq_true rfl) ?_
  intro p e s m below meth c X hk ls hl
  have X : KC p m meth c cX5_quickest 1 s _ wz_X5_quickest RX5 (some .int) G := X
  have hl : lv_has ls 1 [(0, .ref (G.1 0))] := hl
  unfold wp_X5_quickest at hw
  have hx := X.1.1
  have hb := X.1.2.1
  refine lv_aload_n hx hb dX5_quickest_0 rfl (lv_at hl 0 rfl) ?_
  refine k_get 3 X hk (wg_0 G _) rfl (hz_wsX50 _) (Nat.le_of_ble_eq_true rfl) (List.mem_cons_of_mem _ (aw_r2 _ (List.mem_of_getElem? (i := 4) rfl))) rfl dX5_quickest_1 ?_
  refine k_callVi (rest := []) X hk (c_X0_soonest l G _  _ hw) (cwV 0 X.1.2.2.2.2 (gzV (aw_r29 _ (List.mem_of_getElem? (i := 23) rfl)) (aw_r30 _ (List.mem_of_getElem? (i := 0) rfl)) (aw_r30 _ (List.mem_of_getElem? (i := 1) rfl)) (aw_r2 _ (List.mem_of_getElem? (i := 3) rfl)) (aw_r30 _ (List.mem_of_getElem? (i := 2) rfl))) rfl rfl rfl hd_X0_soonest ⟨(Nat.le_of_ble_eq_true rfl), (Nat.le_of_ble_eq_true rfl)⟩) (wg_4 G _) rfl rfl hl.1 rfl (Nat.le_of_ble_eq_true rfl) dX5_quickest_4 ⟨Nat.zero_le _, Nat.zero_le _⟩ (fun r2 σ1 H locs hw hk => ?_)
  refine k_callSi (rest := []) X hk (c_X5_told l G _ _ _ hw) (va_cwS 1 X.1.2.2.2.2 (gzS (aw_r30 _ (List.mem_of_getElem? (i := 22) rfl)) (aw_r30 _ (List.mem_of_getElem? (i := 23) rfl)) (aw_r1 _ (List.mem_of_getElem? (i := 2) rfl)) (aw_r31 _ (List.mem_of_getElem? (i := 0) rfl))) rfl rfl rfl hds_X5_told ⟨(Nat.le_of_ble_eq_true rfl), (Nat.le_of_ble_eq_true rfl)⟩) rfl hl.1 rfl (Nat.le_of_ble_eq_true rfl) dX5_quickest_7 ⟨Nat.zero_le _, Nat.zero_le _⟩ (fun r4 σ3 H locs hw hk => ?_)
  exact k_iret X hk hw dX5_quickest_10
def rm_X5_open : Room := { frames := 5, cells := 0, slots := 0, locals := 113 }
abbrev wz_X5_open : List Cond := Cond.code yX5_open cX5_open 4 (some .boolean) :: wsA
theorem hd_X5_open : yX5_open.cls = RX5 ∧ yX5_open.cls ≠ "java/lang/invoke/MethodHandle" ∧ yX5_open.cls ≠ "java/lang/invoke/VarHandle" ∧ (parseMethodDescriptor yX5_open.desc).map (fun d => d.parameters.length) = some 3 := by decide +kernel
def wp_X5_open (σ : Sg) (p1 p2 p3 : Int32) (Q : Int32 → Sg → Prop) : Prop := wp_X5_isT σ p1 (fun r2 σ1 => (r2 = 0 → (bz (0 : Int32) ∧ Q (0 : Int32) σ1)) ∧ (¬ (r2 = 0) → (wp_X3_hasPlace σ1 p2 (fun r5 σ4 => (r5 = 0 → (bz (0 : Int32) ∧ Q (0 : Int32) σ4)) ∧ (¬ (r5 = 0) → ((p3 < 0 → (bz (0 : Int32) ∧ Q (0 : Int32) σ4)) ∧ (¬ (p3 < 0) → ((p3 ≤ p1 → (wp_X0_findOpen σ4 p1 (fun σ9 => wp_X0_isOpen σ9 p2 p3 (fun r12 σ11 => bz r12 ∧ Q r12 σ11)))) ∧ (¬ (p3 ≤ p1) → (bz (0 : Int32) ∧ Q (0 : Int32) σ4))))))))))
set_option maxHeartbeats 4000000 in
set_option maxRecDepth 100000 in
theorem c_X5_open (l : Launch) (G : Gw) (σ : Sg) (p1 p2 p3 : Int32) (Q : Int32 → Sg → Prop) (hw : wp_X5_open σ p1 p2 p3 Q) : MetI l yX5_open wz_X5_open rm_X5_open G σ [.ref (G.1 0), .int p1, .int p2, .int p3] Q := by
  refine MetI.of cX5_open 4 (some .boolean) (by decide) rfl (Nat.le_of_ble_eq_true rfl) ?_
  intro p e s m below meth c X hk ls hl
  have X : KC p m meth c cX5_open 4 s _ wz_X5_open RX5 (some .boolean) G := X
  have hl : lv_has ls 4 [(0, .ref (G.1 0)), (1, .int p1), (2, .int p2), (3, .int p3)] := hl
  unfold wp_X5_open at hw
  have hx := X.1.1
  have hb := X.1.2.1
  refine lv_iload_n hx hb dX5_open_0 rfl (lv_at hl 1 rfl) ?_
  refine k_callSi (rest := []) X hk (c_X5_isT l G _ _ _ hw) (va_cwS 1 X.1.2.2.2.2 (gzS (aw_r25 _ (List.mem_of_getElem? (i := 19) rfl)) (aw_r25 _ (List.mem_of_getElem? (i := 20) rfl)) (aw_r1 _ (List.mem_of_getElem? (i := 2) rfl)) (aw_r25 _ (List.mem_of_getElem? (i := 21) rfl))) rfl rfl rfl hds_X5_isT ⟨(Nat.le_of_ble_eq_true rfl), (Nat.le_of_ble_eq_true rfl)⟩) rfl hl.1 rfl (Nat.le_of_ble_eq_true rfl) dX5_open_1 ⟨Nat.zero_le _, Nat.zero_le _⟩ (fun r2 σ1 H locs hw hk => ?_)
  refine lv_if_eq (tgt := 27) hx hb dX5_open_4 (by decide) (fun c3 => ?_) (fun c3 => ?_)
  · replace hw := hw.1 c3
    refine lv_iconst (v := (0 : Int32)) hx hb dX5_open_27 (by decide) ?_
    exact k_zret X hk hw dX5_open_28
  · replace hw := hw.2 c3
    refine lv_aload_n hx hb dX5_open_7 rfl (lv_at hl 0 rfl) ?_
    refine k_get 0 X hk (wg_0 G _) rfl (hz_wsX50 _) (Nat.le_of_ble_eq_true rfl) (List.mem_cons_of_mem _ (aw_r1 _ (List.mem_of_getElem? (i := 16) rfl))) rfl dX5_open_8 ?_
    refine lv_iload_n hx hb dX5_open_11 rfl (lv_at hl 2 rfl) ?_
    refine k_callVi (rest := []) X hk (c_X3_hasPlace l G _ _ _ hw) (cwV 1 X.1.2.2.2.2 (gzV (aw_r20 _ (List.mem_of_getElem? (i := 18) rfl)) (aw_r12 _ (List.mem_of_getElem? (i := 11) rfl)) (aw_r12 _ (List.mem_of_getElem? (i := 12) rfl)) (aw_r1 _ (List.mem_of_getElem? (i := 15) rfl)) (aw_r12 _ (List.mem_of_getElem? (i := 13) rfl))) rfl rfl rfl hd_X3_hasPlace ⟨(Nat.le_of_ble_eq_true rfl), (Nat.le_of_ble_eq_true rfl)⟩) (wg_1 G _) rfl rfl hl.1 rfl (Nat.le_of_ble_eq_true rfl) dX5_open_12 ⟨Nat.zero_le _, Nat.zero_le _⟩ (fun r5 σ4 H locs hw hk => ?_)
    refine lv_if_eq (tgt := 27) hx hb dX5_open_15 (by decide) (fun c6 => ?_) (fun c6 => ?_)
    · replace hw := hw.1 c6
      refine lv_iconst (v := (0 : Int32)) hx hb dX5_open_27 (by decide) ?_
      exact k_zret X hk hw dX5_open_28
    · replace hw := hw.2 c6
      refine lv_iload_n hx hb dX5_open_18 rfl (lv_at hl 3 rfl) ?_
      refine lv_if_lt (tgt := 27) hx hb dX5_open_19 (by decide) (fun c7 => ?_) (fun c7 => ?_)
      · replace hw := hw.1 c7
        refine lv_iconst (v := (0 : Int32)) hx hb dX5_open_27 (by decide) ?_
        exact k_zret X hk hw dX5_open_28
      · replace hw := hw.2 c7
        refine lv_iload_n hx hb dX5_open_22 rfl (lv_at hl 3 rfl) ?_
        refine lv_iload_n hx hb dX5_open_23 rfl (lv_at hl 1 rfl) ?_
        refine lv_icmp_le (tgt := 29) hx hb dX5_open_24 (by decide) (fun c8 => ?_) (fun c8 => ?_)
        · replace hw := hw.1 c8
          refine lv_aload_n hx hb dX5_open_29 rfl (lv_at hl 0 rfl) ?_
          refine k_get 3 X hk (wg_0 G _) rfl (hz_wsX50 _) (Nat.le_of_ble_eq_true rfl) (List.mem_cons_of_mem _ (aw_r2 _ (List.mem_of_getElem? (i := 4) rfl))) rfl dX5_open_30 ?_
          refine lv_iload_n hx hb dX5_open_33 rfl (lv_at hl 1 rfl) ?_
          refine k_callVv (rest := []) X hk (c_X0_findOpen l G _ _ _ hw) (cwV 1 X.1.2.2.2.2 (gzV (aw_r31 _ (List.mem_of_getElem? (i := 21) rfl)) (aw_r31 _ (List.mem_of_getElem? (i := 22) rfl)) (aw_r31 _ (List.mem_of_getElem? (i := 23) rfl)) (aw_r2 _ (List.mem_of_getElem? (i := 3) rfl)) (aw_r32 _ (List.mem_of_getElem? (i := 0) rfl))) rfl rfl rfl hd_X0_findOpen ⟨(Nat.le_of_ble_eq_true rfl), (Nat.le_of_ble_eq_true rfl)⟩) (wg_4 G _) rfl rfl hl.1 rfl (Nat.le_of_ble_eq_true rfl) dX5_open_34 ⟨Nat.zero_le _, Nat.zero_le _⟩ (fun σ9 H locs hw hk => ?_)
          refine lv_aload_n hx hb dX5_open_37 rfl (lv_at hl 0 rfl) ?_
          refine k_get 3 X hk (wg_0 G _) rfl (hz_wsX50 _) (Nat.le_of_ble_eq_true rfl) (List.mem_cons_of_mem _ (aw_r2 _ (List.mem_of_getElem? (i := 4) rfl))) rfl dX5_open_38 ?_
          refine lv_iload_n hx hb dX5_open_41 rfl (lv_at hl 2 rfl) ?_
          refine lv_iload_n hx hb dX5_open_42 rfl (lv_at hl 3 rfl) ?_
          refine k_callVi (rest := []) X hk (c_X0_isOpen l G _ _ _ _ hw) (cwV 2 X.1.2.2.2.2 (gzV (aw_r32 _ (List.mem_of_getElem? (i := 1) rfl)) (aw_r32 _ (List.mem_of_getElem? (i := 2) rfl)) (aw_r32 _ (List.mem_of_getElem? (i := 3) rfl)) (aw_r2 _ (List.mem_of_getElem? (i := 3) rfl)) (aw_r32 _ (List.mem_of_getElem? (i := 4) rfl))) rfl rfl rfl hd_X0_isOpen ⟨(Nat.le_of_ble_eq_true rfl), (Nat.le_of_ble_eq_true rfl)⟩) (wg_4 G _) rfl rfl hl.1 rfl (Nat.le_of_ble_eq_true rfl) dX5_open_43 ⟨Nat.zero_le _, Nat.zero_le _⟩ (fun r12 σ11 H locs hw hk => ?_)
          exact k_zret X hk hw dX5_open_46
        · replace hw := hw.2 c8
          refine lv_iconst (v := (0 : Int32)) hx hb dX5_open_27 (by decide) ?_
          exact k_zret X hk hw dX5_open_28
def rm_X5_openings : Room := { frames := 5, cells := 0, slots := 0, locals := 113 }
abbrev wz_X5_openings : List Cond := Cond.code yX5_openings cX5_openings 5 (some .int) :: wsA
theorem hd_X5_openings : yX5_openings.cls = RX5 ∧ yX5_openings.cls ≠ "java/lang/invoke/MethodHandle" ∧ yX5_openings.cls ≠ "java/lang/invoke/VarHandle" ∧ (parseMethodDescriptor yX5_openings.desc).map (fun d => d.parameters.length) = some 2 := by decide +kernel
def wp_X5_openings_55 (Q : Int32 → Sg → Prop) (K33 : Int32 → Int32 → Int32 → Int32 → Sg → Prop) (x1 x2 x3 x4 : Int32) (σ : Sg) : Prop := ∀ x4_13 : Int32, x4_13 = (x4 + (1 : Int32)) → (K33 x1 x2 x3 x4_13 σ)
set_option maxHeartbeats 4000000 in
set_option maxRecDepth 100000 in
theorem t_X5_openings_55 {p : Program} {l : Launch} {e : Env} {s : State} {m : MethodId} {args : Array Value} {below : List Frame} {meth : Method} {c : Code} {G : Gw} (X : KC p m meth c cX5_openings 5 s args wz_X5_openings RX5 (some .int) G) (Q : Int32 → Sg → Prop) (K33 : Int32 → Int32 → Int32 → Int32 → Sg → Prop) (hK33 : ∀ (σ : Sg) (x1 x2 x3 x4 : Int32) (H : Heap) (locs : List Loc) (ls : Array Slot), K33 x1 x2 x3 x4 σ → WK G s H locs σ → lv_has ls 5 [(0, .ref (G.1 0)), (1, .int x1), (2, .int x2), (3, .int x3), (4, .int x4)] → W p l e rm_X5_openings s m args below meth c H locs 0 0 (ZI below args s G Q) (F0 m 33 ls [])) : ∀ (σ : Sg) (x1 x2 x3 x4 : Int32) (H : Heap) (locs : List Loc) (ls : Array Slot), wp_X5_openings_55 Q K33 x1 x2 x3 x4 σ → WK G s H locs σ → lv_has ls 5 [(0, .ref (G.1 0)), (1, .int x1), (2, .int x2), (3, .int x3), (4, .int x4)] → W p l e rm_X5_openings s m args below meth c H locs 0 0 (ZI below args s G Q) (F0 m 55 ls []) := by
  have hx := X.1.1
  have hb := X.1.2.1
  intro σ x1 x2 x3 x4 H locs ls hw hk hl
  unfold wp_X5_openings_55 at hw
  obtain ⟨x4_13, ex4_13⟩ : ∃ y : Int32, y = (x4 + (1 : Int32)) := ⟨_, rfl⟩
  replace hw := hw x4_13 ex4_13
  refine lv_iinc (v := x4_13) (lv' := [(4, .int x4_13), (0, .ref (G.1 0)), (1, .int x1), (2, .int x2), (3, .int x3)]) hx hb dX5_openings_55 hl (k := 4) rfl (by rw [ex4_13]; rfl) (Nat.le_of_ble_eq_true rfl) rfl (fun ls hl => ?_)
  refine lv_goto (tgt := 33) hx hb dX5_openings_58 (by decide) ?_
  exact hK33 _ _ _ _ _ _ _ _ hw hk (lv_sub hl [1, 2, 3, 4, 0] rfl)
def wp_X5_openings_33 (Q : Int32 → Sg → Prop)  : Nat → Int32 → Int32 → Int32 → Int32 → Sg → Prop
  | 0, _, _, _, _, _ => False
  | n + 1, x1, x2, x3, x4, σ => (x1 < x4 → (Q x3 σ)) ∧ (¬ (x1 < x4) → (wp_X0_isOpen σ x2 x4 (fun r11 σ10 => (r11 = 0 → (wp_X5_openings_55 Q (fun z1 z2 z3 z4 σ => wp_X5_openings_33 Q  n z1 z2 z3 z4 σ) x1 x2 x3 x4 σ10)) ∧ (¬ (r11 = 0) → (∀ x3_14 : Int32, x3_14 = (x3 + (1 : Int32)) → (wp_X5_openings_55 Q (fun z1 z2 z3 z4 σ => wp_X5_openings_33 Q  n z1 z2 z3 z4 σ) x1 x2 x3_14 x4 σ10))))))
set_option maxHeartbeats 4000000 in
set_option maxRecDepth 100000 in
theorem t_X5_openings_33 {p : Program} {l : Launch} {e : Env} {s : State} {m : MethodId} {args : Array Value} {below : List Frame} {meth : Method} {c : Code} {G : Gw} (X : KC p m meth c cX5_openings 5 s args wz_X5_openings RX5 (some .int) G) (Q : Int32 → Sg → Prop)  : ∀ (n : Nat) (σ : Sg) (x1 x2 x3 x4 : Int32) (H : Heap) (locs : List Loc) (ls : Array Slot), wp_X5_openings_33 Q  n x1 x2 x3 x4 σ → WK G s H locs σ → lv_has ls 5 [(0, .ref (G.1 0)), (1, .int x1), (2, .int x2), (3, .int x3), (4, .int x4)] → W p l e rm_X5_openings s m args below meth c H locs 0 0 (ZI below args s G Q) (F0 m 33 ls []) := by
  have hx := X.1.1
  have hb := X.1.2.1
  intro n
  induction n with
  | zero =>
    intro σ x1 x2 x3 x4 H locs ls hw hk hl
    exact False.elim hw
  | succ n ih =>
    intro σ x1 x2 x3 x4 H locs ls hw hk hl
    rw [wp_X5_openings_33] at hw
    refine lv_iload hx hb dX5_openings_33 (lv_at hl 4 rfl) ?_
    refine lv_iload_n hx hb dX5_openings_35 rfl (lv_at hl 1 rfl) ?_
    refine lv_icmp_gt (tgt := 61) hx hb dX5_openings_36 (by decide) (fun c9 => ?_) (fun c9 => ?_)
    · replace hw := hw.1 c9
      refine lv_iload_n hx hb dX5_openings_61 rfl (lv_at hl 3 rfl) ?_
      exact k_iret X hk hw dX5_openings_62
    · replace hw := hw.2 c9
      refine lv_aload_n hx hb dX5_openings_39 rfl (lv_at hl 0 rfl) ?_
      refine k_get 3 X hk (wg_0 G _) rfl (hz_wsX50 _) (Nat.le_of_ble_eq_true rfl) (List.mem_cons_of_mem _ (aw_r2 _ (List.mem_of_getElem? (i := 4) rfl))) rfl dX5_openings_40 ?_
      refine lv_iload_n hx hb dX5_openings_43 rfl (lv_at hl 2 rfl) ?_
      refine lv_iload hx hb dX5_openings_44 (lv_at hl 4 rfl) ?_
      refine k_callVi (rest := []) X hk (c_X0_isOpen l G _ _ _ _ hw) (cwV 2 X.1.2.2.2.2 (gzV (aw_r32 _ (List.mem_of_getElem? (i := 1) rfl)) (aw_r32 _ (List.mem_of_getElem? (i := 2) rfl)) (aw_r32 _ (List.mem_of_getElem? (i := 3) rfl)) (aw_r2 _ (List.mem_of_getElem? (i := 3) rfl)) (aw_r32 _ (List.mem_of_getElem? (i := 4) rfl))) rfl rfl rfl hd_X0_isOpen ⟨(Nat.le_of_ble_eq_true rfl), (Nat.le_of_ble_eq_true rfl)⟩) (wg_4 G _) rfl rfl hl.1 rfl (Nat.le_of_ble_eq_true rfl) dX5_openings_46 ⟨Nat.zero_le _, Nat.zero_le _⟩ (fun r11 σ10 H locs hw hk => ?_)
      refine lv_if_eq (tgt := 55) hx hb dX5_openings_49 (by decide) (fun c12 => ?_) (fun c12 => ?_)
      · replace hw := hw.1 c12
        exact t_X5_openings_55 X Q _ ih _ _ _ _ _ _ _ _ hw hk hl
      · replace hw := hw.2 c12
        obtain ⟨x3_14, ex3_14⟩ : ∃ y : Int32, y = (x3 + (1 : Int32)) := ⟨_, rfl⟩
        replace hw := hw x3_14 ex3_14
        refine lv_iinc (v := x3_14) (lv' := [(3, .int x3_14), (0, .ref (G.1 0)), (1, .int x1), (2, .int x2), (4, .int x4)]) hx hb dX5_openings_52 hl (k := 3) rfl (by rw [ex3_14]; rfl) (Nat.le_of_ble_eq_true rfl) rfl (fun ls hl => ?_)
        exact t_X5_openings_55 X Q _ ih _ _ _ _ _ _ _ _ hw hk (lv_sub hl [1, 2, 3, 0, 4] rfl)
def wp_X5_openings (σ : Sg) (p1 p2 : Int32) (Q : Int32 → Sg → Prop) : Prop := wp_X5_isT σ p1 (fun r2 σ1 => (r2 = 0 → (Q (-1 : Int32) σ1)) ∧ (¬ (r2 = 0) → (wp_X3_hasPlace σ1 p2 (fun r5 σ4 => (r5 = 0 → (Q (-1 : Int32) σ4)) ∧ (¬ (r5 = 0) → (wp_X0_findOpen σ4 p1 (fun σ7 => ∃ n0, wp_X5_openings_33 Q  n0 p1 p2 (0 : Int32) (0 : Int32) σ7)))))))
set_option maxHeartbeats 4000000 in
set_option maxRecDepth 100000 in
theorem c_X5_openings (l : Launch) (G : Gw) (σ : Sg) (p1 p2 : Int32) (Q : Int32 → Sg → Prop) (hw : wp_X5_openings σ p1 p2 Q) : MetI l yX5_openings wz_X5_openings rm_X5_openings G σ [.ref (G.1 0), .int p1, .int p2] Q := by
  refine MetI.of cX5_openings 5 (some .int) (by decide) rfl (Nat.le_of_ble_eq_true rfl) ?_
  intro p e s m below meth c X hk ls hl
  have X : KC p m meth c cX5_openings 5 s _ wz_X5_openings RX5 (some .int) G := X
  have hl : lv_has ls 5 [(0, .ref (G.1 0)), (1, .int p1), (2, .int p2)] := hl
  unfold wp_X5_openings at hw
  have hx := X.1.1
  have hb := X.1.2.1
  refine lv_iload_n hx hb dX5_openings_0 rfl (lv_at hl 1 rfl) ?_
  refine k_callSi (rest := []) X hk (c_X5_isT l G _ _ _ hw) (va_cwS 1 X.1.2.2.2.2 (gzS (aw_r25 _ (List.mem_of_getElem? (i := 19) rfl)) (aw_r25 _ (List.mem_of_getElem? (i := 20) rfl)) (aw_r1 _ (List.mem_of_getElem? (i := 2) rfl)) (aw_r25 _ (List.mem_of_getElem? (i := 21) rfl))) rfl rfl rfl hds_X5_isT ⟨(Nat.le_of_ble_eq_true rfl), (Nat.le_of_ble_eq_true rfl)⟩) rfl hl.1 rfl (Nat.le_of_ble_eq_true rfl) dX5_openings_1 ⟨Nat.zero_le _, Nat.zero_le _⟩ (fun r2 σ1 H locs hw hk => ?_)
  refine lv_if_eq (tgt := 18) hx hb dX5_openings_4 (by decide) (fun c3 => ?_) (fun c3 => ?_)
  · replace hw := hw.1 c3
    refine lv_iconst (v := (-1 : Int32)) hx hb dX5_openings_18 (by decide) ?_
    exact k_iret X hk hw dX5_openings_19
  · replace hw := hw.2 c3
    refine lv_aload_n hx hb dX5_openings_7 rfl (lv_at hl 0 rfl) ?_
    refine k_get 0 X hk (wg_0 G _) rfl (hz_wsX50 _) (Nat.le_of_ble_eq_true rfl) (List.mem_cons_of_mem _ (aw_r1 _ (List.mem_of_getElem? (i := 16) rfl))) rfl dX5_openings_8 ?_
    refine lv_iload_n hx hb dX5_openings_11 rfl (lv_at hl 2 rfl) ?_
    refine k_callVi (rest := []) X hk (c_X3_hasPlace l G _ _ _ hw) (cwV 1 X.1.2.2.2.2 (gzV (aw_r20 _ (List.mem_of_getElem? (i := 18) rfl)) (aw_r12 _ (List.mem_of_getElem? (i := 11) rfl)) (aw_r12 _ (List.mem_of_getElem? (i := 12) rfl)) (aw_r1 _ (List.mem_of_getElem? (i := 15) rfl)) (aw_r12 _ (List.mem_of_getElem? (i := 13) rfl))) rfl rfl rfl hd_X3_hasPlace ⟨(Nat.le_of_ble_eq_true rfl), (Nat.le_of_ble_eq_true rfl)⟩) (wg_1 G _) rfl rfl hl.1 rfl (Nat.le_of_ble_eq_true rfl) dX5_openings_12 ⟨Nat.zero_le _, Nat.zero_le _⟩ (fun r5 σ4 H locs hw hk => ?_)
    refine lv_if_ne (tgt := 20) hx hb dX5_openings_15 (by decide) (fun c6 => ?_) (fun c6 => ?_)
    · replace hw := hw.2 c6
      refine lv_aload_n hx hb dX5_openings_20 rfl (lv_at hl 0 rfl) ?_
      refine k_get 3 X hk (wg_0 G _) rfl (hz_wsX50 _) (Nat.le_of_ble_eq_true rfl) (List.mem_cons_of_mem _ (aw_r2 _ (List.mem_of_getElem? (i := 4) rfl))) rfl dX5_openings_21 ?_
      refine lv_iload_n hx hb dX5_openings_24 rfl (lv_at hl 1 rfl) ?_
      refine k_callVv (rest := []) X hk (c_X0_findOpen l G _ _ _ hw) (cwV 1 X.1.2.2.2.2 (gzV (aw_r31 _ (List.mem_of_getElem? (i := 21) rfl)) (aw_r31 _ (List.mem_of_getElem? (i := 22) rfl)) (aw_r31 _ (List.mem_of_getElem? (i := 23) rfl)) (aw_r2 _ (List.mem_of_getElem? (i := 3) rfl)) (aw_r32 _ (List.mem_of_getElem? (i := 0) rfl))) rfl rfl rfl hd_X0_findOpen ⟨(Nat.le_of_ble_eq_true rfl), (Nat.le_of_ble_eq_true rfl)⟩) (wg_4 G _) rfl rfl hl.1 rfl (Nat.le_of_ble_eq_true rfl) dX5_openings_25 ⟨Nat.zero_le _, Nat.zero_le _⟩ (fun σ7 H locs hw hk => ?_)
      refine lv_iconst (v := (0 : Int32)) hx hb dX5_openings_28 (by decide) ?_
      refine lv_istore_n (lv' := [(3, .int (0 : Int32)), (0, .ref (G.1 0)), (1, .int p1), (2, .int p2)]) hx hb dX5_openings_29 rfl hl (Nat.le_of_ble_eq_true rfl) rfl (fun ls hl => ?_)
      refine lv_iconst (v := (0 : Int32)) hx hb dX5_openings_30 (by decide) ?_
      refine lv_istore (lv' := [(4, .int (0 : Int32)), (3, .int (0 : Int32)), (0, .ref (G.1 0)), (1, .int p1), (2, .int p2)]) hx hb dX5_openings_31 hl (Nat.le_of_ble_eq_true rfl) rfl (fun ls hl => ?_)
      obtain ⟨n0, hw⟩ := hw
      exact t_X5_openings_33 X Q   n0 _ _ _ _ _ _ _ _ hw hk (lv_sub hl [2, 3, 4, 1, 0] rfl)
    · replace hw := hw.1 c6
      refine lv_iconst (v := (-1 : Int32)) hx hb dX5_openings_18 (by decide) ?_
      exact k_iret X hk hw dX5_openings_19
def rm_X5_soonestWithout : Room := { frames := 5, cells := 0, slots := 0, locals := 116 }
abbrev wz_X5_soonestWithout : List Cond := Cond.code yX5_soonestWithout cX5_soonestWithout 6 (some .int) :: wsA
theorem hd_X5_soonestWithout : yX5_soonestWithout.cls = RX5 ∧ yX5_soonestWithout.cls ≠ "java/lang/invoke/MethodHandle" ∧ yX5_soonestWithout.cls ≠ "java/lang/invoke/VarHandle" ∧ (parseMethodDescriptor yX5_soonestWithout.desc).map (fun d => d.parameters.length) = some 2 := by decide +kernel
def wp_X5_soonestWithout (σ : Sg) (p1 p2 : Int32) (Q : Int32 → Sg → Prop) : Prop := vp_in ((2 : Int32) * p1) 24 ∧ (∀ x3_1 : Int32, x3_1 = (σ 8 (((2 : Int32) * p1)).toNatClampNeg) → (vp_in (((2 : Int32) * p1) + (1 : Int32)) 24 ∧ (∀ x4_2 : Int32, x4_2 = (σ 8 ((((2 : Int32) * p1) + (1 : Int32))).toNatClampNeg) → (vp_in ((2 : Int32) * p1) 24 ∧ (∀ σ3 : Sg, σ3 = (put σ 8 (((2 : Int32) * p1)).toNatClampNeg (0 : Int32)) → (vp_in (((2 : Int32) * p1) + (1 : Int32)) 24 ∧ (∀ σ4 : Sg, σ4 = (put σ3 8 ((((2 : Int32) * p1) + (1 : Int32))).toNatClampNeg (0 : Int32)) → (wp_X0_soonestWithin σ4 p2 (41 : Int32) (fun r6 σ5 => vp_in ((2 : Int32) * p1) 24 ∧ (∀ σ7 : Sg, σ7 = (put σ5 8 (((2 : Int32) * p1)).toNatClampNeg x3_1) → (vp_in (((2 : Int32) * p1) + (1 : Int32)) 24 ∧ (∀ σ8 : Sg, σ8 = (put σ7 8 ((((2 : Int32) * p1) + (1 : Int32))).toNatClampNeg x4_2) → (Q r6 σ8)))))))))))))
set_option maxHeartbeats 4000000 in
set_option maxRecDepth 100000 in
theorem c_X5_soonestWithout (l : Launch) (G : Gw) (σ : Sg) (p1 p2 : Int32) (Q : Int32 → Sg → Prop) (hw : wp_X5_soonestWithout σ p1 p2 Q) : MetI l yX5_soonestWithout wz_X5_soonestWithout rm_X5_soonestWithout G σ [.ref (G.1 0), .int p1, .int p2] Q := by
  refine MetI.of cX5_soonestWithout 6 (some .int) (by decide) rfl (Nat.le_of_ble_eq_true rfl) ?_
  intro p e s m below meth c X hk ls hl
  have X : KC p m meth c cX5_soonestWithout 6 s _ wz_X5_soonestWithout RX5 (some .int) G := X
  have hl : lv_has ls 6 [(0, .ref (G.1 0)), (1, .int p1), (2, .int p2)] := hl
  unfold wp_X5_soonestWithout at hw
  have hx := X.1.1
  have hb := X.1.2.1
  refine lv_aload_n hx hb dX5_soonestWithout_0 rfl (lv_at hl 0 rfl) ?_
  refine k_get 0 X hk (wg_0 G _) rfl (hz_wsX50 _) (Nat.le_of_ble_eq_true rfl) (List.mem_cons_of_mem _ (aw_r1 _ (List.mem_of_getElem? (i := 16) rfl))) rfl dX5_soonestWithout_1 ?_
  refine k_get 4 X hk (wg_1 G _) rfl (hz_wsX30 _) (Nat.le_of_ble_eq_true rfl) (List.mem_cons_of_mem _ (aw_r25 _ (List.mem_of_getElem? (i := 5) rfl))) rfl dX5_soonestWithout_4 ?_
  refine lv_iconst (v := (2 : Int32)) hx hb dX5_soonestWithout_7 (by decide) ?_
  refine lv_iload_n hx hb dX5_soonestWithout_8 rfl (lv_at hl 1 rfl) ?_
  refine lv_imul hx hb dX5_soonestWithout_9 ?_
  refine k_iald X hk (wg_8 G _) hw.1 dX5_soonestWithout_10 ?_
  replace hw := hw.2
  refine lv_topi (fun x3_1 ex3_1 => ?_)
  replace hw := hw x3_1 ex3_1
  refine lv_istore_n (lv' := [(3, .int x3_1), (0, .ref (G.1 0)), (1, .int p1), (2, .int p2)]) hx hb dX5_soonestWithout_11 rfl hl (Nat.le_of_ble_eq_true rfl) rfl (fun ls hl => ?_)
  refine lv_aload_n hx hb dX5_soonestWithout_12 rfl (lv_at hl 1 rfl) ?_
  refine k_get 0 X hk (wg_0 G _) rfl (hz_wsX50 _) (Nat.le_of_ble_eq_true rfl) (List.mem_cons_of_mem _ (aw_r1 _ (List.mem_of_getElem? (i := 16) rfl))) rfl dX5_soonestWithout_13 ?_
  refine k_get 4 X hk (wg_1 G _) rfl (hz_wsX30 _) (Nat.le_of_ble_eq_true rfl) (List.mem_cons_of_mem _ (aw_r25 _ (List.mem_of_getElem? (i := 5) rfl))) rfl dX5_soonestWithout_16 ?_
  refine lv_iconst (v := (2 : Int32)) hx hb dX5_soonestWithout_19 (by decide) ?_
  refine lv_iload_n hx hb dX5_soonestWithout_20 rfl (lv_at hl 2 rfl) ?_
  refine lv_imul hx hb dX5_soonestWithout_21 ?_
  refine lv_iconst (v := (1 : Int32)) hx hb dX5_soonestWithout_22 (by decide) ?_
  refine lv_iadd hx hb dX5_soonestWithout_23 ?_
  refine k_iald X hk (wg_8 G _) hw.1 dX5_soonestWithout_24 ?_
  replace hw := hw.2
  refine lv_topi (fun x4_2 ex4_2 => ?_)
  replace hw := hw x4_2 ex4_2
  refine lv_istore (lv' := [(4, .int x4_2), (3, .int x3_1), (0, .ref (G.1 0)), (1, .int p1), (2, .int p2)]) hx hb dX5_soonestWithout_25 hl (Nat.le_of_ble_eq_true rfl) rfl (fun ls hl => ?_)
  refine lv_aload_n hx hb dX5_soonestWithout_27 rfl (lv_at hl 2 rfl) ?_
  refine k_get 0 X hk (wg_0 G _) rfl (hz_wsX50 _) (Nat.le_of_ble_eq_true rfl) (List.mem_cons_of_mem _ (aw_r1 _ (List.mem_of_getElem? (i := 16) rfl))) rfl dX5_soonestWithout_28 ?_
  refine k_get 4 X hk (wg_1 G _) rfl (hz_wsX30 _) (Nat.le_of_ble_eq_true rfl) (List.mem_cons_of_mem _ (aw_r25 _ (List.mem_of_getElem? (i := 5) rfl))) rfl dX5_soonestWithout_31 ?_
  refine lv_iconst (v := (2 : Int32)) hx hb dX5_soonestWithout_34 (by decide) ?_
  refine lv_iload_n hx hb dX5_soonestWithout_35 rfl (lv_at hl 3 rfl) ?_
  refine lv_imul hx hb dX5_soonestWithout_36 ?_
  refine lv_iconst (v := (0 : Int32)) hx hb dX5_soonestWithout_37 (by decide) ?_
  refine k_iast X hk (wg_8 G _) (ws_8 G _) rfl hw.1 dX5_soonestWithout_38 (fun H locs hk => ?_)
  replace hw := hw.2
  obtain ⟨σ3, eσ3⟩ : ∃ y : Sg, y = (put σ 8 (((2 : Int32) * p1)).toNatClampNeg (0 : Int32)) := ⟨_, rfl⟩
  rw [← eσ3] at hk
  replace hw := hw σ3 eσ3
  refine lv_aload_n hx hb dX5_soonestWithout_39 rfl (lv_at hl 2 rfl) ?_
  refine k_get 0 X hk (wg_0 G _) rfl (hz_wsX50 _) (Nat.le_of_ble_eq_true rfl) (List.mem_cons_of_mem _ (aw_r1 _ (List.mem_of_getElem? (i := 16) rfl))) rfl dX5_soonestWithout_40 ?_
  refine k_get 4 X hk (wg_1 G _) rfl (hz_wsX30 _) (Nat.le_of_ble_eq_true rfl) (List.mem_cons_of_mem _ (aw_r25 _ (List.mem_of_getElem? (i := 5) rfl))) rfl dX5_soonestWithout_43 ?_
  refine lv_iconst (v := (2 : Int32)) hx hb dX5_soonestWithout_46 (by decide) ?_
  refine lv_iload_n hx hb dX5_soonestWithout_47 rfl (lv_at hl 3 rfl) ?_
  refine lv_imul hx hb dX5_soonestWithout_48 ?_
  refine lv_iconst (v := (1 : Int32)) hx hb dX5_soonestWithout_49 (by decide) ?_
  refine lv_iadd hx hb dX5_soonestWithout_50 ?_
  refine lv_iconst (v := (0 : Int32)) hx hb dX5_soonestWithout_51 (by decide) ?_
  refine k_iast X hk (wg_8 G _) (ws_8 G _) rfl hw.1 dX5_soonestWithout_52 (fun H locs hk => ?_)
  replace hw := hw.2
  obtain ⟨σ4, eσ4⟩ : ∃ y : Sg, y = (put σ3 8 ((((2 : Int32) * p1) + (1 : Int32))).toNatClampNeg (0 : Int32)) := ⟨_, rfl⟩
  rw [← eσ4] at hk
  replace hw := hw σ4 eσ4
  refine lv_aload_n hx hb dX5_soonestWithout_53 rfl (lv_at hl 2 rfl) ?_
  refine k_get 3 X hk (wg_0 G _) rfl (hz_wsX50 _) (Nat.le_of_ble_eq_true rfl) (List.mem_cons_of_mem _ (aw_r2 _ (List.mem_of_getElem? (i := 4) rfl))) rfl dX5_soonestWithout_54 ?_
  refine lv_iload_n hx hb dX5_soonestWithout_57 rfl (lv_at hl 4 rfl) ?_
  refine lv_bipush (v := (41 : Int32)) hx hb dX5_soonestWithout_58 (by decide) ?_
  refine k_callVi (rest := []) X hk (c_X0_soonestWithin l G _ _ _ _ hw) (cwV 2 X.1.2.2.2.2 (gzV (aw_r33 _ (List.mem_of_getElem? (i := 5) rfl)) (aw_r30 _ (List.mem_of_getElem? (i := 4) rfl)) (aw_r30 _ (List.mem_of_getElem? (i := 5) rfl)) (aw_r2 _ (List.mem_of_getElem? (i := 3) rfl)) (aw_r30 _ (List.mem_of_getElem? (i := 6) rfl))) rfl rfl rfl hd_X0_soonestWithin ⟨(Nat.le_of_ble_eq_true rfl), (Nat.le_of_ble_eq_true rfl)⟩) (wg_4 G _) rfl rfl hl.1 rfl (Nat.le_of_ble_eq_true rfl) dX5_soonestWithout_60 ⟨Nat.zero_le _, Nat.zero_le _⟩ (fun r6 σ5 H locs hw hk => ?_)
  refine lv_istore (lv' := [(5, .int r6), (4, .int x4_2), (3, .int x3_1), (0, .ref (G.1 0)), (1, .int p1), (2, .int p2)]) hx hb dX5_soonestWithout_63 hl (Nat.le_of_ble_eq_true rfl) rfl (fun ls hl => ?_)
  refine lv_aload_n hx hb dX5_soonestWithout_65 rfl (lv_at hl 3 rfl) ?_
  refine k_get 0 X hk (wg_0 G _) rfl (hz_wsX50 _) (Nat.le_of_ble_eq_true rfl) (List.mem_cons_of_mem _ (aw_r1 _ (List.mem_of_getElem? (i := 16) rfl))) rfl dX5_soonestWithout_66 ?_
  refine k_get 4 X hk (wg_1 G _) rfl (hz_wsX30 _) (Nat.le_of_ble_eq_true rfl) (List.mem_cons_of_mem _ (aw_r25 _ (List.mem_of_getElem? (i := 5) rfl))) rfl dX5_soonestWithout_69 ?_
  refine lv_iconst (v := (2 : Int32)) hx hb dX5_soonestWithout_72 (by decide) ?_
  refine lv_iload_n hx hb dX5_soonestWithout_73 rfl (lv_at hl 4 rfl) ?_
  refine lv_imul hx hb dX5_soonestWithout_74 ?_
  refine lv_iload_n hx hb dX5_soonestWithout_75 rfl (lv_at hl 2 rfl) ?_
  refine k_iast X hk (wg_8 G _) (ws_8 G _) rfl hw.1 dX5_soonestWithout_76 (fun H locs hk => ?_)
  replace hw := hw.2
  obtain ⟨σ7, eσ7⟩ : ∃ y : Sg, y = (put σ5 8 (((2 : Int32) * p1)).toNatClampNeg x3_1) := ⟨_, rfl⟩
  rw [← eσ7] at hk
  replace hw := hw σ7 eσ7
  refine lv_aload_n hx hb dX5_soonestWithout_77 rfl (lv_at hl 3 rfl) ?_
  refine k_get 0 X hk (wg_0 G _) rfl (hz_wsX50 _) (Nat.le_of_ble_eq_true rfl) (List.mem_cons_of_mem _ (aw_r1 _ (List.mem_of_getElem? (i := 16) rfl))) rfl dX5_soonestWithout_78 ?_
  refine k_get 4 X hk (wg_1 G _) rfl (hz_wsX30 _) (Nat.le_of_ble_eq_true rfl) (List.mem_cons_of_mem _ (aw_r25 _ (List.mem_of_getElem? (i := 5) rfl))) rfl dX5_soonestWithout_81 ?_
  refine lv_iconst (v := (2 : Int32)) hx hb dX5_soonestWithout_84 (by decide) ?_
  refine lv_iload_n hx hb dX5_soonestWithout_85 rfl (lv_at hl 4 rfl) ?_
  refine lv_imul hx hb dX5_soonestWithout_86 ?_
  refine lv_iconst (v := (1 : Int32)) hx hb dX5_soonestWithout_87 (by decide) ?_
  refine lv_iadd hx hb dX5_soonestWithout_88 ?_
  refine lv_iload hx hb dX5_soonestWithout_89 (lv_at hl 1 rfl) ?_
  refine k_iast X hk (wg_8 G _) (ws_8 G _) rfl hw.1 dX5_soonestWithout_91 (fun H locs hk => ?_)
  replace hw := hw.2
  obtain ⟨σ8, eσ8⟩ : ∃ y : Sg, y = (put σ7 8 ((((2 : Int32) * p1) + (1 : Int32))).toNatClampNeg x4_2) := ⟨_, rfl⟩
  rw [← eσ8] at hk
  replace hw := hw σ8 eσ8
  refine lv_iload hx hb dX5_soonestWithout_92 (lv_at hl 0 rfl) ?_
  exact k_iret X hk hw dX5_soonestWithout_94
def rm_X5_shut : Room := { frames := 6, cells := 0, slots := 0, locals := 141 }
abbrev wz_X5_shut : List Cond := Cond.code yX5_shut cX5_shut 2 (some .int) :: wsA
theorem hd_X5_shut : yX5_shut.cls = RX5 ∧ yX5_shut.cls ≠ "java/lang/invoke/MethodHandle" ∧ yX5_shut.cls ≠ "java/lang/invoke/VarHandle" ∧ (parseMethodDescriptor yX5_shut.desc).map (fun d => d.parameters.length) = some 1 := by decide +kernel
def wp_X5_shut (σ : Sg) (p1 : Int32) (Q : Int32 → Sg → Prop) : Prop := wp_X3_hasRoad σ p1 (fun r2 σ1 => (r2 = 0 → (Q (-2 : Int32) σ1)) ∧ (¬ (r2 = 0) → (wp_X5_soonestWithout σ1 p1 (0 : Int32) (fun r5 σ4 => wp_X5_told σ4 r5 (fun r7 σ6 => Q r7 σ6)))))
set_option maxHeartbeats 4000000 in
set_option maxRecDepth 100000 in
theorem c_X5_shut (l : Launch) (G : Gw) (σ : Sg) (p1 : Int32) (Q : Int32 → Sg → Prop) (hw : wp_X5_shut σ p1 Q) : MetI l yX5_shut wz_X5_shut rm_X5_shut G σ [.ref (G.1 0), .int p1] Q := by
  refine MetI.of cX5_shut 2 (some .int) (by decide) rfl (Nat.le_of_ble_eq_true rfl) ?_
  intro p e s m below meth c X hk ls hl
  have X : KC p m meth c cX5_shut 2 s _ wz_X5_shut RX5 (some .int) G := X
  have hl : lv_has ls 2 [(0, .ref (G.1 0)), (1, .int p1)] := hl
  unfold wp_X5_shut at hw
  have hx := X.1.1
  have hb := X.1.2.1
  refine lv_aload_n hx hb dX5_shut_0 rfl (lv_at hl 0 rfl) ?_
  refine k_get 0 X hk (wg_0 G _) rfl (hz_wsX50 _) (Nat.le_of_ble_eq_true rfl) (List.mem_cons_of_mem _ (aw_r1 _ (List.mem_of_getElem? (i := 16) rfl))) rfl dX5_shut_1 ?_
  refine lv_iload_n hx hb dX5_shut_4 rfl (lv_at hl 1 rfl) ?_
  refine k_callVi (rest := []) X hk (c_X3_hasRoad l G _ _ _ hw) (cwV 1 X.1.2.2.2.2 (gzV (aw_r25 _ (List.mem_of_getElem? (i := 6) rfl)) (aw_r12 _ (List.mem_of_getElem? (i := 16) rfl)) (aw_r12 _ (List.mem_of_getElem? (i := 17) rfl)) (aw_r1 _ (List.mem_of_getElem? (i := 15) rfl)) (aw_r12 _ (List.mem_of_getElem? (i := 18) rfl))) rfl rfl rfl hd_X3_hasRoad ⟨(Nat.le_of_ble_eq_true rfl), (Nat.le_of_ble_eq_true rfl)⟩) (wg_1 G _) rfl rfl hl.1 rfl (Nat.le_of_ble_eq_true rfl) dX5_shut_5 ⟨Nat.zero_le _, Nat.zero_le _⟩ (fun r2 σ1 H locs hw hk => ?_)
  refine lv_if_eq (tgt := 23) hx hb dX5_shut_8 (by decide) (fun c3 => ?_) (fun c3 => ?_)
  · replace hw := hw.1 c3
    refine lv_bipush (v := (-2 : Int32)) hx hb dX5_shut_23 (by decide) ?_
    exact k_iret X hk hw dX5_shut_25
  · replace hw := hw.2 c3
    refine lv_aload_n hx hb dX5_shut_11 rfl (lv_at hl 0 rfl) ?_
    refine lv_iload_n hx hb dX5_shut_12 rfl (lv_at hl 1 rfl) ?_
    refine lv_iconst (v := (0 : Int32)) hx hb dX5_shut_13 (by decide) ?_
    refine k_callVi (rest := []) X hk (c_X5_soonestWithout l G _ _ _ _ hw) (cwV 2 X.1.2.2.2.2 (gzV (aw_r33 _ (List.mem_of_getElem? (i := 1) rfl)) (aw_r33 _ (List.mem_of_getElem? (i := 2) rfl)) (aw_r33 _ (List.mem_of_getElem? (i := 3) rfl)) (aw_r1 _ (List.mem_of_getElem? (i := 2) rfl)) (aw_r33 _ (List.mem_of_getElem? (i := 4) rfl))) rfl rfl rfl hd_X5_soonestWithout ⟨(Nat.le_of_ble_eq_true rfl), (Nat.le_of_ble_eq_true rfl)⟩) (wg_0 G _) rfl rfl hl.1 rfl (Nat.le_of_ble_eq_true rfl) dX5_shut_14 ⟨Nat.zero_le _, Nat.zero_le _⟩ (fun r5 σ4 H locs hw hk => ?_)
    refine k_callSi (rest := []) X hk (c_X5_told l G _ _ _ hw) (va_cwS 1 X.1.2.2.2.2 (gzS (aw_r30 _ (List.mem_of_getElem? (i := 22) rfl)) (aw_r30 _ (List.mem_of_getElem? (i := 23) rfl)) (aw_r1 _ (List.mem_of_getElem? (i := 2) rfl)) (aw_r31 _ (List.mem_of_getElem? (i := 0) rfl))) rfl rfl rfl hds_X5_told ⟨(Nat.le_of_ble_eq_true rfl), (Nat.le_of_ble_eq_true rfl)⟩) rfl hl.1 rfl (Nat.le_of_ble_eq_true rfl) dX5_shut_17 ⟨Nat.zero_le _, Nat.zero_le _⟩ (fun r7 σ6 H locs hw hk => ?_)
    refine lv_goto (tgt := 25) hx hb dX5_shut_20 (by decide) ?_
    exact k_iret X hk hw dX5_shut_25
def rm_X5_way : Room := { frames := 0, cells := 0, slots := 0, locals := 0 }
abbrev wz_X5_way : List Cond := Cond.code yX5_way cX5_way 2 (some .int) :: wsA
theorem hds_X5_way : yX5_way.cls ≠ "java/lang/invoke/MethodHandle" ∧ yX5_way.cls ≠ "java/lang/invoke/VarHandle" ∧ (parseMethodDescriptor yX5_way.desc).map (fun d => d.parameters.length) = some 2 := by decide +kernel
def wp_X5_way (σ : Sg) (p0 p1 : Int32) (Q : Int32 → Sg → Prop) : Prop := (p1 = 0 → (Q ((2 : Int32) * p0) σ)) ∧ (¬ (p1 = 0) → (Q (((2 : Int32) * p0) + (1 : Int32)) σ))
set_option maxHeartbeats 4000000 in
set_option maxRecDepth 100000 in
theorem c_X5_way (l : Launch) (G : Gw) (σ : Sg) (p0 p1 : Int32) (Q : Int32 → Sg → Prop) (hw : wp_X5_way σ p0 p1 Q) : MetI l yX5_way wz_X5_way rm_X5_way G σ [.int p0, .int p1] Q := by
  refine MetI.of cX5_way 2 (some .int) (by decide) rfl (Nat.le_of_ble_eq_true rfl) ?_
  intro p e s m below meth c X hk ls hl
  have X : KC p m meth c cX5_way 2 s _ wz_X5_way RX5 (some .int) G := X
  have hl : lv_has ls 2 [(0, .int p0), (1, .int p1)] := hl
  unfold wp_X5_way at hw
  have hx := X.1.1
  have hb := X.1.2.1
  refine lv_iload_n hx hb dX5_way_0 rfl (lv_at hl 1 rfl) ?_
  refine lv_if_eq (tgt := 12) hx hb dX5_way_1 (by decide) (fun c1 => ?_) (fun c1 => ?_)
  · replace hw := hw.1 c1
    refine lv_iconst (v := (2 : Int32)) hx hb dX5_way_12 (by decide) ?_
    refine lv_iload_n hx hb dX5_way_13 rfl (lv_at hl 0 rfl) ?_
    refine lv_imul hx hb dX5_way_14 ?_
    exact k_iret X hk hw dX5_way_15
  · replace hw := hw.2 c1
    refine lv_iconst (v := (2 : Int32)) hx hb dX5_way_4 (by decide) ?_
    refine lv_iload_n hx hb dX5_way_5 rfl (lv_at hl 0 rfl) ?_
    refine lv_imul hx hb dX5_way_6 ?_
    refine lv_iconst (v := (1 : Int32)) hx hb dX5_way_7 (by decide) ?_
    refine lv_iadd hx hb dX5_way_8 ?_
    refine lv_goto (tgt := 15) hx hb dX5_way_9 (by decide) ?_
    exact k_iret X hk hw dX5_way_15
def rm_X5_wider : Room := { frames := 6, cells := 0, slots := 0, locals := 136 }
abbrev wz_X5_wider : List Cond := Cond.code yX5_wider cX5_wider 6 (some .int) :: wsA
theorem hd_X5_wider : yX5_wider.cls = RX5 ∧ yX5_wider.cls ≠ "java/lang/invoke/MethodHandle" ∧ yX5_wider.cls ≠ "java/lang/invoke/VarHandle" ∧ (parseMethodDescriptor yX5_wider.desc).map (fun d => d.parameters.length) = some 3 := by decide +kernel
def wp_X5_wider (σ : Sg) (p1 p2 p3 : Int32) (Q : Int32 → Sg → Prop) : Prop := wp_X3_hasRoad σ p1 (fun r2 σ1 => (r2 = 0 → (Q (-2 : Int32) σ1)) ∧ (¬ (r2 = 0) → ((p3 < (-9 : Int32) → (Q (-2 : Int32) σ1)) ∧ (¬ (p3 < (-9 : Int32)) → ((p3 ≤ (30 : Int32) → (wp_X5_way σ1 p1 p2 (fun r7 σ6 => vp_in r7 24 ∧ ((0 ≤ ((σ6 8 (r7).toNatClampNeg) + p3) → (vp_in r7 24 ∧ (vp_in r7 24 ∧ (∀ σ9 : Sg, σ9 = (put σ6 8 (r7).toNatClampNeg ((σ6 8 (r7).toNatClampNeg) + p3)) → (wp_X0_soonest σ9  (fun r11 σ10 => vp_in r7 24 ∧ (vp_in r7 24 ∧ (∀ σ12 : Sg, σ12 = (put σ10 8 (r7).toNatClampNeg ((σ10 8 (r7).toNatClampNeg) - p3)) → (wp_X5_told σ12 r11 (fun r14 σ13 => Q r14 σ13)))))))))) ∧ (¬ (0 ≤ ((σ6 8 (r7).toNatClampNeg) + p3)) → (Q (-2 : Int32) σ6)))))) ∧ (¬ (p3 ≤ (30 : Int32)) → (Q (-2 : Int32) σ1)))))))
set_option maxHeartbeats 4000000 in
set_option maxRecDepth 100000 in
theorem c_X5_wider (l : Launch) (G : Gw) (σ : Sg) (p1 p2 p3 : Int32) (Q : Int32 → Sg → Prop) (hw : wp_X5_wider σ p1 p2 p3 Q) : MetI l yX5_wider wz_X5_wider rm_X5_wider G σ [.ref (G.1 0), .int p1, .int p2, .int p3] Q := by
  refine MetI.of cX5_wider 6 (some .int) (by decide) rfl (Nat.le_of_ble_eq_true rfl) ?_
  intro p e s m below meth c X hk ls hl
  have X : KC p m meth c cX5_wider 6 s _ wz_X5_wider RX5 (some .int) G := X
  have hl : lv_has ls 6 [(0, .ref (G.1 0)), (1, .int p1), (2, .int p2), (3, .int p3)] := hl
  unfold wp_X5_wider at hw
  have hx := X.1.1
  have hb := X.1.2.1
  refine lv_aload_n hx hb dX5_wider_0 rfl (lv_at hl 0 rfl) ?_
  refine k_get 0 X hk (wg_0 G _) rfl (hz_wsX50 _) (Nat.le_of_ble_eq_true rfl) (List.mem_cons_of_mem _ (aw_r1 _ (List.mem_of_getElem? (i := 16) rfl))) rfl dX5_wider_1 ?_
  refine lv_iload_n hx hb dX5_wider_4 rfl (lv_at hl 1 rfl) ?_
  refine k_callVi (rest := []) X hk (c_X3_hasRoad l G _ _ _ hw) (cwV 1 X.1.2.2.2.2 (gzV (aw_r25 _ (List.mem_of_getElem? (i := 6) rfl)) (aw_r12 _ (List.mem_of_getElem? (i := 16) rfl)) (aw_r12 _ (List.mem_of_getElem? (i := 17) rfl)) (aw_r1 _ (List.mem_of_getElem? (i := 15) rfl)) (aw_r12 _ (List.mem_of_getElem? (i := 18) rfl))) rfl rfl rfl hd_X3_hasRoad ⟨(Nat.le_of_ble_eq_true rfl), (Nat.le_of_ble_eq_true rfl)⟩) (wg_1 G _) rfl rfl hl.1 rfl (Nat.le_of_ble_eq_true rfl) dX5_wider_5 ⟨Nat.zero_le _, Nat.zero_le _⟩ (fun r2 σ1 H locs hw hk => ?_)
  refine lv_if_eq (tgt := 23) hx hb dX5_wider_8 (by decide) (fun c3 => ?_) (fun c3 => ?_)
  · replace hw := hw.1 c3
    refine lv_bipush (v := (-2 : Int32)) hx hb dX5_wider_23 (by decide) ?_
    exact k_iret X hk hw dX5_wider_25
  · replace hw := hw.2 c3
    refine lv_iload_n hx hb dX5_wider_11 rfl (lv_at hl 3 rfl) ?_
    refine lv_bipush (v := (-9 : Int32)) hx hb dX5_wider_12 (by decide) ?_
    refine lv_icmp_lt (tgt := 23) hx hb dX5_wider_14 (by decide) (fun c4 => ?_) (fun c4 => ?_)
    · replace hw := hw.1 c4
      refine lv_bipush (v := (-2 : Int32)) hx hb dX5_wider_23 (by decide) ?_
      exact k_iret X hk hw dX5_wider_25
    · replace hw := hw.2 c4
      refine lv_iload_n hx hb dX5_wider_17 rfl (lv_at hl 3 rfl) ?_
      refine lv_bipush (v := (30 : Int32)) hx hb dX5_wider_18 (by decide) ?_
      refine lv_icmp_le (tgt := 26) hx hb dX5_wider_20 (by decide) (fun c5 => ?_) (fun c5 => ?_)
      · replace hw := hw.1 c5
        refine lv_iload_n hx hb dX5_wider_26 rfl (lv_at hl 1 rfl) ?_
        refine lv_iload_n hx hb dX5_wider_27 rfl (lv_at hl 2 rfl) ?_
        refine k_callSi (rest := []) X hk (c_X5_way l G _ _ _ _ hw) (va_cwS 2 X.1.2.2.2.2 (gzS (aw_r33 _ (List.mem_of_getElem? (i := 18) rfl)) (aw_r33 _ (List.mem_of_getElem? (i := 19) rfl)) (aw_r1 _ (List.mem_of_getElem? (i := 2) rfl)) (aw_r33 _ (List.mem_of_getElem? (i := 20) rfl))) rfl rfl rfl hds_X5_way ⟨(Nat.le_of_ble_eq_true rfl), (Nat.le_of_ble_eq_true rfl)⟩) rfl hl.1 rfl (Nat.le_of_ble_eq_true rfl) dX5_wider_28 ⟨Nat.zero_le _, Nat.zero_le _⟩ (fun r7 σ6 H locs hw hk => ?_)
        refine lv_istore (lv' := [(4, .int r7), (0, .ref (G.1 0)), (1, .int p1), (2, .int p2), (3, .int p3)]) hx hb dX5_wider_31 hl (Nat.le_of_ble_eq_true rfl) rfl (fun ls hl => ?_)
        refine lv_aload_n hx hb dX5_wider_33 rfl (lv_at hl 1 rfl) ?_
        refine k_get 0 X hk (wg_0 G _) rfl (hz_wsX50 _) (Nat.le_of_ble_eq_true rfl) (List.mem_cons_of_mem _ (aw_r1 _ (List.mem_of_getElem? (i := 16) rfl))) rfl dX5_wider_34 ?_
        refine k_get 4 X hk (wg_1 G _) rfl (hz_wsX30 _) (Nat.le_of_ble_eq_true rfl) (List.mem_cons_of_mem _ (aw_r25 _ (List.mem_of_getElem? (i := 5) rfl))) rfl dX5_wider_37 ?_
        refine lv_iload hx hb dX5_wider_40 (lv_at hl 0 rfl) ?_
        refine k_iald X hk (wg_8 G _) hw.1 dX5_wider_42 ?_
        replace hw := hw.2
        refine lv_iload_n hx hb dX5_wider_43 rfl (lv_at hl 4 rfl) ?_
        refine lv_iadd hx hb dX5_wider_44 ?_
        refine lv_if_ge (tgt := 51) hx hb dX5_wider_45 (by decide) (fun c8 => ?_) (fun c8 => ?_)
        · replace hw := hw.1 c8
          refine lv_aload_n hx hb dX5_wider_51 rfl (lv_at hl 1 rfl) ?_
          refine k_get 0 X hk (wg_0 G _) rfl (hz_wsX50 _) (Nat.le_of_ble_eq_true rfl) (List.mem_cons_of_mem _ (aw_r1 _ (List.mem_of_getElem? (i := 16) rfl))) rfl dX5_wider_52 ?_
          refine k_get 4 X hk (wg_1 G _) rfl (hz_wsX30 _) (Nat.le_of_ble_eq_true rfl) (List.mem_cons_of_mem _ (aw_r25 _ (List.mem_of_getElem? (i := 5) rfl))) rfl dX5_wider_55 ?_
          refine lv_iload hx hb dX5_wider_58 (lv_at hl 0 rfl) ?_
          refine lv_dup2_11 hx hb dX5_wider_60 rfl rfl ?_
          refine k_iald X hk (wg_8 G _) hw.1 dX5_wider_61 ?_
          replace hw := hw.2
          refine lv_iload_n hx hb dX5_wider_62 rfl (lv_at hl 4 rfl) ?_
          refine lv_iadd hx hb dX5_wider_63 ?_
          refine k_iast X hk (wg_8 G _) (ws_8 G _) rfl hw.1 dX5_wider_64 (fun H locs hk => ?_)
          replace hw := hw.2
          obtain ⟨σ9, eσ9⟩ : ∃ y : Sg, y = (put σ6 8 (r7).toNatClampNeg ((σ6 8 (r7).toNatClampNeg) + p3)) := ⟨_, rfl⟩
          rw [← eσ9] at hk
          replace hw := hw σ9 eσ9
          refine lv_aload_n hx hb dX5_wider_65 rfl (lv_at hl 1 rfl) ?_
          refine k_get 3 X hk (wg_0 G _) rfl (hz_wsX50 _) (Nat.le_of_ble_eq_true rfl) (List.mem_cons_of_mem _ (aw_r2 _ (List.mem_of_getElem? (i := 4) rfl))) rfl dX5_wider_66 ?_
          refine k_callVi (rest := []) X hk (c_X0_soonest l G _  _ hw) (cwV 0 X.1.2.2.2.2 (gzV (aw_r29 _ (List.mem_of_getElem? (i := 23) rfl)) (aw_r30 _ (List.mem_of_getElem? (i := 0) rfl)) (aw_r30 _ (List.mem_of_getElem? (i := 1) rfl)) (aw_r2 _ (List.mem_of_getElem? (i := 3) rfl)) (aw_r30 _ (List.mem_of_getElem? (i := 2) rfl))) rfl rfl rfl hd_X0_soonest ⟨(Nat.le_of_ble_eq_true rfl), (Nat.le_of_ble_eq_true rfl)⟩) (wg_4 G _) rfl rfl hl.1 rfl (Nat.le_of_ble_eq_true rfl) dX5_wider_69 ⟨Nat.zero_le _, Nat.zero_le _⟩ (fun r11 σ10 H locs hw hk => ?_)
          refine lv_istore (lv' := [(5, .int r11), (4, .int r7), (0, .ref (G.1 0)), (1, .int p1), (2, .int p2), (3, .int p3)]) hx hb dX5_wider_72 hl (Nat.le_of_ble_eq_true rfl) rfl (fun ls hl => ?_)
          refine lv_aload_n hx hb dX5_wider_74 rfl (lv_at hl 2 rfl) ?_
          refine k_get 0 X hk (wg_0 G _) rfl (hz_wsX50 _) (Nat.le_of_ble_eq_true rfl) (List.mem_cons_of_mem _ (aw_r1 _ (List.mem_of_getElem? (i := 16) rfl))) rfl dX5_wider_75 ?_
          refine k_get 4 X hk (wg_1 G _) rfl (hz_wsX30 _) (Nat.le_of_ble_eq_true rfl) (List.mem_cons_of_mem _ (aw_r25 _ (List.mem_of_getElem? (i := 5) rfl))) rfl dX5_wider_78 ?_
          refine lv_iload hx hb dX5_wider_81 (lv_at hl 1 rfl) ?_
          refine lv_dup2_11 hx hb dX5_wider_83 rfl rfl ?_
          refine k_iald X hk (wg_8 G _) hw.1 dX5_wider_84 ?_
          replace hw := hw.2
          refine lv_iload_n hx hb dX5_wider_85 rfl (lv_at hl 5 rfl) ?_
          refine lv_isub hx hb dX5_wider_86 ?_
          refine k_iast X hk (wg_8 G _) (ws_8 G _) rfl hw.1 dX5_wider_87 (fun H locs hk => ?_)
          replace hw := hw.2
          obtain ⟨σ12, eσ12⟩ : ∃ y : Sg, y = (put σ10 8 (r7).toNatClampNeg ((σ10 8 (r7).toNatClampNeg) - p3)) := ⟨_, rfl⟩
          rw [← eσ12] at hk
          replace hw := hw σ12 eσ12
          refine lv_iload hx hb dX5_wider_88 (lv_at hl 0 rfl) ?_
          refine k_callSi (rest := []) X hk (c_X5_told l G _ _ _ hw) (va_cwS 1 X.1.2.2.2.2 (gzS (aw_r30 _ (List.mem_of_getElem? (i := 22) rfl)) (aw_r30 _ (List.mem_of_getElem? (i := 23) rfl)) (aw_r1 _ (List.mem_of_getElem? (i := 2) rfl)) (aw_r31 _ (List.mem_of_getElem? (i := 0) rfl))) rfl rfl rfl hds_X5_told ⟨(Nat.le_of_ble_eq_true rfl), (Nat.le_of_ble_eq_true rfl)⟩) rfl hl.1 rfl (Nat.le_of_ble_eq_true rfl) dX5_wider_90 ⟨Nat.zero_le _, Nat.zero_le _⟩ (fun r14 σ13 H locs hw hk => ?_)
          exact k_iret X hk hw dX5_wider_93
        · replace hw := hw.2 c8
          refine lv_bipush (v := (-2 : Int32)) hx hb dX5_wider_48 (by decide) ?_
          exact k_iret X hk hw dX5_wider_50
      · replace hw := hw.2 c5
        refine lv_bipush (v := (-2 : Int32)) hx hb dX5_wider_23 (by decide) ?_
        exact k_iret X hk hw dX5_wider_25
def rm_X5_turned : Room := { frames := 6, cells := 0, slots := 0, locals := 136 }
abbrev wz_X5_turned : List Cond := Cond.code yX5_turned cX5_turned 4 (some .int) :: wsA
theorem hd_X5_turned : yX5_turned.cls = RX5 ∧ yX5_turned.cls ≠ "java/lang/invoke/MethodHandle" ∧ yX5_turned.cls ≠ "java/lang/invoke/VarHandle" ∧ (parseMethodDescriptor yX5_turned.desc).map (fun d => d.parameters.length) = some 2 := by decide +kernel
def wp_X5_turned (σ : Sg) (p1 p2 : Int32) (Q : Int32 → Sg → Prop) : Prop := wp_X3_turnFits σ p1 p2 (fun r2 σ1 => (r2 = 0 → (Q (-2 : Int32) σ1)) ∧ (¬ (r2 = 0) → (wp_X3_shiftLanes σ1 p1 p2 (fun σ4 => wp_X0_soonest σ4  (fun r7 σ6 => wp_X3_shiftLanes σ6 p1 (-p2) (fun σ8 => wp_X5_told σ8 r7 (fun r11 σ10 => Q r11 σ10)))))))
set_option maxHeartbeats 4000000 in
set_option maxRecDepth 100000 in
theorem c_X5_turned (l : Launch) (G : Gw) (σ : Sg) (p1 p2 : Int32) (Q : Int32 → Sg → Prop) (hw : wp_X5_turned σ p1 p2 Q) : MetI l yX5_turned wz_X5_turned rm_X5_turned G σ [.ref (G.1 0), .int p1, .int p2] Q := by
  refine MetI.of cX5_turned 4 (some .int) (by decide) rfl (Nat.le_of_ble_eq_true rfl) ?_
  intro p e s m below meth c X hk ls hl
  have X : KC p m meth c cX5_turned 4 s _ wz_X5_turned RX5 (some .int) G := X
  have hl : lv_has ls 4 [(0, .ref (G.1 0)), (1, .int p1), (2, .int p2)] := hl
  unfold wp_X5_turned at hw
  have hx := X.1.1
  have hb := X.1.2.1
  refine lv_aload_n hx hb dX5_turned_0 rfl (lv_at hl 0 rfl) ?_
  refine k_get 0 X hk (wg_0 G _) rfl (hz_wsX50 _) (Nat.le_of_ble_eq_true rfl) (List.mem_cons_of_mem _ (aw_r1 _ (List.mem_of_getElem? (i := 16) rfl))) rfl dX5_turned_1 ?_
  refine lv_iload_n hx hb dX5_turned_4 rfl (lv_at hl 1 rfl) ?_
  refine lv_iload_n hx hb dX5_turned_5 rfl (lv_at hl 2 rfl) ?_
  refine k_callVi (rest := []) X hk (c_X3_turnFits l G _ _ _ _ hw) (cwV 2 X.1.2.2.2.2 (gzV (aw_r20 _ (List.mem_of_getElem? (i := 8) rfl)) (aw_r12 _ (List.mem_of_getElem? (i := 21) rfl)) (aw_r12 _ (List.mem_of_getElem? (i := 22) rfl)) (aw_r1 _ (List.mem_of_getElem? (i := 15) rfl)) (aw_r12 _ (List.mem_of_getElem? (i := 23) rfl))) rfl rfl rfl hd_X3_turnFits ⟨(Nat.le_of_ble_eq_true rfl), (Nat.le_of_ble_eq_true rfl)⟩) (wg_1 G _) rfl rfl hl.1 rfl (Nat.le_of_ble_eq_true rfl) dX5_turned_6 ⟨Nat.zero_le _, Nat.zero_le _⟩ (fun r2 σ1 H locs hw hk => ?_)
  refine lv_if_ne (tgt := 15) hx hb dX5_turned_9 (by decide) (fun c3 => ?_) (fun c3 => ?_)
  · replace hw := hw.2 c3
    refine lv_aload_n hx hb dX5_turned_15 rfl (lv_at hl 0 rfl) ?_
    refine k_get 0 X hk (wg_0 G _) rfl (hz_wsX50 _) (Nat.le_of_ble_eq_true rfl) (List.mem_cons_of_mem _ (aw_r1 _ (List.mem_of_getElem? (i := 16) rfl))) rfl dX5_turned_16 ?_
    refine lv_iload_n hx hb dX5_turned_19 rfl (lv_at hl 1 rfl) ?_
    refine lv_iload_n hx hb dX5_turned_20 rfl (lv_at hl 2 rfl) ?_
    refine k_callVv (rest := []) X hk (c_X3_shiftLanes l G _ _ _ _ hw) (cwV 2 X.1.2.2.2.2 (gzV (aw_r20 _ (List.mem_of_getElem? (i := 9) rfl)) (aw_r13 _ (List.mem_of_getElem? (i := 23) rfl)) (aw_r14 _ (List.mem_of_getElem? (i := 0) rfl)) (aw_r1 _ (List.mem_of_getElem? (i := 15) rfl)) (aw_r14 _ (List.mem_of_getElem? (i := 1) rfl))) rfl rfl rfl hd_X3_shiftLanes ⟨(Nat.le_of_ble_eq_true rfl), (Nat.le_of_ble_eq_true rfl)⟩) (wg_1 G _) rfl rfl hl.1 rfl (Nat.le_of_ble_eq_true rfl) dX5_turned_21 ⟨Nat.zero_le _, Nat.zero_le _⟩ (fun σ4 H locs hw hk => ?_)
    refine lv_aload_n hx hb dX5_turned_24 rfl (lv_at hl 0 rfl) ?_
    refine k_get 3 X hk (wg_0 G _) rfl (hz_wsX50 _) (Nat.le_of_ble_eq_true rfl) (List.mem_cons_of_mem _ (aw_r2 _ (List.mem_of_getElem? (i := 4) rfl))) rfl dX5_turned_25 ?_
    refine k_callVi (rest := []) X hk (c_X0_soonest l G _  _ hw) (cwV 0 X.1.2.2.2.2 (gzV (aw_r29 _ (List.mem_of_getElem? (i := 23) rfl)) (aw_r30 _ (List.mem_of_getElem? (i := 0) rfl)) (aw_r30 _ (List.mem_of_getElem? (i := 1) rfl)) (aw_r2 _ (List.mem_of_getElem? (i := 3) rfl)) (aw_r30 _ (List.mem_of_getElem? (i := 2) rfl))) rfl rfl rfl hd_X0_soonest ⟨(Nat.le_of_ble_eq_true rfl), (Nat.le_of_ble_eq_true rfl)⟩) (wg_4 G _) rfl rfl hl.1 rfl (Nat.le_of_ble_eq_true rfl) dX5_turned_28 ⟨Nat.zero_le _, Nat.zero_le _⟩ (fun r7 σ6 H locs hw hk => ?_)
    refine lv_istore_n (lv' := [(3, .int r7), (0, .ref (G.1 0)), (1, .int p1), (2, .int p2)]) hx hb dX5_turned_31 rfl hl (Nat.le_of_ble_eq_true rfl) rfl (fun ls hl => ?_)
    refine lv_aload_n hx hb dX5_turned_32 rfl (lv_at hl 1 rfl) ?_
    refine k_get 0 X hk (wg_0 G _) rfl (hz_wsX50 _) (Nat.le_of_ble_eq_true rfl) (List.mem_cons_of_mem _ (aw_r1 _ (List.mem_of_getElem? (i := 16) rfl))) rfl dX5_turned_33 ?_
    refine lv_iload_n hx hb dX5_turned_36 rfl (lv_at hl 2 rfl) ?_
    refine lv_iload_n hx hb dX5_turned_37 rfl (lv_at hl 3 rfl) ?_
    refine lv_ineg hx hb dX5_turned_38 ?_
    refine k_callVv (rest := []) X hk (c_X3_shiftLanes l G _ _ _ _ hw) (cwV 2 X.1.2.2.2.2 (gzV (aw_r20 _ (List.mem_of_getElem? (i := 9) rfl)) (aw_r13 _ (List.mem_of_getElem? (i := 23) rfl)) (aw_r14 _ (List.mem_of_getElem? (i := 0) rfl)) (aw_r1 _ (List.mem_of_getElem? (i := 15) rfl)) (aw_r14 _ (List.mem_of_getElem? (i := 1) rfl))) rfl rfl rfl hd_X3_shiftLanes ⟨(Nat.le_of_ble_eq_true rfl), (Nat.le_of_ble_eq_true rfl)⟩) (wg_1 G _) rfl rfl hl.1 rfl (Nat.le_of_ble_eq_true rfl) dX5_turned_39 ⟨Nat.zero_le _, Nat.zero_le _⟩ (fun σ8 H locs hw hk => ?_)
    refine lv_iload_n hx hb dX5_turned_42 rfl (lv_at hl 0 rfl) ?_
    refine k_callSi (rest := []) X hk (c_X5_told l G _ _ _ hw) (va_cwS 1 X.1.2.2.2.2 (gzS (aw_r30 _ (List.mem_of_getElem? (i := 22) rfl)) (aw_r30 _ (List.mem_of_getElem? (i := 23) rfl)) (aw_r1 _ (List.mem_of_getElem? (i := 2) rfl)) (aw_r31 _ (List.mem_of_getElem? (i := 0) rfl))) rfl rfl rfl hds_X5_told ⟨(Nat.le_of_ble_eq_true rfl), (Nat.le_of_ble_eq_true rfl)⟩) rfl hl.1 rfl (Nat.le_of_ble_eq_true rfl) dX5_turned_43 ⟨Nat.zero_le _, Nat.zero_le _⟩ (fun r11 σ10 H locs hw hk => ?_)
    exact k_iret X hk hw dX5_turned_46
  · replace hw := hw.1 c3
    refine lv_bipush (v := (-2 : Int32)) hx hb dX5_turned_12 (by decide) ?_
    exact k_iret X hk hw dX5_turned_14
def rm_X5_bestTurn : Room := { frames := 7, cells := 0, slots := 0, locals := 162 }
abbrev wz_X5_bestTurn : List Cond := Cond.code yX5_bestTurn cX5_bestTurn 2 (some .int) :: wsA
theorem hd_X5_bestTurn : yX5_bestTurn.cls = RX5 ∧ yX5_bestTurn.cls ≠ "java/lang/invoke/MethodHandle" ∧ yX5_bestTurn.cls ≠ "java/lang/invoke/VarHandle" ∧ (parseMethodDescriptor yX5_bestTurn.desc).map (fun d => d.parameters.length) = some 1 := by decide +kernel
def wp_X5_bestTurn (σ : Sg) (p1 : Int32) (Q : Int32 → Sg → Prop) : Prop := (p1 < 0 → (Q (-2 : Int32) σ)) ∧ (¬ (p1 < 0) → (((2 : Int32) < p1 → (Q (-2 : Int32) σ)) ∧ (¬ ((2 : Int32) < p1) → (wp_X4_findTurn σ  (fun r4 σ3 => (r4 = 0 → (Q (-2 : Int32) σ3)) ∧ (¬ (r4 = 0) → ((p1 = 0 → (Q (σ3 5 0) σ3)) ∧ (¬ (p1 = 0) → ((p1 = (1 : Int32) → (Q (σ3 5 1) σ3)) ∧ (¬ (p1 = (1 : Int32)) → (Q (σ3 5 2) σ3)))))))))))
set_option maxHeartbeats 4000000 in
set_option maxRecDepth 100000 in
theorem c_X5_bestTurn (l : Launch) (G : Gw) (σ : Sg) (p1 : Int32) (Q : Int32 → Sg → Prop) (hw : wp_X5_bestTurn σ p1 Q) : MetI l yX5_bestTurn wz_X5_bestTurn rm_X5_bestTurn G σ [.ref (G.1 0), .int p1] Q := by
  refine MetI.of cX5_bestTurn 2 (some .int) (by decide) rfl (Nat.le_of_ble_eq_true rfl) ?_
  intro p e s m below meth c X hk ls hl
  have X : KC p m meth c cX5_bestTurn 2 s _ wz_X5_bestTurn RX5 (some .int) G := X
  have hl : lv_has ls 2 [(0, .ref (G.1 0)), (1, .int p1)] := hl
  unfold wp_X5_bestTurn at hw
  have hx := X.1.1
  have hb := X.1.2.1
  refine lv_iload_n hx hb dX5_bestTurn_0 rfl (lv_at hl 1 rfl) ?_
  refine lv_if_lt (tgt := 19) hx hb dX5_bestTurn_1 (by decide) (fun c1 => ?_) (fun c1 => ?_)
  · replace hw := hw.1 c1
    refine lv_bipush (v := (-2 : Int32)) hx hb dX5_bestTurn_19 (by decide) ?_
    exact k_iret X hk hw dX5_bestTurn_21
  · replace hw := hw.2 c1
    refine lv_iload_n hx hb dX5_bestTurn_4 rfl (lv_at hl 1 rfl) ?_
    refine lv_iconst (v := (2 : Int32)) hx hb dX5_bestTurn_5 (by decide) ?_
    refine lv_icmp_gt (tgt := 19) hx hb dX5_bestTurn_6 (by decide) (fun c2 => ?_) (fun c2 => ?_)
    · replace hw := hw.1 c2
      refine lv_bipush (v := (-2 : Int32)) hx hb dX5_bestTurn_19 (by decide) ?_
      exact k_iret X hk hw dX5_bestTurn_21
    · replace hw := hw.2 c2
      refine lv_aload_n hx hb dX5_bestTurn_9 rfl (lv_at hl 0 rfl) ?_
      refine k_get 4 X hk (wg_0 G _) rfl (hz_wsX50 _) (Nat.le_of_ble_eq_true rfl) (List.mem_cons_of_mem _ (aw_r2 _ (List.mem_of_getElem? (i := 8) rfl))) rfl dX5_bestTurn_10 ?_
      refine k_callVi (rest := []) X hk (c_X4_findTurn l G _  _ hw) (cwV 0 X.1.2.2.2.2 (gzV (aw_r34 _ (List.mem_of_getElem? (i := 20) rfl)) (aw_r34 _ (List.mem_of_getElem? (i := 21) rfl)) (aw_r34 _ (List.mem_of_getElem? (i := 22) rfl)) (aw_r2 _ (List.mem_of_getElem? (i := 7) rfl)) (aw_r34 _ (List.mem_of_getElem? (i := 23) rfl))) rfl rfl rfl hd_X4_findTurn ⟨(Nat.le_of_ble_eq_true rfl), (Nat.le_of_ble_eq_true rfl)⟩) (wg_5 G _) rfl rfl hl.1 rfl (Nat.le_of_ble_eq_true rfl) dX5_bestTurn_13 ⟨Nat.zero_le _, Nat.zero_le _⟩ (fun r4 σ3 H locs hw hk => ?_)
      refine lv_if_ne (tgt := 22) hx hb dX5_bestTurn_16 (by decide) (fun c5 => ?_) (fun c5 => ?_)
      · replace hw := hw.2 c5
        refine lv_iload_n hx hb dX5_bestTurn_22 rfl (lv_at hl 1 rfl) ?_
        refine lv_if_ne (tgt := 34) hx hb dX5_bestTurn_23 (by decide) (fun c6 => ?_) (fun c6 => ?_)
        · replace hw := hw.2 c6
          refine lv_iload_n hx hb dX5_bestTurn_34 rfl (lv_at hl 1 rfl) ?_
          refine lv_iconst (v := (1 : Int32)) hx hb dX5_bestTurn_35 (by decide) ?_
          refine lv_icmp_ne (tgt := 49) hx hb dX5_bestTurn_36 (by decide) (fun c7 => ?_) (fun c7 => ?_)
          · replace hw := hw.2 c7
            refine lv_aload_n hx hb dX5_bestTurn_49 rfl (lv_at hl 0 rfl) ?_
            refine k_get 4 X hk (wg_0 G _) rfl (hz_wsX50 _) (Nat.le_of_ble_eq_true rfl) (List.mem_cons_of_mem _ (aw_r2 _ (List.mem_of_getElem? (i := 8) rfl))) rfl dX5_bestTurn_50 ?_
            refine k_get 2 X hk (wg_5 G _) rfl (hz_wsX40 _) (Nat.le_of_ble_eq_true rfl) (List.mem_cons_of_mem _ (aw_r34 _ (List.mem_of_getElem? (i := 19) rfl))) rfl dX5_bestTurn_53 ?_
            exact k_iret X hk hw dX5_bestTurn_56
          · replace hw := hw.1 c7
            refine lv_aload_n hx hb dX5_bestTurn_39 rfl (lv_at hl 0 rfl) ?_
            refine k_get 4 X hk (wg_0 G _) rfl (hz_wsX50 _) (Nat.le_of_ble_eq_true rfl) (List.mem_cons_of_mem _ (aw_r2 _ (List.mem_of_getElem? (i := 8) rfl))) rfl dX5_bestTurn_40 ?_
            refine k_get 1 X hk (wg_5 G _) rfl (hz_wsX40 _) (Nat.le_of_ble_eq_true rfl) (List.mem_cons_of_mem _ (aw_r34 _ (List.mem_of_getElem? (i := 18) rfl))) rfl dX5_bestTurn_43 ?_
            refine lv_goto (tgt := 56) hx hb dX5_bestTurn_46 (by decide) ?_
            exact k_iret X hk hw dX5_bestTurn_56
        · replace hw := hw.1 c6
          refine lv_aload_n hx hb dX5_bestTurn_26 rfl (lv_at hl 0 rfl) ?_
          refine k_get 4 X hk (wg_0 G _) rfl (hz_wsX50 _) (Nat.le_of_ble_eq_true rfl) (List.mem_cons_of_mem _ (aw_r2 _ (List.mem_of_getElem? (i := 8) rfl))) rfl dX5_bestTurn_27 ?_
          refine k_get 0 X hk (wg_5 G _) rfl (hz_wsX40 _) (Nat.le_of_ble_eq_true rfl) (List.mem_cons_of_mem _ (aw_r34 _ (List.mem_of_getElem? (i := 17) rfl))) rfl dX5_bestTurn_30 ?_
          exact k_iret X hk hw dX5_bestTurn_33
      · replace hw := hw.1 c5
        refine lv_bipush (v := (-2 : Int32)) hx hb dX5_bestTurn_19 (by decide) ?_
        exact k_iret X hk hw dX5_bestTurn_21
def rm_X5_turns : Room := { frames := 7, cells := 0, slots := 0, locals := 164 }
abbrev wz_X5_turns : List Cond := Cond.code yX5_turns cX5_turns 3 (some .int) :: wsA
theorem hd_X5_turns : yX5_turns.cls = RX5 ∧ yX5_turns.cls ≠ "java/lang/invoke/MethodHandle" ∧ yX5_turns.cls ≠ "java/lang/invoke/VarHandle" ∧ (parseMethodDescriptor yX5_turns.desc).map (fun d => d.parameters.length) = some 2 := by decide +kernel
def wp_X5_turns (σ : Sg) (p1 p2 : Int32) (Q : Int32 → Sg → Prop) : Prop := (p2 < 0 → (Q (-2 : Int32) σ)) ∧ (¬ (p2 < 0) → (((1 : Int32) < p2 → (Q (-2 : Int32) σ)) ∧ (¬ ((1 : Int32) < p2) → ((((p1.toUInt32 >>> ((σ 1 1).toUInt32 &&& Int32.toUInt32 31)).toInt32) = 0 → (wp_J6_bitCount_0f7a4 σ p1 (fun r5 σ4 => (r5 ≤ (4 : Int32) → (wp_X4_findRow σ4 p1 (fun σ7 => (p2 = 0 → (wp_X5_told σ7 (σ7 5 0) (fun r11 σ10 => Q r11 σ10))) ∧ (¬ (p2 = 0) → (Q (σ7 5 3) σ7))))) ∧ (¬ (r5 ≤ (4 : Int32)) → (Q (-2 : Int32) σ4))))) ∧ (¬ (((p1.toUInt32 >>> ((σ 1 1).toUInt32 &&& Int32.toUInt32 31)).toInt32) = 0) → (Q (-2 : Int32) σ))))))
set_option maxHeartbeats 4000000 in
set_option maxRecDepth 100000 in
theorem c_X5_turns (l : Launch) (G : Gw) (σ : Sg) (p1 p2 : Int32) (Q : Int32 → Sg → Prop) (hw : wp_X5_turns σ p1 p2 Q) : MetI l yX5_turns wz_X5_turns rm_X5_turns G σ [.ref (G.1 0), .int p1, .int p2] Q := by
  refine MetI.of cX5_turns 3 (some .int) (by decide) rfl (Nat.le_of_ble_eq_true rfl) ?_
  intro p e s m below meth c X hk ls hl
  have X : KC p m meth c cX5_turns 3 s _ wz_X5_turns RX5 (some .int) G := X
  have hl : lv_has ls 3 [(0, .ref (G.1 0)), (1, .int p1), (2, .int p2)] := hl
  unfold wp_X5_turns at hw
  have hx := X.1.1
  have hb := X.1.2.1
  refine lv_iload_n hx hb dX5_turns_0 rfl (lv_at hl 2 rfl) ?_
  refine lv_if_lt (tgt := 29) hx hb dX5_turns_1 (by decide) (fun c1 => ?_) (fun c1 => ?_)
  · replace hw := hw.1 c1
    refine lv_bipush (v := (-2 : Int32)) hx hb dX5_turns_29 (by decide) ?_
    exact k_iret X hk hw dX5_turns_31
  · replace hw := hw.2 c1
    refine lv_iload_n hx hb dX5_turns_4 rfl (lv_at hl 2 rfl) ?_
    refine lv_iconst (v := (1 : Int32)) hx hb dX5_turns_5 (by decide) ?_
    refine lv_icmp_gt (tgt := 29) hx hb dX5_turns_6 (by decide) (fun c2 => ?_) (fun c2 => ?_)
    · replace hw := hw.1 c2
      refine lv_bipush (v := (-2 : Int32)) hx hb dX5_turns_29 (by decide) ?_
      exact k_iret X hk hw dX5_turns_31
    · replace hw := hw.2 c2
      refine lv_iload_n hx hb dX5_turns_9 rfl (lv_at hl 1 rfl) ?_
      refine lv_aload_n hx hb dX5_turns_10 rfl (lv_at hl 0 rfl) ?_
      refine k_get 0 X hk (wg_0 G _) rfl (hz_wsX50 _) (Nat.le_of_ble_eq_true rfl) (List.mem_cons_of_mem _ (aw_r1 _ (List.mem_of_getElem? (i := 16) rfl))) rfl dX5_turns_11 ?_
      refine k_get 1 X hk (wg_1 G _) rfl (hz_wsX30 _) (Nat.le_of_ble_eq_true rfl) (List.mem_cons_of_mem _ (aw_r19 _ (List.mem_of_getElem? (i := 17) rfl))) rfl dX5_turns_14 ?_
      refine lv_iushr hx hb dX5_turns_17 rfl ?_
      refine lv_if_ne (tgt := 29) hx hb dX5_turns_18 (by decide) (fun c3 => ?_) (fun c3 => ?_)
      · replace hw := hw.2 c3
        refine lv_bipush (v := (-2 : Int32)) hx hb dX5_turns_29 (by decide) ?_
        exact k_iret X hk hw dX5_turns_31
      · replace hw := hw.1 c3
        refine lv_iload_n hx hb dX5_turns_21 rfl (lv_at hl 1 rfl) ?_
        refine k_callSi (rest := []) X hk (c_J6_bitCount_0f7a4 l G _ _ _ hw) (va_cwS 1 X.1.2.2.2.2 (gzS (aw_r36 _ (List.mem_of_getElem? (i := 19) rfl)) (aw_r36 _ (List.mem_of_getElem? (i := 20) rfl)) (aw_r36 _ (List.mem_of_getElem? (i := 21) rfl)) (aw_r36 _ (List.mem_of_getElem? (i := 22) rfl))) rfl rfl rfl hds_J6_bitCount_0f7a4 ⟨(Nat.le_of_ble_eq_true rfl), (Nat.le_of_ble_eq_true rfl)⟩) rfl hl.1 rfl (Nat.le_of_ble_eq_true rfl) dX5_turns_22 ⟨Nat.zero_le _, Nat.zero_le _⟩ (fun r5 σ4 H locs hw hk => ?_)
        refine lv_iconst (v := (4 : Int32)) hx hb dX5_turns_25 (by decide) ?_
        refine lv_icmp_le (tgt := 32) hx hb dX5_turns_26 (by decide) (fun c6 => ?_) (fun c6 => ?_)
        · replace hw := hw.1 c6
          refine lv_aload_n hx hb dX5_turns_32 rfl (lv_at hl 0 rfl) ?_
          refine k_get 4 X hk (wg_0 G _) rfl (hz_wsX50 _) (Nat.le_of_ble_eq_true rfl) (List.mem_cons_of_mem _ (aw_r2 _ (List.mem_of_getElem? (i := 8) rfl))) rfl dX5_turns_33 ?_
          refine lv_iload_n hx hb dX5_turns_36 rfl (lv_at hl 1 rfl) ?_
          refine k_callVv (rest := []) X hk (c_X4_findRow l G _ _ _ hw) (cwV 1 X.1.2.2.2.2 (gzV (aw_r37 _ (List.mem_of_getElem? (i := 2) rfl)) (aw_r37 _ (List.mem_of_getElem? (i := 3) rfl)) (aw_r37 _ (List.mem_of_getElem? (i := 4) rfl)) (aw_r2 _ (List.mem_of_getElem? (i := 7) rfl)) (aw_r37 _ (List.mem_of_getElem? (i := 5) rfl))) rfl rfl rfl hd_X4_findRow ⟨(Nat.le_of_ble_eq_true rfl), (Nat.le_of_ble_eq_true rfl)⟩) (wg_5 G _) rfl rfl hl.1 rfl (Nat.le_of_ble_eq_true rfl) dX5_turns_37 ⟨Nat.zero_le _, Nat.zero_le _⟩ (fun σ7 H locs hw hk => ?_)
          refine lv_iload_n hx hb dX5_turns_40 rfl (lv_at hl 2 rfl) ?_
          refine lv_if_ne (tgt := 57) hx hb dX5_turns_41 (by decide) (fun c9 => ?_) (fun c9 => ?_)
          · replace hw := hw.2 c9
            refine lv_aload_n hx hb dX5_turns_57 rfl (lv_at hl 0 rfl) ?_
            refine k_get 4 X hk (wg_0 G _) rfl (hz_wsX50 _) (Nat.le_of_ble_eq_true rfl) (List.mem_cons_of_mem _ (aw_r2 _ (List.mem_of_getElem? (i := 8) rfl))) rfl dX5_turns_58 ?_
            refine k_get 3 X hk (wg_5 G _) rfl (hz_wsX40 _) (Nat.le_of_ble_eq_true rfl) (List.mem_cons_of_mem _ (aw_r36 _ (List.mem_of_getElem? (i := 18) rfl))) rfl dX5_turns_61 ?_
            exact k_iret X hk hw dX5_turns_64
          · replace hw := hw.1 c9
            refine lv_aload_n hx hb dX5_turns_44 rfl (lv_at hl 0 rfl) ?_
            refine k_get 4 X hk (wg_0 G _) rfl (hz_wsX50 _) (Nat.le_of_ble_eq_true rfl) (List.mem_cons_of_mem _ (aw_r2 _ (List.mem_of_getElem? (i := 8) rfl))) rfl dX5_turns_45 ?_
            refine k_get 0 X hk (wg_5 G _) rfl (hz_wsX40 _) (Nat.le_of_ble_eq_true rfl) (List.mem_cons_of_mem _ (aw_r34 _ (List.mem_of_getElem? (i := 17) rfl))) rfl dX5_turns_48 ?_
            refine k_callSi (rest := []) X hk (c_X5_told l G _ _ _ hw) (va_cwS 1 X.1.2.2.2.2 (gzS (aw_r30 _ (List.mem_of_getElem? (i := 22) rfl)) (aw_r30 _ (List.mem_of_getElem? (i := 23) rfl)) (aw_r1 _ (List.mem_of_getElem? (i := 2) rfl)) (aw_r31 _ (List.mem_of_getElem? (i := 0) rfl))) rfl rfl rfl hds_X5_told ⟨(Nat.le_of_ble_eq_true rfl), (Nat.le_of_ble_eq_true rfl)⟩) rfl hl.1 rfl (Nat.le_of_ble_eq_true rfl) dX5_turns_51 ⟨Nat.zero_le _, Nat.zero_le _⟩ (fun r11 σ10 H locs hw hk => ?_)
            refine lv_goto (tgt := 64) hx hb dX5_turns_54 (by decide) ?_
            exact k_iret X hk hw dX5_turns_64
        · replace hw := hw.2 c6
          refine lv_bipush (v := (-2 : Int32)) hx hb dX5_turns_29 (by decide) ?_
          exact k_iret X hk hw dX5_turns_31
def rm_X5_roomy : Room := { frames := 6, cells := 0, slots := 0, locals := 136 }
abbrev wz_X5_roomy : List Cond := Cond.code yX5_roomy cX5_roomy 5 (some .int) :: wsA
theorem hd_X5_roomy : yX5_roomy.cls = RX5 ∧ yX5_roomy.cls ≠ "java/lang/invoke/MethodHandle" ∧ yX5_roomy.cls ≠ "java/lang/invoke/VarHandle" ∧ (parseMethodDescriptor yX5_roomy.desc).map (fun d => d.parameters.length) = some 2 := by decide +kernel
def wp_X5_roomy (σ : Sg) (p1 p2 : Int32) (Q : Int32 → Sg → Prop) : Prop := wp_X3_hasPlace σ p1 (fun r2 σ1 => (r2 = 0 → (Q (-2 : Int32) σ1)) ∧ (¬ (r2 = 0) → (wp_X3_factFits σ1 (1 : Int32) p2 (fun r5 σ4 => (r5 = 0 → (Q (-2 : Int32) σ4)) ∧ (¬ (r5 = 0) → (wp_X3_fact σ4 p1 (1 : Int32) (fun r8 σ7 => wp_X3_change σ7 p1 (1 : Int32) p2 (fun σ9 => wp_X0_soonest σ9  (fun r12 σ11 => wp_X3_change σ11 p1 (1 : Int32) r8 (fun σ13 => wp_X5_told σ13 r12 (fun r16 σ15 => Q r16 σ15)))))))))))
set_option maxHeartbeats 4000000 in
set_option maxRecDepth 100000 in
theorem c_X5_roomy (l : Launch) (G : Gw) (σ : Sg) (p1 p2 : Int32) (Q : Int32 → Sg → Prop) (hw : wp_X5_roomy σ p1 p2 Q) : MetI l yX5_roomy wz_X5_roomy rm_X5_roomy G σ [.ref (G.1 0), .int p1, .int p2] Q := by
  refine MetI.of cX5_roomy 5 (some .int) (by decide) rfl (Nat.le_of_ble_eq_true rfl) ?_
  intro p e s m below meth c X hk ls hl
  have X : KC p m meth c cX5_roomy 5 s _ wz_X5_roomy RX5 (some .int) G := X
  have hl : lv_has ls 5 [(0, .ref (G.1 0)), (1, .int p1), (2, .int p2)] := hl
  unfold wp_X5_roomy at hw
  have hx := X.1.1
  have hb := X.1.2.1
  refine lv_aload_n hx hb dX5_roomy_0 rfl (lv_at hl 0 rfl) ?_
  refine k_get 0 X hk (wg_0 G _) rfl (hz_wsX50 _) (Nat.le_of_ble_eq_true rfl) (List.mem_cons_of_mem _ (aw_r1 _ (List.mem_of_getElem? (i := 16) rfl))) rfl dX5_roomy_1 ?_
  refine lv_iload_n hx hb dX5_roomy_4 rfl (lv_at hl 1 rfl) ?_
  refine k_callVi (rest := []) X hk (c_X3_hasPlace l G _ _ _ hw) (cwV 1 X.1.2.2.2.2 (gzV (aw_r20 _ (List.mem_of_getElem? (i := 18) rfl)) (aw_r12 _ (List.mem_of_getElem? (i := 11) rfl)) (aw_r12 _ (List.mem_of_getElem? (i := 12) rfl)) (aw_r1 _ (List.mem_of_getElem? (i := 15) rfl)) (aw_r12 _ (List.mem_of_getElem? (i := 13) rfl))) rfl rfl rfl hd_X3_hasPlace ⟨(Nat.le_of_ble_eq_true rfl), (Nat.le_of_ble_eq_true rfl)⟩) (wg_1 G _) rfl rfl hl.1 rfl (Nat.le_of_ble_eq_true rfl) dX5_roomy_5 ⟨Nat.zero_le _, Nat.zero_le _⟩ (fun r2 σ1 H locs hw hk => ?_)
  refine lv_if_eq (tgt := 23) hx hb dX5_roomy_8 (by decide) (fun c3 => ?_) (fun c3 => ?_)
  · replace hw := hw.1 c3
    refine lv_bipush (v := (-2 : Int32)) hx hb dX5_roomy_23 (by decide) ?_
    exact k_iret X hk hw dX5_roomy_25
  · replace hw := hw.2 c3
    refine lv_aload_n hx hb dX5_roomy_11 rfl (lv_at hl 0 rfl) ?_
    refine k_get 0 X hk (wg_0 G _) rfl (hz_wsX50 _) (Nat.le_of_ble_eq_true rfl) (List.mem_cons_of_mem _ (aw_r1 _ (List.mem_of_getElem? (i := 16) rfl))) rfl dX5_roomy_12 ?_
    refine lv_iconst (v := (1 : Int32)) hx hb dX5_roomy_15 (by decide) ?_
    refine lv_iload_n hx hb dX5_roomy_16 rfl (lv_at hl 2 rfl) ?_
    refine k_callVi (rest := []) X hk (c_X3_factFits l G _ _ _ _ hw) (cwV 2 X.1.2.2.2.2 (gzV (aw_r19 _ (List.mem_of_getElem? (i := 4) rfl)) (aw_r12 _ (List.mem_of_getElem? (i := 3) rfl)) (aw_r12 _ (List.mem_of_getElem? (i := 4) rfl)) (aw_r1 _ (List.mem_of_getElem? (i := 15) rfl)) (aw_r12 _ (List.mem_of_getElem? (i := 5) rfl))) rfl rfl rfl hd_X3_factFits ⟨(Nat.le_of_ble_eq_true rfl), (Nat.le_of_ble_eq_true rfl)⟩) (wg_1 G _) rfl rfl hl.1 rfl (Nat.le_of_ble_eq_true rfl) dX5_roomy_17 ⟨Nat.zero_le _, Nat.zero_le _⟩ (fun r5 σ4 H locs hw hk => ?_)
    refine lv_if_ne (tgt := 26) hx hb dX5_roomy_20 (by decide) (fun c6 => ?_) (fun c6 => ?_)
    · replace hw := hw.2 c6
      refine lv_aload_n hx hb dX5_roomy_26 rfl (lv_at hl 0 rfl) ?_
      refine k_get 0 X hk (wg_0 G _) rfl (hz_wsX50 _) (Nat.le_of_ble_eq_true rfl) (List.mem_cons_of_mem _ (aw_r1 _ (List.mem_of_getElem? (i := 16) rfl))) rfl dX5_roomy_27 ?_
      refine lv_iload_n hx hb dX5_roomy_30 rfl (lv_at hl 1 rfl) ?_
      refine lv_iconst (v := (1 : Int32)) hx hb dX5_roomy_31 (by decide) ?_
      refine k_callVi (rest := []) X hk (c_X3_fact l G _ _ _ _ hw) (cwV 2 X.1.2.2.2.2 (gzV (aw_r20 _ (List.mem_of_getElem? (i := 19) rfl)) (aw_r20 _ (List.mem_of_getElem? (i := 20) rfl)) (aw_r20 _ (List.mem_of_getElem? (i := 21) rfl)) (aw_r1 _ (List.mem_of_getElem? (i := 15) rfl)) (aw_r20 _ (List.mem_of_getElem? (i := 22) rfl))) rfl rfl rfl hd_X3_fact ⟨(Nat.le_of_ble_eq_true rfl), (Nat.le_of_ble_eq_true rfl)⟩) (wg_1 G _) rfl rfl hl.1 rfl (Nat.le_of_ble_eq_true rfl) dX5_roomy_32 ⟨Nat.zero_le _, Nat.zero_le _⟩ (fun r8 σ7 H locs hw hk => ?_)
      refine lv_istore_n (lv' := [(3, .int r8), (0, .ref (G.1 0)), (1, .int p1), (2, .int p2)]) hx hb dX5_roomy_35 rfl hl (Nat.le_of_ble_eq_true rfl) rfl (fun ls hl => ?_)
      refine lv_aload_n hx hb dX5_roomy_36 rfl (lv_at hl 1 rfl) ?_
      refine k_get 0 X hk (wg_0 G _) rfl (hz_wsX50 _) (Nat.le_of_ble_eq_true rfl) (List.mem_cons_of_mem _ (aw_r1 _ (List.mem_of_getElem? (i := 16) rfl))) rfl dX5_roomy_37 ?_
      refine lv_iload_n hx hb dX5_roomy_40 rfl (lv_at hl 2 rfl) ?_
      refine lv_iconst (v := (1 : Int32)) hx hb dX5_roomy_41 (by decide) ?_
      refine lv_iload_n hx hb dX5_roomy_42 rfl (lv_at hl 3 rfl) ?_
      refine k_callVv (rest := []) X hk (c_X3_change l G _ _ _ _ _ hw) (cwV 3 X.1.2.2.2.2 (gzV (aw_r20 _ (List.mem_of_getElem? (i := 23) rfl)) (aw_r13 _ (List.mem_of_getElem? (i := 15) rfl)) (aw_r13 _ (List.mem_of_getElem? (i := 16) rfl)) (aw_r1 _ (List.mem_of_getElem? (i := 15) rfl)) (aw_r13 _ (List.mem_of_getElem? (i := 17) rfl))) rfl rfl rfl hd_X3_change ⟨(Nat.le_of_ble_eq_true rfl), (Nat.le_of_ble_eq_true rfl)⟩) (wg_1 G _) rfl rfl hl.1 rfl (Nat.le_of_ble_eq_true rfl) dX5_roomy_43 ⟨Nat.zero_le _, Nat.zero_le _⟩ (fun σ9 H locs hw hk => ?_)
      refine lv_aload_n hx hb dX5_roomy_46 rfl (lv_at hl 1 rfl) ?_
      refine k_get 3 X hk (wg_0 G _) rfl (hz_wsX50 _) (Nat.le_of_ble_eq_true rfl) (List.mem_cons_of_mem _ (aw_r2 _ (List.mem_of_getElem? (i := 4) rfl))) rfl dX5_roomy_47 ?_
      refine k_callVi (rest := []) X hk (c_X0_soonest l G _  _ hw) (cwV 0 X.1.2.2.2.2 (gzV (aw_r29 _ (List.mem_of_getElem? (i := 23) rfl)) (aw_r30 _ (List.mem_of_getElem? (i := 0) rfl)) (aw_r30 _ (List.mem_of_getElem? (i := 1) rfl)) (aw_r2 _ (List.mem_of_getElem? (i := 3) rfl)) (aw_r30 _ (List.mem_of_getElem? (i := 2) rfl))) rfl rfl rfl hd_X0_soonest ⟨(Nat.le_of_ble_eq_true rfl), (Nat.le_of_ble_eq_true rfl)⟩) (wg_4 G _) rfl rfl hl.1 rfl (Nat.le_of_ble_eq_true rfl) dX5_roomy_50 ⟨Nat.zero_le _, Nat.zero_le _⟩ (fun r12 σ11 H locs hw hk => ?_)
      refine lv_istore (lv' := [(4, .int r12), (3, .int r8), (0, .ref (G.1 0)), (1, .int p1), (2, .int p2)]) hx hb dX5_roomy_53 hl (Nat.le_of_ble_eq_true rfl) rfl (fun ls hl => ?_)
      refine lv_aload_n hx hb dX5_roomy_55 rfl (lv_at hl 2 rfl) ?_
      refine k_get 0 X hk (wg_0 G _) rfl (hz_wsX50 _) (Nat.le_of_ble_eq_true rfl) (List.mem_cons_of_mem _ (aw_r1 _ (List.mem_of_getElem? (i := 16) rfl))) rfl dX5_roomy_56 ?_
      refine lv_iload_n hx hb dX5_roomy_59 rfl (lv_at hl 3 rfl) ?_
      refine lv_iconst (v := (1 : Int32)) hx hb dX5_roomy_60 (by decide) ?_
      refine lv_iload_n hx hb dX5_roomy_61 rfl (lv_at hl 1 rfl) ?_
      refine k_callVv (rest := []) X hk (c_X3_change l G _ _ _ _ _ hw) (cwV 3 X.1.2.2.2.2 (gzV (aw_r20 _ (List.mem_of_getElem? (i := 23) rfl)) (aw_r13 _ (List.mem_of_getElem? (i := 15) rfl)) (aw_r13 _ (List.mem_of_getElem? (i := 16) rfl)) (aw_r1 _ (List.mem_of_getElem? (i := 15) rfl)) (aw_r13 _ (List.mem_of_getElem? (i := 17) rfl))) rfl rfl rfl hd_X3_change ⟨(Nat.le_of_ble_eq_true rfl), (Nat.le_of_ble_eq_true rfl)⟩) (wg_1 G _) rfl rfl hl.1 rfl (Nat.le_of_ble_eq_true rfl) dX5_roomy_62 ⟨Nat.zero_le _, Nat.zero_le _⟩ (fun σ13 H locs hw hk => ?_)
      refine lv_iload hx hb dX5_roomy_65 (lv_at hl 0 rfl) ?_
      refine k_callSi (rest := []) X hk (c_X5_told l G _ _ _ hw) (va_cwS 1 X.1.2.2.2.2 (gzS (aw_r30 _ (List.mem_of_getElem? (i := 22) rfl)) (aw_r30 _ (List.mem_of_getElem? (i := 23) rfl)) (aw_r1 _ (List.mem_of_getElem? (i := 2) rfl)) (aw_r31 _ (List.mem_of_getElem? (i := 0) rfl))) rfl rfl rfl hds_X5_told ⟨(Nat.le_of_ble_eq_true rfl), (Nat.le_of_ble_eq_true rfl)⟩) rfl hl.1 rfl (Nat.le_of_ble_eq_true rfl) dX5_roomy_67 ⟨Nat.zero_le _, Nat.zero_le _⟩ (fun r16 σ15 H locs hw hk => ?_)
      exact k_iret X hk hw dX5_roomy_70
    · replace hw := hw.1 c6
      refine lv_bipush (v := (-2 : Int32)) hx hb dX5_roomy_23 (by decide) ?_
      exact k_iret X hk hw dX5_roomy_25
