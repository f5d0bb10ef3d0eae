def rm_X6_joins : Room := { frames := 0, cells := 0, slots := 0, locals := 0 }
abbrev wz_X6_joins : List Cond := Cond.code yX6_joins cX6_joins 4 none :: wsA
theorem hd_X6_joins : yX6_joins.cls = RX6 ∧ yX6_joins.cls ≠ "java/lang/invoke/MethodHandle" ∧ yX6_joins.cls ≠ "java/lang/invoke/VarHandle" ∧ (parseMethodDescriptor yX6_joins.desc).map (fun d => d.parameters.length) = some 3 := by decide +kernel
def wp_X6_joins (σ : Sg) (p1 p2 p3 : Int32) (Q : Sg → Prop) : Prop := (p3 = 0 → (Q σ)) ∧ (¬ (p3 = 0) → (vp_in (σ 30 16) 4000 ∧ (∀ σ2 : Sg, σ2 = (put σ 36 ((σ 30 16)).toNatClampNeg p2) → (vp_in (σ2 30 16) 4000 ∧ (∀ σ3 : Sg, σ3 = (put σ2 37 ((σ2 30 16)).toNatClampNeg p3) → (vp_in p1 346 ∧ (vp_in (σ3 30 16) 4000 ∧ (∀ σ4 : Sg, σ4 = (put σ3 35 ((σ3 30 16)).toNatClampNeg (σ3 34 (p1).toNatClampNeg)) → (vp_in p1 346 ∧ (∀ σ5 : Sg, σ5 = (put σ4 34 (p1).toNatClampNeg (σ4 30 16)) → (∀ σ6 : Sg, σ6 = (put σ5 30 16 ((σ5 30 16) + (1 : Int32))) → (vp_in (σ6 30 16) 4000 ∧ (∀ σ7 : Sg, σ7 = (put σ6 36 ((σ6 30 16)).toNatClampNeg p1) → (vp_in (σ7 30 16) 4000 ∧ (∀ σ8 : Sg, σ8 = (put σ7 37 ((σ7 30 16)).toNatClampNeg (0 : Int32)) → (vp_in p2 346 ∧ (vp_in (σ8 30 16) 4000 ∧ (∀ σ9 : Sg, σ9 = (put σ8 35 ((σ8 30 16)).toNatClampNeg (σ8 34 (p2).toNatClampNeg)) → (vp_in p2 346 ∧ (∀ σ10 : Sg, σ10 = (put σ9 34 (p2).toNatClampNeg (σ9 30 16)) → (∀ σ11 : Sg, σ11 = (put σ10 30 16 ((σ10 30 16) + (1 : Int32))) → (Q σ11))))))))))))))))))))))
set_option maxHeartbeats 4000000 in
set_option maxRecDepth 100000 in
theorem c_X6_joins (l : Launch) (G : Gw) (σ : Sg) (p1 p2 p3 : Int32) (Q : Sg → Prop) (hw : wp_X6_joins σ p1 p2 p3 Q) : MetV l yX6_joins wz_X6_joins rm_X6_joins G σ [.ref (G.1 30), .int p1, .int p2, .int p3] Q := by
  refine MetV.of cX6_joins 4 none (by decide) rfl (Nat.le_of_ble_eq_true rfl) ?_
  intro p e s m below meth c X hk ls hl
  have X : KC p m meth c cX6_joins 4 s _ wz_X6_joins RX6 none G := X
  have hl : lv_has ls 4 [(0, .ref (G.1 30)), (1, .int p1), (2, .int p2), (3, .int p3)] := hl
  unfold wp_X6_joins at hw
  have hx := X.1.1
  have hb := X.1.2.1
  refine lv_iload_n hx hb dX6_joins_0 rfl (lv_at hl 3 rfl) ?_
  refine lv_if_ne (tgt := 5) hx hb dX6_joins_1 (by decide) (fun c1 => ?_) (fun c1 => ?_)
  · replace hw := hw.2 c1
    refine lv_aload_n hx hb dX6_joins_5 rfl (lv_at hl 0 rfl) ?_
    refine k_get 11 X hk (wg_30 G _) rfl (hz_wsX60 _) (Nat.le_of_ble_eq_true rfl) (List.mem_cons_of_mem _ (aw_r4 _ (List.mem_of_getElem? (i := 21) rfl))) rfl dX6_joins_6 ?_
    refine lv_aload_n hx hb dX6_joins_9 rfl (lv_at hl 0 rfl) ?_
    refine k_get 16 X hk (wg_30 G _) rfl (hz_wsX60 _) (Nat.le_of_ble_eq_true rfl) (List.mem_cons_of_mem _ (aw_r29 _ (List.mem_of_getElem? (i := 2) rfl))) rfl dX6_joins_10 ?_
    refine lv_iload_n hx hb dX6_joins_13 rfl (lv_at hl 2 rfl) ?_
    refine k_iast X hk (wg_36 G _) (ws_36 G _) rfl hw.1 dX6_joins_14 (fun H locs hk => ?_)
    replace hw := hw.2
    obtain ⟨σ2, eσ2⟩ : ∃ y : Sg, y = (put σ 36 ((σ 30 16)).toNatClampNeg p2) := ⟨_, rfl⟩
    rw [← eσ2] at hk
    replace hw := hw σ2 eσ2
    refine lv_aload_n hx hb dX6_joins_15 rfl (lv_at hl 0 rfl) ?_
    refine k_get 12 X hk (wg_30 G _) rfl (hz_wsX60 _) (Nat.le_of_ble_eq_true rfl) (List.mem_cons_of_mem _ (aw_r4 _ (List.mem_of_getElem? (i := 22) rfl))) rfl dX6_joins_16 ?_
    refine lv_aload_n hx hb dX6_joins_19 rfl (lv_at hl 0 rfl) ?_
    refine k_get 16 X hk (wg_30 G _) rfl (hz_wsX60 _) (Nat.le_of_ble_eq_true rfl) (List.mem_cons_of_mem _ (aw_r29 _ (List.mem_of_getElem? (i := 2) rfl))) rfl dX6_joins_20 ?_
    refine lv_iload_n hx hb dX6_joins_23 rfl (lv_at hl 3 rfl) ?_
    refine k_iast X hk (wg_37 G _) (ws_37 G _) rfl hw.1 dX6_joins_24 (fun H locs hk => ?_)
    replace hw := hw.2
    obtain ⟨σ3, eσ3⟩ : ∃ y : Sg, y = (put σ2 37 ((σ2 30 16)).toNatClampNeg p3) := ⟨_, rfl⟩
    rw [← eσ3] at hk
    replace hw := hw σ3 eσ3
    refine lv_aload_n hx hb dX6_joins_25 rfl (lv_at hl 0 rfl) ?_
    refine k_get 10 X hk (wg_30 G _) rfl (hz_wsX60 _) (Nat.le_of_ble_eq_true rfl) (List.mem_cons_of_mem _ (aw_r4 _ (List.mem_of_getElem? (i := 20) rfl))) rfl dX6_joins_26 ?_
    refine lv_aload_n hx hb dX6_joins_29 rfl (lv_at hl 0 rfl) ?_
    refine k_get 16 X hk (wg_30 G _) rfl (hz_wsX60 _) (Nat.le_of_ble_eq_true rfl) (List.mem_cons_of_mem _ (aw_r29 _ (List.mem_of_getElem? (i := 2) rfl))) rfl dX6_joins_30 ?_
    refine lv_aload_n hx hb dX6_joins_33 rfl (lv_at hl 0 rfl) ?_
    refine k_get 9 X hk (wg_30 G _) rfl (hz_wsX60 _) (Nat.le_of_ble_eq_true rfl) (List.mem_cons_of_mem _ (aw_r4 _ (List.mem_of_getElem? (i := 19) rfl))) rfl dX6_joins_34 ?_
    refine lv_iload_n hx hb dX6_joins_37 rfl (lv_at hl 1 rfl) ?_
    refine k_iald X hk (wg_34 G _) hw.1 dX6_joins_38 ?_
    replace hw := hw.2
    refine k_iast X hk (wg_35 G _) (ws_35 G _) rfl hw.1 dX6_joins_39 (fun H locs hk => ?_)
    replace hw := hw.2
    obtain ⟨σ4, eσ4⟩ : ∃ y : Sg, y = (put σ3 35 ((σ3 30 16)).toNatClampNeg (σ3 34 (p1).toNatClampNeg)) := ⟨_, rfl⟩
    rw [← eσ4] at hk
    replace hw := hw σ4 eσ4
    refine lv_aload_n hx hb dX6_joins_40 rfl (lv_at hl 0 rfl) ?_
    refine k_get 9 X hk (wg_30 G _) rfl (hz_wsX60 _) (Nat.le_of_ble_eq_true rfl) (List.mem_cons_of_mem _ (aw_r4 _ (List.mem_of_getElem? (i := 19) rfl))) rfl dX6_joins_41 ?_
    refine lv_iload_n hx hb dX6_joins_44 rfl (lv_at hl 1 rfl) ?_
    refine lv_aload_n hx hb dX6_joins_45 rfl (lv_at hl 0 rfl) ?_
    refine k_get 16 X hk (wg_30 G _) rfl (hz_wsX60 _) (Nat.le_of_ble_eq_true rfl) (List.mem_cons_of_mem _ (aw_r29 _ (List.mem_of_getElem? (i := 2) rfl))) rfl dX6_joins_46 ?_
    refine k_iast X hk (wg_34 G _) (ws_34 G _) rfl hw.1 dX6_joins_49 (fun H locs hk => ?_)
    replace hw := hw.2
    obtain ⟨σ5, eσ5⟩ : ∃ y : Sg, y = (put σ4 34 (p1).toNatClampNeg (σ4 30 16)) := ⟨_, rfl⟩
    rw [← eσ5] at hk
    replace hw := hw σ5 eσ5
    refine lv_aload_n hx hb dX6_joins_50 rfl (lv_at hl 0 rfl) ?_
    refine lv_dup hx hb dX6_joins_51 rfl ?_
    refine k_get 16 X hk (wg_30 G _) rfl (hz_wsX60 _) (Nat.le_of_ble_eq_true rfl) (List.mem_cons_of_mem _ (aw_r29 _ (List.mem_of_getElem? (i := 2) rfl))) rfl dX6_joins_52 ?_
    refine lv_iconst (v := (1 : Int32)) hx hb dX6_joins_55 (by decide) ?_
    refine lv_iadd hx hb dX6_joins_56 ?_
    refine k_put 16 X hk (wg_30 G _) rfl (hz_wsX60 _) tyX6_ok nmX6 (Nat.le_of_ble_eq_true rfl) (List.mem_cons_of_mem _ (aw_r29 _ (List.mem_of_getElem? (i := 2) rfl))) rfl rfl (Nat.le_of_ble_eq_true rfl) (ws_30_16 G _ _) dX6_joins_57 (fun H locs hk => ?_)
    obtain ⟨σ6, eσ6⟩ : ∃ y : Sg, y = (put σ5 30 16 ((σ5 30 16) + (1 : Int32))) := ⟨_, rfl⟩
    rw [← eσ6] at hk
    replace hw := hw σ6 eσ6
    refine lv_aload_n hx hb dX6_joins_60 rfl (lv_at hl 0 rfl) ?_
    refine k_get 11 X hk (wg_30 G _) rfl (hz_wsX60 _) (Nat.le_of_ble_eq_true rfl) (List.mem_cons_of_mem _ (aw_r4 _ (List.mem_of_getElem? (i := 21) rfl))) rfl dX6_joins_61 ?_
    refine lv_aload_n hx hb dX6_joins_64 rfl (lv_at hl 0 rfl) ?_
    refine k_get 16 X hk (wg_30 G _) rfl (hz_wsX60 _) (Nat.le_of_ble_eq_true rfl) (List.mem_cons_of_mem _ (aw_r29 _ (List.mem_of_getElem? (i := 2) rfl))) rfl dX6_joins_65 ?_
    refine lv_iload_n hx hb dX6_joins_68 rfl (lv_at hl 1 rfl) ?_
    refine k_iast X hk (wg_36 G _) (ws_36 G _) rfl hw.1 dX6_joins_69 (fun H locs hk => ?_)
    replace hw := hw.2
    obtain ⟨σ7, eσ7⟩ : ∃ y : Sg, y = (put σ6 36 ((σ6 30 16)).toNatClampNeg p1) := ⟨_, rfl⟩
    rw [← eσ7] at hk
    replace hw := hw σ7 eσ7
    refine lv_aload_n hx hb dX6_joins_70 rfl (lv_at hl 0 rfl) ?_
    refine k_get 12 X hk (wg_30 G _) rfl (hz_wsX60 _) (Nat.le_of_ble_eq_true rfl) (List.mem_cons_of_mem _ (aw_r4 _ (List.mem_of_getElem? (i := 22) rfl))) rfl dX6_joins_71 ?_
    refine lv_aload_n hx hb dX6_joins_74 rfl (lv_at hl 0 rfl) ?_
    refine k_get 16 X hk (wg_30 G _) rfl (hz_wsX60 _) (Nat.le_of_ble_eq_true rfl) (List.mem_cons_of_mem _ (aw_r29 _ (List.mem_of_getElem? (i := 2) rfl))) rfl dX6_joins_75 ?_
    refine lv_iconst (v := (0 : Int32)) hx hb dX6_joins_78 (by decide) ?_
    refine k_iast X hk (wg_37 G _) (ws_37 G _) rfl hw.1 dX6_joins_79 (fun H locs hk => ?_)
    replace hw := hw.2
    obtain ⟨σ8, eσ8⟩ : ∃ y : Sg, y = (put σ7 37 ((σ7 30 16)).toNatClampNeg (0 : Int32)) := ⟨_, rfl⟩
    rw [← eσ8] at hk
    replace hw := hw σ8 eσ8
    refine lv_aload_n hx hb dX6_joins_80 rfl (lv_at hl 0 rfl) ?_
    refine k_get 10 X hk (wg_30 G _) rfl (hz_wsX60 _) (Nat.le_of_ble_eq_true rfl) (List.mem_cons_of_mem _ (aw_r4 _ (List.mem_of_getElem? (i := 20) rfl))) rfl dX6_joins_81 ?_
    refine lv_aload_n hx hb dX6_joins_84 rfl (lv_at hl 0 rfl) ?_
    refine k_get 16 X hk (wg_30 G _) rfl (hz_wsX60 _) (Nat.le_of_ble_eq_true rfl) (List.mem_cons_of_mem _ (aw_r29 _ (List.mem_of_getElem? (i := 2) rfl))) rfl dX6_joins_85 ?_
    refine lv_aload_n hx hb dX6_joins_88 rfl (lv_at hl 0 rfl) ?_
    refine k_get 9 X hk (wg_30 G _) rfl (hz_wsX60 _) (Nat.le_of_ble_eq_true rfl) (List.mem_cons_of_mem _ (aw_r4 _ (List.mem_of_getElem? (i := 19) rfl))) rfl dX6_joins_89 ?_
    refine lv_iload_n hx hb dX6_joins_92 rfl (lv_at hl 2 rfl) ?_
    refine k_iald X hk (wg_34 G _) hw.1 dX6_joins_93 ?_
    replace hw := hw.2
    refine k_iast X hk (wg_35 G _) (ws_35 G _) rfl hw.1 dX6_joins_94 (fun H locs hk => ?_)
    replace hw := hw.2
    obtain ⟨σ9, eσ9⟩ : ∃ y : Sg, y = (put σ8 35 ((σ8 30 16)).toNatClampNeg (σ8 34 (p2).toNatClampNeg)) := ⟨_, rfl⟩
    rw [← eσ9] at hk
    replace hw := hw σ9 eσ9
    refine lv_aload_n hx hb dX6_joins_95 rfl (lv_at hl 0 rfl) ?_
    refine k_get 9 X hk (wg_30 G _) rfl (hz_wsX60 _) (Nat.le_of_ble_eq_true rfl) (List.mem_cons_of_mem _ (aw_r4 _ (List.mem_of_getElem? (i := 19) rfl))) rfl dX6_joins_96 ?_
    refine lv_iload_n hx hb dX6_joins_99 rfl (lv_at hl 2 rfl) ?_
    refine lv_aload_n hx hb dX6_joins_100 rfl (lv_at hl 0 rfl) ?_
    refine k_get 16 X hk (wg_30 G _) rfl (hz_wsX60 _) (Nat.le_of_ble_eq_true rfl) (List.mem_cons_of_mem _ (aw_r29 _ (List.mem_of_getElem? (i := 2) rfl))) rfl dX6_joins_101 ?_
    refine k_iast X hk (wg_34 G _) (ws_34 G _) rfl hw.1 dX6_joins_104 (fun H locs hk => ?_)
    replace hw := hw.2
    obtain ⟨σ10, eσ10⟩ : ∃ y : Sg, y = (put σ9 34 (p2).toNatClampNeg (σ9 30 16)) := ⟨_, rfl⟩
    rw [← eσ10] at hk
    replace hw := hw σ10 eσ10
    refine lv_aload_n hx hb dX6_joins_105 rfl (lv_at hl 0 rfl) ?_
    refine lv_dup hx hb dX6_joins_106 rfl ?_
    refine k_get 16 X hk (wg_30 G _) rfl (hz_wsX60 _) (Nat.le_of_ble_eq_true rfl) (List.mem_cons_of_mem _ (aw_r29 _ (List.mem_of_getElem? (i := 2) rfl))) rfl dX6_joins_107 ?_
    refine lv_iconst (v := (1 : Int32)) hx hb dX6_joins_110 (by decide) ?_
    refine lv_iadd hx hb dX6_joins_111 ?_
    refine k_put 16 X hk (wg_30 G _) rfl (hz_wsX60 _) tyX6_ok nmX6 (Nat.le_of_ble_eq_true rfl) (List.mem_cons_of_mem _ (aw_r29 _ (List.mem_of_getElem? (i := 2) rfl))) rfl rfl (Nat.le_of_ble_eq_true rfl) (ws_30_16 G _ _) dX6_joins_112 (fun H locs hk => ?_)
    obtain ⟨σ11, eσ11⟩ : ∃ y : Sg, y = (put σ10 30 16 ((σ10 30 16) + (1 : Int32))) := ⟨_, rfl⟩
    rw [← eσ11] at hk
    replace hw := hw σ11 eσ11
    exact k_vret X hk hw dX6_joins_115
  · replace hw := hw.1 c1
    exact k_vret X hk hw dX6_joins_4
def rm_X6_node : Room := { frames := 0, cells := 0, slots := 0, locals := 0 }
abbrev wz_X6_node : List Cond := Cond.code yX6_node cX6_node 2 (some .int) :: wsA
theorem hds_X6_node : yX6_node.cls ≠ "java/lang/invoke/MethodHandle" ∧ yX6_node.cls ≠ "java/lang/invoke/VarHandle" ∧ (parseMethodDescriptor yX6_node.desc).map (fun d => d.parameters.length) = some 2 := by decide +kernel
def wp_X6_node (σ : Sg) (p0 p1 : Int32) (Q : Int32 → Sg → Prop) : Prop := Q (((18 : Int32) + ((8 : Int32) * p1)) + p0) σ
set_option maxHeartbeats 4000000 in
set_option maxRecDepth 100000 in
theorem c_X6_node (l : Launch) (G : Gw) (σ : Sg) (p0 p1 : Int32) (Q : Int32 → Sg → Prop) (hw : wp_X6_node σ p0 p1 Q) : MetI l yX6_node wz_X6_node rm_X6_node G σ [.int p0, .int p1] Q := by
  refine MetI.of cX6_node 2 (some .int) (by decide) rfl (Nat.le_of_ble_eq_true rfl) ?_
  intro p e s m below meth c X hk ls hl
  have X : KC p m meth c cX6_node 2 s _ wz_X6_node RX6 (some .int) G := X
  have hl : lv_has ls 2 [(0, .int p0), (1, .int p1)] := hl
  unfold wp_X6_node at hw
  have hx := X.1.1
  have hb := X.1.2.1
  refine lv_bipush (v := (18 : Int32)) hx hb dX6_node_0 (by decide) ?_
  refine lv_bipush (v := (8 : Int32)) hx hb dX6_node_2 (by decide) ?_
  refine lv_iload_n hx hb dX6_node_4 rfl (lv_at hl 1 rfl) ?_
  refine lv_imul hx hb dX6_node_5 ?_
  refine lv_iadd hx hb dX6_node_6 ?_
  refine lv_iload_n hx hb dX6_node_7 rfl (lv_at hl 0 rfl) ?_
  refine lv_iadd hx hb dX6_node_8 ?_
  exact k_iret X hk hw dX6_node_9
def rm_X6_lays : Room := { frames := 1, cells := 0, slots := 0, locals := 23 }
abbrev wz_X6_lays : List Cond := Cond.code yX6_lays cX6_lays 4 none :: wsA
theorem hd_X6_lays : yX6_lays.cls = RX6 ∧ yX6_lays.cls ≠ "java/lang/invoke/MethodHandle" ∧ yX6_lays.cls ≠ "java/lang/invoke/VarHandle" ∧ (parseMethodDescriptor yX6_lays.desc).map (fun d => d.parameters.length) = some 1 := by decide +kernel
def wp_X6_lays_163 (Q : Sg → Prop) (K153 : Int32 → Int32 → Sg → Prop) : Nat → Int32 → Int32 → Int32 → Sg → Prop
  | 0, _, _, _, _ => False
  | n + 1, x1, x2, x3, σ => wp_X6_ofRoad σ x2 (2 : Int32) (fun r10 σ9 => (x1 < (x3 + r10) → (∀ x2_12 : Int32, x2_12 = (x2 + (1 : Int32)) → (K153 x1 x2_12 σ9))) ∧ (¬ (x1 < (x3 + r10)) → (wp_X6_ofRoad σ9 x2 (0 : Int32) (fun r14 σ13 => wp_X6_node σ13 r14 x3 (fun r16 σ15 => wp_X6_ofRoad σ15 x2 (1 : Int32) (fun r18 σ17 => wp_X6_ofRoad σ17 x2 (2 : Int32) (fun r20 σ19 => wp_X6_node σ19 r18 (x3 + r20) (fun r22 σ21 => wp_X6_ofRoad σ21 x2 (3 : Int32) (fun r24 σ23 => wp_X6_joins σ23 r16 r22 r24 (fun σ25 => wp_X6_ofRoad σ25 x2 (1 : Int32) (fun r28 σ27 => wp_X6_node σ27 r28 x3 (fun r30 σ29 => wp_X6_ofRoad σ29 x2 (0 : Int32) (fun r32 σ31 => wp_X6_ofRoad σ31 x2 (2 : Int32) (fun r34 σ33 => wp_X6_node σ33 r32 (x3 + r34) (fun r36 σ35 => wp_X6_ofRoad σ35 x2 (4 : Int32) (fun r38 σ37 => wp_X6_joins σ37 r30 r36 r38 (fun σ39 => ∀ x3_41 : Int32, x3_41 = (x3 + (1 : Int32)) → (wp_X6_lays_163 Q K153 n x1 x2 x3_41 σ39))))))))))))))))))
set_option maxHeartbeats 4000000 in
set_option maxRecDepth 100000 in
theorem t_X6_lays_163 {p : Program} {l : Launch} {e : Env} {s : State} {m : MethodId} {args : Array Value} {below : List Frame} {meth : Method} {c : Code} {G : Gw} (X : KC p m meth c cX6_lays 4 s args wz_X6_lays RX6 none G) (Q : Sg → Prop) (K153 : Int32 → Int32 → Sg → Prop) (hK153 : ∀ (σ : Sg) (x1 x2 : Int32) (H : Heap) (locs : List Loc) (ls : Array Slot), K153 x1 x2 σ → WK G s H locs σ → lv_has ls 4 [(0, .ref (G.1 30)), (1, .int x1), (2, .int x2)] → W p l e rm_X6_lays s m args below meth c H locs 0 0 (ZV below args s G Q) (F0 m 153 ls [])) : ∀ (n : Nat) (σ : Sg) (x1 x2 x3 : Int32) (H : Heap) (locs : List Loc) (ls : Array Slot), wp_X6_lays_163 Q K153 n x1 x2 x3 σ → WK G s H locs σ → lv_has ls 4 [(0, .ref (G.1 30)), (1, .int x1), (2, .int x2), (3, .int x3)] → W p l e rm_X6_lays s m args below meth c H locs 0 0 (ZV below args s G Q) (F0 m 163 ls []) := by
  have hx := X.1.1
  have hb := X.1.2.1
  intro n
  induction n with
  | zero =>
    intro σ x1 x2 x3 H locs ls hw hk hl
    exact False.elim hw
  | succ n ih =>
    intro σ x1 x2 x3 H locs ls hw hk hl
    rw [wp_X6_lays_163] at hw
    refine lv_iload_n hx hb dX6_lays_163 rfl (lv_at hl 3 rfl) ?_
    refine lv_aload_n hx hb dX6_lays_164 rfl (lv_at hl 0 rfl) ?_
    refine lv_iload_n hx hb dX6_lays_165 rfl (lv_at hl 2 rfl) ?_
    refine lv_iconst (v := (2 : Int32)) hx hb dX6_lays_166 (by decide) ?_
    refine k_callVi (rest := [.int x3]) X hk (c_X6_ofRoad l G _ _ _ _ hw) (cwV 2 X.1.2.2.2.2 (gzV (aw_r17 _ (List.mem_of_getElem? (i := 14) rfl)) (aw_r17 _ (List.mem_of_getElem? (i := 15) rfl)) (aw_r17 _ (List.mem_of_getElem? (i := 16) rfl)) (aw_r1 _ (List.mem_of_getElem? (i := 5) rfl)) (aw_r17 _ (List.mem_of_getElem? (i := 17) rfl))) rfl rfl rfl hd_X6_ofRoad ⟨(Nat.le_of_ble_eq_true rfl), (Nat.le_of_ble_eq_true rfl)⟩) (wg_30 G _) rfl rfl hl.1 rfl (Nat.le_of_ble_eq_true rfl) dX6_lays_167 ⟨Nat.zero_le _, Nat.zero_le _⟩ (fun r10 σ9 H locs hw hk => ?_)
    refine lv_iadd hx hb dX6_lays_170 ?_
    refine lv_iload_n hx hb dX6_lays_171 rfl (lv_at hl 1 rfl) ?_
    refine lv_icmp_gt (tgt := 255) hx hb dX6_lays_172 (by decide) (fun c11 => ?_) (fun c11 => ?_)
    · replace hw := hw.1 c11
      obtain ⟨x2_12, ex2_12⟩ : ∃ y : Int32, y = (x2 + (1 : Int32)) := ⟨_, rfl⟩
      replace hw := hw x2_12 ex2_12
      refine lv_iinc (v := x2_12) (lv' := [(2, .int x2_12), (0, .ref (G.1 30)), (1, .int x1), (3, .int x3)]) hx hb dX6_lays_255 hl (k := 2) rfl (by rw [ex2_12]; rfl) (Nat.le_of_ble_eq_true rfl) rfl (fun ls hl => ?_)
      refine lv_goto (tgt := 153) hx hb dX6_lays_258 (by decide) ?_
      exact hK153 _ _ _ _ _ _ hw hk (lv_sub hl [1, 2, 0] rfl)
    · replace hw := hw.2 c11
      refine lv_aload_n hx hb dX6_lays_175 rfl (lv_at hl 0 rfl) ?_
      refine lv_aload_n hx hb dX6_lays_176 rfl (lv_at hl 0 rfl) ?_
      refine lv_iload_n hx hb dX6_lays_177 rfl (lv_at hl 2 rfl) ?_
      refine lv_iconst (v := (0 : Int32)) hx hb dX6_lays_178 (by decide) ?_
      refine k_callVi (rest := [.ref (G.1 30)]) X hk (c_X6_ofRoad l G _ _ _ _ hw) (cwV 2 X.1.2.2.2.2 (gzV (aw_r17 _ (List.mem_of_getElem? (i := 14) rfl)) (aw_r17 _ (List.mem_of_getElem? (i := 15) rfl)) (aw_r17 _ (List.mem_of_getElem? (i := 16) rfl)) (aw_r1 _ (List.mem_of_getElem? (i := 5) rfl)) (aw_r17 _ (List.mem_of_getElem? (i := 17) rfl))) rfl rfl rfl hd_X6_ofRoad ⟨(Nat.le_of_ble_eq_true rfl), (Nat.le_of_ble_eq_true rfl)⟩) (wg_30 G _) rfl rfl hl.1 rfl (Nat.le_of_ble_eq_true rfl) dX6_lays_179 ⟨Nat.zero_le _, Nat.zero_le _⟩ (fun r14 σ13 H locs hw hk => ?_)
      refine lv_iload_n hx hb dX6_lays_182 rfl (lv_at hl 3 rfl) ?_
      refine k_callSi (rest := [.ref (G.1 30)]) X hk (c_X6_node l G _ _ _ _ hw) (va_cwS 2 X.1.2.2.2.2 (gzS (aw_r29 _ (List.mem_of_getElem? (i := 8) rfl)) (aw_r29 _ (List.mem_of_getElem? (i := 9) rfl)) (aw_r1 _ (List.mem_of_getElem? (i := 5) rfl)) (aw_r29 _ (List.mem_of_getElem? (i := 10) rfl))) rfl rfl rfl hds_X6_node ⟨(Nat.le_of_ble_eq_true rfl), (Nat.le_of_ble_eq_true rfl)⟩) rfl hl.1 rfl (Nat.le_of_ble_eq_true rfl) dX6_lays_183 ⟨Nat.zero_le _, Nat.zero_le _⟩ (fun r16 σ15 H locs hw hk => ?_)
      refine lv_aload_n hx hb dX6_lays_186 rfl (lv_at hl 0 rfl) ?_
      refine lv_iload_n hx hb dX6_lays_187 rfl (lv_at hl 2 rfl) ?_
      refine lv_iconst (v := (1 : Int32)) hx hb dX6_lays_188 (by decide) ?_
      refine k_callVi (rest := [.int r16, .ref (G.1 30)]) X hk (c_X6_ofRoad l G _ _ _ _ hw) (cwV 2 X.1.2.2.2.2 (gzV (aw_r17 _ (List.mem_of_getElem? (i := 14) rfl)) (aw_r17 _ (List.mem_of_getElem? (i := 15) rfl)) (aw_r17 _ (List.mem_of_getElem? (i := 16) rfl)) (aw_r1 _ (List.mem_of_getElem? (i := 5) rfl)) (aw_r17 _ (List.mem_of_getElem? (i := 17) rfl))) rfl rfl rfl hd_X6_ofRoad ⟨(Nat.le_of_ble_eq_true rfl), (Nat.le_of_ble_eq_true rfl)⟩) (wg_30 G _) rfl rfl hl.1 rfl (Nat.le_of_ble_eq_true rfl) dX6_lays_189 ⟨Nat.zero_le _, Nat.zero_le _⟩ (fun r18 σ17 H locs hw hk => ?_)
      refine lv_iload_n hx hb dX6_lays_192 rfl (lv_at hl 3 rfl) ?_
      refine lv_aload_n hx hb dX6_lays_193 rfl (lv_at hl 0 rfl) ?_
      refine lv_iload_n hx hb dX6_lays_194 rfl (lv_at hl 2 rfl) ?_
      refine lv_iconst (v := (2 : Int32)) hx hb dX6_lays_195 (by decide) ?_
      refine k_callVi (rest := [.int x3, .int r18, .int r16, .ref (G.1 30)]) X hk (c_X6_ofRoad l G _ _ _ _ hw) (cwV 2 X.1.2.2.2.2 (gzV (aw_r17 _ (List.mem_of_getElem? (i := 14) rfl)) (aw_r17 _ (List.mem_of_getElem? (i := 15) rfl)) (aw_r17 _ (List.mem_of_getElem? (i := 16) rfl)) (aw_r1 _ (List.mem_of_getElem? (i := 5) rfl)) (aw_r17 _ (List.mem_of_getElem? (i := 17) rfl))) rfl rfl rfl hd_X6_ofRoad ⟨(Nat.le_of_ble_eq_true rfl), (Nat.le_of_ble_eq_true rfl)⟩) (wg_30 G _) rfl rfl hl.1 rfl (Nat.le_of_ble_eq_true rfl) dX6_lays_196 ⟨Nat.zero_le _, Nat.zero_le _⟩ (fun r20 σ19 H locs hw hk => ?_)
      refine lv_iadd hx hb dX6_lays_199 ?_
      refine k_callSi (rest := [.int r16, .ref (G.1 30)]) X hk (c_X6_node l G _ _ _ _ hw) (va_cwS 2 X.1.2.2.2.2 (gzS (aw_r29 _ (List.mem_of_getElem? (i := 8) rfl)) (aw_r29 _ (List.mem_of_getElem? (i := 9) rfl)) (aw_r1 _ (List.mem_of_getElem? (i := 5) rfl)) (aw_r29 _ (List.mem_of_getElem? (i := 10) rfl))) rfl rfl rfl hds_X6_node ⟨(Nat.le_of_ble_eq_true rfl), (Nat.le_of_ble_eq_true rfl)⟩) rfl hl.1 rfl (Nat.le_of_ble_eq_true rfl) dX6_lays_200 ⟨Nat.zero_le _, Nat.zero_le _⟩ (fun r22 σ21 H locs hw hk => ?_)
      refine lv_aload_n hx hb dX6_lays_203 rfl (lv_at hl 0 rfl) ?_
      refine lv_iload_n hx hb dX6_lays_204 rfl (lv_at hl 2 rfl) ?_
      refine lv_iconst (v := (3 : Int32)) hx hb dX6_lays_205 (by decide) ?_
      refine k_callVi (rest := [.int r22, .int r16, .ref (G.1 30)]) X hk (c_X6_ofRoad l G _ _ _ _ hw) (cwV 2 X.1.2.2.2.2 (gzV (aw_r17 _ (List.mem_of_getElem? (i := 14) rfl)) (aw_r17 _ (List.mem_of_getElem? (i := 15) rfl)) (aw_r17 _ (List.mem_of_getElem? (i := 16) rfl)) (aw_r1 _ (List.mem_of_getElem? (i := 5) rfl)) (aw_r17 _ (List.mem_of_getElem? (i := 17) rfl))) rfl rfl rfl hd_X6_ofRoad ⟨(Nat.le_of_ble_eq_true rfl), (Nat.le_of_ble_eq_true rfl)⟩) (wg_30 G _) rfl rfl hl.1 rfl (Nat.le_of_ble_eq_true rfl) dX6_lays_206 ⟨Nat.zero_le _, Nat.zero_le _⟩ (fun r24 σ23 H locs hw hk => ?_)
      refine k_callVv (rest := []) X hk (c_X6_joins l G _ _ _ _ _ hw) (cwV 3 X.1.2.2.2.2 (gzV (aw_r29 _ (List.mem_of_getElem? (i := 4) rfl)) (aw_r29 _ (List.mem_of_getElem? (i := 5) rfl)) (aw_r29 _ (List.mem_of_getElem? (i := 6) rfl)) (aw_r1 _ (List.mem_of_getElem? (i := 5) rfl)) (aw_r29 _ (List.mem_of_getElem? (i := 7) rfl))) rfl rfl rfl hd_X6_joins ⟨(Nat.le_of_ble_eq_true rfl), (Nat.le_of_ble_eq_true rfl)⟩) (wg_30 G _) rfl rfl hl.1 rfl (Nat.le_of_ble_eq_true rfl) dX6_lays_209 ⟨Nat.zero_le _, Nat.zero_le _⟩ (fun σ25 H locs hw hk => ?_)
      refine lv_aload_n hx hb dX6_lays_212 rfl (lv_at hl 0 rfl) ?_
      refine lv_aload_n hx hb dX6_lays_213 rfl (lv_at hl 0 rfl) ?_
      refine lv_iload_n hx hb dX6_lays_214 rfl (lv_at hl 2 rfl) ?_
      refine lv_iconst (v := (1 : Int32)) hx hb dX6_lays_215 (by decide) ?_
      refine k_callVi (rest := [.ref (G.1 30)]) X hk (c_X6_ofRoad l G _ _ _ _ hw) (cwV 2 X.1.2.2.2.2 (gzV (aw_r17 _ (List.mem_of_getElem? (i := 14) rfl)) (aw_r17 _ (List.mem_of_getElem? (i := 15) rfl)) (aw_r17 _ (List.mem_of_getElem? (i := 16) rfl)) (aw_r1 _ (List.mem_of_getElem? (i := 5) rfl)) (aw_r17 _ (List.mem_of_getElem? (i := 17) rfl))) rfl rfl rfl hd_X6_ofRoad ⟨(Nat.le_of_ble_eq_true rfl), (Nat.le_of_ble_eq_true rfl)⟩) (wg_30 G _) rfl rfl hl.1 rfl (Nat.le_of_ble_eq_true rfl) dX6_lays_216 ⟨Nat.zero_le _, Nat.zero_le _⟩ (fun r28 σ27 H locs hw hk => ?_)
      refine lv_iload_n hx hb dX6_lays_219 rfl (lv_at hl 3 rfl) ?_
      refine k_callSi (rest := [.ref (G.1 30)]) X hk (c_X6_node l G _ _ _ _ hw) (va_cwS 2 X.1.2.2.2.2 (gzS (aw_r29 _ (List.mem_of_getElem? (i := 8) rfl)) (aw_r29 _ (List.mem_of_getElem? (i := 9) rfl)) (aw_r1 _ (List.mem_of_getElem? (i := 5) rfl)) (aw_r29 _ (List.mem_of_getElem? (i := 10) rfl))) rfl rfl rfl hds_X6_node ⟨(Nat.le_of_ble_eq_true rfl), (Nat.le_of_ble_eq_true rfl)⟩) rfl hl.1 rfl (Nat.le_of_ble_eq_true rfl) dX6_lays_220 ⟨Nat.zero_le _, Nat.zero_le _⟩ (fun r30 σ29 H locs hw hk => ?_)
      refine lv_aload_n hx hb dX6_lays_223 rfl (lv_at hl 0 rfl) ?_
      refine lv_iload_n hx hb dX6_lays_224 rfl (lv_at hl 2 rfl) ?_
      refine lv_iconst (v := (0 : Int32)) hx hb dX6_lays_225 (by decide) ?_
      refine k_callVi (rest := [.int r30, .ref (G.1 30)]) X hk (c_X6_ofRoad l G _ _ _ _ hw) (cwV 2 X.1.2.2.2.2 (gzV (aw_r17 _ (List.mem_of_getElem? (i := 14) rfl)) (aw_r17 _ (List.mem_of_getElem? (i := 15) rfl)) (aw_r17 _ (List.mem_of_getElem? (i := 16) rfl)) (aw_r1 _ (List.mem_of_getElem? (i := 5) rfl)) (aw_r17 _ (List.mem_of_getElem? (i := 17) rfl))) rfl rfl rfl hd_X6_ofRoad ⟨(Nat.le_of_ble_eq_true rfl), (Nat.le_of_ble_eq_true rfl)⟩) (wg_30 G _) rfl rfl hl.1 rfl (Nat.le_of_ble_eq_true rfl) dX6_lays_226 ⟨Nat.zero_le _, Nat.zero_le _⟩ (fun r32 σ31 H locs hw hk => ?_)
      refine lv_iload_n hx hb dX6_lays_229 rfl (lv_at hl 3 rfl) ?_
      refine lv_aload_n hx hb dX6_lays_230 rfl (lv_at hl 0 rfl) ?_
      refine lv_iload_n hx hb dX6_lays_231 rfl (lv_at hl 2 rfl) ?_
      refine lv_iconst (v := (2 : Int32)) hx hb dX6_lays_232 (by decide) ?_
      refine k_callVi (rest := [.int x3, .int r32, .int r30, .ref (G.1 30)]) X hk (c_X6_ofRoad l G _ _ _ _ hw) (cwV 2 X.1.2.2.2.2 (gzV (aw_r17 _ (List.mem_of_getElem? (i := 14) rfl)) (aw_r17 _ (List.mem_of_getElem? (i := 15) rfl)) (aw_r17 _ (List.mem_of_getElem? (i := 16) rfl)) (aw_r1 _ (List.mem_of_getElem? (i := 5) rfl)) (aw_r17 _ (List.mem_of_getElem? (i := 17) rfl))) rfl rfl rfl hd_X6_ofRoad ⟨(Nat.le_of_ble_eq_true rfl), (Nat.le_of_ble_eq_true rfl)⟩) (wg_30 G _) rfl rfl hl.1 rfl (Nat.le_of_ble_eq_true rfl) dX6_lays_233 ⟨Nat.zero_le _, Nat.zero_le _⟩ (fun r34 σ33 H locs hw hk => ?_)
      refine lv_iadd hx hb dX6_lays_236 ?_
      refine k_callSi (rest := [.int r30, .ref (G.1 30)]) X hk (c_X6_node l G _ _ _ _ hw) (va_cwS 2 X.1.2.2.2.2 (gzS (aw_r29 _ (List.mem_of_getElem? (i := 8) rfl)) (aw_r29 _ (List.mem_of_getElem? (i := 9) rfl)) (aw_r1 _ (List.mem_of_getElem? (i := 5) rfl)) (aw_r29 _ (List.mem_of_getElem? (i := 10) rfl))) rfl rfl rfl hds_X6_node ⟨(Nat.le_of_ble_eq_true rfl), (Nat.le_of_ble_eq_true rfl)⟩) rfl hl.1 rfl (Nat.le_of_ble_eq_true rfl) dX6_lays_237 ⟨Nat.zero_le _, Nat.zero_le _⟩ (fun r36 σ35 H locs hw hk => ?_)
      refine lv_aload_n hx hb dX6_lays_240 rfl (lv_at hl 0 rfl) ?_
      refine lv_iload_n hx hb dX6_lays_241 rfl (lv_at hl 2 rfl) ?_
      refine lv_iconst (v := (4 : Int32)) hx hb dX6_lays_242 (by decide) ?_
      refine k_callVi (rest := [.int r36, .int r30, .ref (G.1 30)]) X hk (c_X6_ofRoad l G _ _ _ _ hw) (cwV 2 X.1.2.2.2.2 (gzV (aw_r17 _ (List.mem_of_getElem? (i := 14) rfl)) (aw_r17 _ (List.mem_of_getElem? (i := 15) rfl)) (aw_r17 _ (List.mem_of_getElem? (i := 16) rfl)) (aw_r1 _ (List.mem_of_getElem? (i := 5) rfl)) (aw_r17 _ (List.mem_of_getElem? (i := 17) rfl))) rfl rfl rfl hd_X6_ofRoad ⟨(Nat.le_of_ble_eq_true rfl), (Nat.le_of_ble_eq_true rfl)⟩) (wg_30 G _) rfl rfl hl.1 rfl (Nat.le_of_ble_eq_true rfl) dX6_lays_243 ⟨Nat.zero_le _, Nat.zero_le _⟩ (fun r38 σ37 H locs hw hk => ?_)
      refine k_callVv (rest := []) X hk (c_X6_joins l G _ _ _ _ _ hw) (cwV 3 X.1.2.2.2.2 (gzV (aw_r29 _ (List.mem_of_getElem? (i := 4) rfl)) (aw_r29 _ (List.mem_of_getElem? (i := 5) rfl)) (aw_r29 _ (List.mem_of_getElem? (i := 6) rfl)) (aw_r1 _ (List.mem_of_getElem? (i := 5) rfl)) (aw_r29 _ (List.mem_of_getElem? (i := 7) rfl))) rfl rfl rfl hd_X6_joins ⟨(Nat.le_of_ble_eq_true rfl), (Nat.le_of_ble_eq_true rfl)⟩) (wg_30 G _) rfl rfl hl.1 rfl (Nat.le_of_ble_eq_true rfl) dX6_lays_246 ⟨Nat.zero_le _, Nat.zero_le _⟩ (fun σ39 H locs hw hk => ?_)
      obtain ⟨x3_41, ex3_41⟩ : ∃ y : Int32, y = (x3 + (1 : Int32)) := ⟨_, rfl⟩
      replace hw := hw x3_41 ex3_41
      refine lv_iinc (v := x3_41) (lv' := [(3, .int x3_41), (0, .ref (G.1 30)), (1, .int x1), (2, .int x2)]) hx hb dX6_lays_249 hl (k := 3) rfl (by rw [ex3_41]; rfl) (Nat.le_of_ble_eq_true rfl) rfl (fun ls hl => ?_)
      refine lv_goto (tgt := 163) hx hb dX6_lays_252 (by decide) ?_
      exact ih _ _ _ _ _ _ _ hw hk (lv_sub hl [1, 2, 3, 0] rfl)
def wp_X6_lays_153 (Q : Sg → Prop)  : Nat → Int32 → Int32 → Sg → Prop
  | 0, _, _, _ => False
  | n + 1, x1, x2, σ => wp_X6_roads σ  (fun r7 σ6 => (r7 ≤ x2 → (Q σ6)) ∧ (¬ (r7 ≤ x2) → (∃ n0, wp_X6_lays_163 Q (fun z1 z2 σ => wp_X6_lays_153 Q  n z1 z2 σ) n0 x1 x2 (0 : Int32) σ6)))
set_option maxHeartbeats 4000000 in
set_option maxRecDepth 100000 in
theorem t_X6_lays_153 {p : Program} {l : Launch} {e : Env} {s : State} {m : MethodId} {args : Array Value} {below : List Frame} {meth : Method} {c : Code} {G : Gw} (X : KC p m meth c cX6_lays 4 s args wz_X6_lays RX6 none G) (Q : Sg → Prop)  : ∀ (n : Nat) (σ : Sg) (x1 x2 : Int32) (H : Heap) (locs : List Loc) (ls : Array Slot), wp_X6_lays_153 Q  n x1 x2 σ → WK G s H locs σ → lv_has ls 4 [(0, .ref (G.1 30)), (1, .int x1), (2, .int x2)] → W p l e rm_X6_lays s m args below meth c H locs 0 0 (ZV below args s G Q) (F0 m 153 ls []) := by
  have hx := X.1.1
  have hb := X.1.2.1
  intro n
  induction n with
  | zero =>
    intro σ x1 x2 H locs ls hw hk hl
    exact False.elim hw
  | succ n ih =>
    intro σ x1 x2 H locs ls hw hk hl
    rw [wp_X6_lays_153] at hw
    refine lv_iload_n hx hb dX6_lays_153 rfl (lv_at hl 2 rfl) ?_
    refine lv_aload_n hx hb dX6_lays_154 rfl (lv_at hl 0 rfl) ?_
    refine k_callVi (rest := [.int x2]) X hk (c_X6_roads l G _  _ hw) (cwV 0 X.1.2.2.2.2 (gzV (aw_r16 _ (List.mem_of_getElem? (i := 18) rfl)) (aw_r16 _ (List.mem_of_getElem? (i := 19) rfl)) (aw_r16 _ (List.mem_of_getElem? (i := 20) rfl)) (aw_r1 _ (List.mem_of_getElem? (i := 5) rfl)) (aw_r16 _ (List.mem_of_getElem? (i := 21) rfl))) rfl rfl rfl hd_X6_roads ⟨(Nat.le_of_ble_eq_true rfl), (Nat.le_of_ble_eq_true rfl)⟩) (wg_30 G _) rfl rfl hl.1 rfl (Nat.le_of_ble_eq_true rfl) dX6_lays_155 ⟨Nat.zero_le _, Nat.zero_le _⟩ (fun r7 σ6 H locs hw hk => ?_)
    refine lv_icmp_ge (tgt := 261) hx hb dX6_lays_158 (by decide) (fun c8 => ?_) (fun c8 => ?_)
    · replace hw := hw.1 c8
      exact k_vret X hk hw dX6_lays_261
    · replace hw := hw.2 c8
      refine lv_iconst (v := (0 : Int32)) hx hb dX6_lays_161 (by decide) ?_
      refine lv_istore_n (lv' := [(3, .int (0 : Int32)), (0, .ref (G.1 30)), (1, .int x1), (2, .int x2)]) hx hb dX6_lays_162 rfl hl (Nat.le_of_ble_eq_true rfl) rfl (fun ls hl => ?_)
      obtain ⟨n0, hw⟩ := hw
      exact t_X6_lays_163 X Q _ ih n0 _ _ _ _ _ _ _ hw hk (lv_sub hl [1, 2, 3, 0] rfl)
def wp_X6_lays_139 (Q : Sg → Prop) (K29 : Int32 → Int32 → Sg → Prop) (K68 : Int32 → Int32 → Int32 → Sg → Prop) (x1 x2 x3 : Int32) (σ : Sg) : Prop := ∀ x3_60 : Int32, x3_60 = (x3 + (1 : Int32)) → (K68 x1 x2 x3_60 σ)
set_option maxHeartbeats 4000000 in
set_option maxRecDepth 100000 in
theorem t_X6_lays_139 {p : Program} {l : Launch} {e : Env} {s : State} {m : MethodId} {args : Array Value} {below : List Frame} {meth : Method} {c : Code} {G : Gw} (X : KC p m meth c cX6_lays 4 s args wz_X6_lays RX6 none G) (Q : Sg → Prop) (K29 : Int32 → Int32 → Sg → Prop) (K68 : Int32 → Int32 → Int32 → Sg → Prop) (hK29 : ∀ (σ : Sg) (x1 x2 : Int32) (H : Heap) (locs : List Loc) (ls : Array Slot), K29 x1 x2 σ → WK G s H locs σ → lv_has ls 4 [(0, .ref (G.1 30)), (1, .int x1), (2, .int x2)] → W p l e rm_X6_lays s m args below meth c H locs 0 0 (ZV below args s G Q) (F0 m 29 ls [])) (hK68 : ∀ (σ : Sg) (x1 x2 x3 : Int32) (H : Heap) (locs : List Loc) (ls : Array Slot), K68 x1 x2 x3 σ → WK G s H locs σ → lv_has ls 4 [(0, .ref (G.1 30)), (1, .int x1), (2, .int x2), (3, .int x3)] → W p l e rm_X6_lays s m args below meth c H locs 0 0 (ZV below args s G Q) (F0 m 68 ls [])) : ∀ (σ : Sg) (x1 x2 x3 : Int32) (H : Heap) (locs : List Loc) (ls : Array Slot), wp_X6_lays_139 Q K29 K68 x1 x2 x3 σ → WK G s H locs σ → lv_has ls 4 [(0, .ref (G.1 30)), (1, .int x1), (2, .int x2), (3, .int x3)] → W p l e rm_X6_lays s m args below meth c H locs 0 0 (ZV below args s G Q) (F0 m 139 ls []) := by
  have hx := X.1.1
  have hb := X.1.2.1
  intro σ x1 x2 x3 H locs ls hw hk hl
  unfold wp_X6_lays_139 at hw
  obtain ⟨x3_60, ex3_60⟩ : ∃ y : Int32, y = (x3 + (1 : Int32)) := ⟨_, rfl⟩
  replace hw := hw x3_60 ex3_60
  refine lv_iinc (v := x3_60) (lv' := [(3, .int x3_60), (0, .ref (G.1 30)), (1, .int x1), (2, .int x2)]) hx hb dX6_lays_139 hl (k := 3) rfl (by rw [ex3_60]; rfl) (Nat.le_of_ble_eq_true rfl) rfl (fun ls hl => ?_)
  refine lv_goto (tgt := 68) hx hb dX6_lays_142 (by decide) ?_
  exact hK68 _ _ _ _ _ _ _ hw hk (lv_sub hl [1, 2, 3, 0] rfl)
def wp_X6_lays_97 (Q : Sg → Prop) (K29 : Int32 → Int32 → Sg → Prop) (K68 : Int32 → Int32 → Int32 → Sg → Prop) (x1 x2 x3 : Int32) (σ : Sg) : Prop := wp_X6_node σ x2 x3 (fun r56 σ55 => wp_X6_joins σ55 r56 ((10 : Int32) + x2) (1000000 : Int32) (fun σ57 => (x1 ≤ x3 → (wp_X6_lays_139 Q K29 K68 x1 x2 x3 σ57)) ∧ (¬ (x1 ≤ x3) → (wp_X6_node σ57 x2 x3 (fun r62 σ61 => wp_X6_node σ61 x2 (x3 + (1 : Int32)) (fun r64 σ63 => wp_X6_ofPlace σ63 x2 (3 : Int32) (fun r66 σ65 => wp_X6_joins σ65 r62 r64 r66 (fun σ67 => wp_X6_lays_139 Q K29 K68 x1 x2 x3 σ67))))))))
set_option maxHeartbeats 4000000 in
set_option maxRecDepth 100000 in
theorem t_X6_lays_97 {p : Program} {l : Launch} {e : Env} {s : State} {m : MethodId} {args : Array Value} {below : List Frame} {meth : Method} {c : Code} {G : Gw} (X : KC p m meth c cX6_lays 4 s args wz_X6_lays RX6 none G) (Q : Sg → Prop) (K29 : Int32 → Int32 → Sg → Prop) (K68 : Int32 → Int32 → Int32 → Sg → Prop) (hK29 : ∀ (σ : Sg) (x1 x2 : Int32) (H : Heap) (locs : List Loc) (ls : Array Slot), K29 x1 x2 σ → WK G s H locs σ → lv_has ls 4 [(0, .ref (G.1 30)), (1, .int x1), (2, .int x2)] → W p l e rm_X6_lays s m args below meth c H locs 0 0 (ZV below args s G Q) (F0 m 29 ls [])) (hK68 : ∀ (σ : Sg) (x1 x2 x3 : Int32) (H : Heap) (locs : List Loc) (ls : Array Slot), K68 x1 x2 x3 σ → WK G s H locs σ → lv_has ls 4 [(0, .ref (G.1 30)), (1, .int x1), (2, .int x2), (3, .int x3)] → W p l e rm_X6_lays s m args below meth c H locs 0 0 (ZV below args s G Q) (F0 m 68 ls [])) : ∀ (σ : Sg) (x1 x2 x3 : Int32) (H : Heap) (locs : List Loc) (ls : Array Slot), wp_X6_lays_97 Q K29 K68 x1 x2 x3 σ → WK G s H locs σ → lv_has ls 4 [(0, .ref (G.1 30)), (1, .int x1), (2, .int x2), (3, .int x3)] → W p l e rm_X6_lays s m args below meth c H locs 0 0 (ZV below args s G Q) (F0 m 97 ls []) := by
  have hx := X.1.1
  have hb := X.1.2.1
  intro σ x1 x2 x3 H locs ls hw hk hl
  unfold wp_X6_lays_97 at hw
  refine lv_aload_n hx hb dX6_lays_97 rfl (lv_at hl 0 rfl) ?_
  refine lv_iload_n hx hb dX6_lays_98 rfl (lv_at hl 2 rfl) ?_
  refine lv_iload_n hx hb dX6_lays_99 rfl (lv_at hl 3 rfl) ?_
  refine k_callSi (rest := [.ref (G.1 30)]) X hk (c_X6_node l G _ _ _ _ hw) (va_cwS 2 X.1.2.2.2.2 (gzS (aw_r29 _ (List.mem_of_getElem? (i := 8) rfl)) (aw_r29 _ (List.mem_of_getElem? (i := 9) rfl)) (aw_r1 _ (List.mem_of_getElem? (i := 5) rfl)) (aw_r29 _ (List.mem_of_getElem? (i := 10) rfl))) rfl rfl rfl hds_X6_node ⟨(Nat.le_of_ble_eq_true rfl), (Nat.le_of_ble_eq_true rfl)⟩) rfl hl.1 rfl (Nat.le_of_ble_eq_true rfl) dX6_lays_100 ⟨Nat.zero_le _, Nat.zero_le _⟩ (fun r56 σ55 H locs hw hk => ?_)
  refine lv_bipush (v := (10 : Int32)) hx hb dX6_lays_103 (by decide) ?_
  refine lv_iload_n hx hb dX6_lays_105 rfl (lv_at hl 2 rfl) ?_
  refine lv_iadd hx hb dX6_lays_106 ?_
  refine lv_ldc (v := (1000000 : Int32)) hx hb X.1.2.2.2.1 (X.1.2.2.2.2 _ (List.mem_cons_of_mem _ (aw_r29 _ (List.mem_of_getElem? (i := 3) rfl)))) dX6_lays_107 ?_
  refine k_callVv (rest := []) X hk (c_X6_joins l G _ _ _ _ _ hw) (cwV 3 X.1.2.2.2.2 (gzV (aw_r29 _ (List.mem_of_getElem? (i := 4) rfl)) (aw_r29 _ (List.mem_of_getElem? (i := 5) rfl)) (aw_r29 _ (List.mem_of_getElem? (i := 6) rfl)) (aw_r1 _ (List.mem_of_getElem? (i := 5) rfl)) (aw_r29 _ (List.mem_of_getElem? (i := 7) rfl))) rfl rfl rfl hd_X6_joins ⟨(Nat.le_of_ble_eq_true rfl), (Nat.le_of_ble_eq_true rfl)⟩) (wg_30 G _) rfl rfl hl.1 rfl (Nat.le_of_ble_eq_true rfl) dX6_lays_109 ⟨Nat.zero_le _, Nat.zero_le _⟩ (fun σ57 H locs hw hk => ?_)
  refine lv_iload_n hx hb dX6_lays_112 rfl (lv_at hl 3 rfl) ?_
  refine lv_iload_n hx hb dX6_lays_113 rfl (lv_at hl 1 rfl) ?_
  refine lv_icmp_ge (tgt := 139) hx hb dX6_lays_114 (by decide) (fun c59 => ?_) (fun c59 => ?_)
  · replace hw := hw.1 c59
    exact t_X6_lays_139 X Q _ _ hK29 hK68 _ _ _ _ _ _ _ hw hk hl
  · replace hw := hw.2 c59
    refine lv_aload_n hx hb dX6_lays_117 rfl (lv_at hl 0 rfl) ?_
    refine lv_iload_n hx hb dX6_lays_118 rfl (lv_at hl 2 rfl) ?_
    refine lv_iload_n hx hb dX6_lays_119 rfl (lv_at hl 3 rfl) ?_
    refine k_callSi (rest := [.ref (G.1 30)]) X hk (c_X6_node l G _ _ _ _ hw) (va_cwS 2 X.1.2.2.2.2 (gzS (aw_r29 _ (List.mem_of_getElem? (i := 8) rfl)) (aw_r29 _ (List.mem_of_getElem? (i := 9) rfl)) (aw_r1 _ (List.mem_of_getElem? (i := 5) rfl)) (aw_r29 _ (List.mem_of_getElem? (i := 10) rfl))) rfl rfl rfl hds_X6_node ⟨(Nat.le_of_ble_eq_true rfl), (Nat.le_of_ble_eq_true rfl)⟩) rfl hl.1 rfl (Nat.le_of_ble_eq_true rfl) dX6_lays_120 ⟨Nat.zero_le _, Nat.zero_le _⟩ (fun r62 σ61 H locs hw hk => ?_)
    refine lv_iload_n hx hb dX6_lays_123 rfl (lv_at hl 2 rfl) ?_
    refine lv_iload_n hx hb dX6_lays_124 rfl (lv_at hl 3 rfl) ?_
    refine lv_iconst (v := (1 : Int32)) hx hb dX6_lays_125 (by decide) ?_
    refine lv_iadd hx hb dX6_lays_126 ?_
    refine k_callSi (rest := [.int r62, .ref (G.1 30)]) X hk (c_X6_node l G _ _ _ _ hw) (va_cwS 2 X.1.2.2.2.2 (gzS (aw_r29 _ (List.mem_of_getElem? (i := 8) rfl)) (aw_r29 _ (List.mem_of_getElem? (i := 9) rfl)) (aw_r1 _ (List.mem_of_getElem? (i := 5) rfl)) (aw_r29 _ (List.mem_of_getElem? (i := 10) rfl))) rfl rfl rfl hds_X6_node ⟨(Nat.le_of_ble_eq_true rfl), (Nat.le_of_ble_eq_true rfl)⟩) rfl hl.1 rfl (Nat.le_of_ble_eq_true rfl) dX6_lays_127 ⟨Nat.zero_le _, Nat.zero_le _⟩ (fun r64 σ63 H locs hw hk => ?_)
    refine lv_aload_n hx hb dX6_lays_130 rfl (lv_at hl 0 rfl) ?_
    refine lv_iload_n hx hb dX6_lays_131 rfl (lv_at hl 2 rfl) ?_
    refine lv_iconst (v := (3 : Int32)) hx hb dX6_lays_132 (by decide) ?_
    refine k_callVi (rest := [.int r64, .int r62, .ref (G.1 30)]) X hk (c_X6_ofPlace l G _ _ _ _ hw) (cwV 2 X.1.2.2.2.2 (gzV (aw_r21 _ (List.mem_of_getElem? (i := 4) rfl)) (aw_r21 _ (List.mem_of_getElem? (i := 5) rfl)) (aw_r21 _ (List.mem_of_getElem? (i := 6) rfl)) (aw_r1 _ (List.mem_of_getElem? (i := 5) rfl)) (aw_r21 _ (List.mem_of_getElem? (i := 7) rfl))) rfl rfl rfl hd_X6_ofPlace ⟨(Nat.le_of_ble_eq_true rfl), (Nat.le_of_ble_eq_true rfl)⟩) (wg_30 G _) rfl rfl hl.1 rfl (Nat.le_of_ble_eq_true rfl) dX6_lays_133 ⟨Nat.zero_le _, Nat.zero_le _⟩ (fun r66 σ65 H locs hw hk => ?_)
    refine k_callVv (rest := []) X hk (c_X6_joins l G _ _ _ _ _ hw) (cwV 3 X.1.2.2.2.2 (gzV (aw_r29 _ (List.mem_of_getElem? (i := 4) rfl)) (aw_r29 _ (List.mem_of_getElem? (i := 5) rfl)) (aw_r29 _ (List.mem_of_getElem? (i := 6) rfl)) (aw_r1 _ (List.mem_of_getElem? (i := 5) rfl)) (aw_r29 _ (List.mem_of_getElem? (i := 7) rfl))) rfl rfl rfl hd_X6_joins ⟨(Nat.le_of_ble_eq_true rfl), (Nat.le_of_ble_eq_true rfl)⟩) (wg_30 G _) rfl rfl hl.1 rfl (Nat.le_of_ble_eq_true rfl) dX6_lays_136 ⟨Nat.zero_le _, Nat.zero_le _⟩ (fun σ67 H locs hw hk => ?_)
    exact t_X6_lays_139 X Q _ _ hK29 hK68 _ _ _ _ _ _ _ hw hk hl
def wp_X6_lays_68 (Q : Sg → Prop) (K29 : Int32 → Int32 → Sg → Prop) : Nat → Int32 → Int32 → Int32 → Sg → Prop
  | 0, _, _, _, _ => False
  | n + 1, x1, x2, x3, σ => (x1 < x3 → (∀ x2_51 : Int32, x2_51 = (x2 + (1 : Int32)) → (K29 x1 x2_51 σ))) ∧ (¬ (x1 < x3) → (wp_X6_ofPlace σ x2 (2 : Int32) (fun r53 σ52 => (x3 < r53 → (wp_X6_lays_97 Q K29 (fun z1 z2 z3 σ => wp_X6_lays_68 Q K29 n z1 z2 z3 σ) x1 x2 x3 σ52)) ∧ (¬ (x3 < r53) → (wp_X6_node σ52 x2 x3 (fun r70 σ69 => wp_X6_joins σ69 ((2 : Int32) + x2) r70 (1000000 : Int32) (fun σ71 => wp_X6_lays_97 Q K29 (fun z1 z2 z3 σ => wp_X6_lays_68 Q K29 n z1 z2 z3 σ) x1 x2 x3 σ71)))))))
set_option maxHeartbeats 4000000 in
set_option maxRecDepth 100000 in
theorem t_X6_lays_68 {p : Program} {l : Launch} {e : Env} {s : State} {m : MethodId} {args : Array Value} {below : List Frame} {meth : Method} {c : Code} {G : Gw} (X : KC p m meth c cX6_lays 4 s args wz_X6_lays RX6 none G) (Q : Sg → Prop) (K29 : Int32 → Int32 → Sg → Prop) (hK29 : ∀ (σ : Sg) (x1 x2 : Int32) (H : Heap) (locs : List Loc) (ls : Array Slot), K29 x1 x2 σ → WK G s H locs σ → lv_has ls 4 [(0, .ref (G.1 30)), (1, .int x1), (2, .int x2)] → W p l e rm_X6_lays s m args below meth c H locs 0 0 (ZV below args s G Q) (F0 m 29 ls [])) : ∀ (n : Nat) (σ : Sg) (x1 x2 x3 : Int32) (H : Heap) (locs : List Loc) (ls : Array Slot), wp_X6_lays_68 Q K29 n x1 x2 x3 σ → WK G s H locs σ → lv_has ls 4 [(0, .ref (G.1 30)), (1, .int x1), (2, .int x2), (3, .int x3)] → W p l e rm_X6_lays s m args below meth c H locs 0 0 (ZV below args s G Q) (F0 m 68 ls []) := by
  have hx := X.1.1
  have hb := X.1.2.1
  intro n
  induction n with
  | zero =>
    intro σ x1 x2 x3 H locs ls hw hk hl
    exact False.elim hw
  | succ n ih =>
    intro σ x1 x2 x3 H locs ls hw hk hl
    rw [wp_X6_lays_68] at hw
    refine lv_iload_n hx hb dX6_lays_68 rfl (lv_at hl 3 rfl) ?_
    refine lv_iload_n hx hb dX6_lays_69 rfl (lv_at hl 1 rfl) ?_
    refine lv_icmp_gt (tgt := 145) hx hb dX6_lays_70 (by decide) (fun c50 => ?_) (fun c50 => ?_)
    · replace hw := hw.1 c50
      obtain ⟨x2_51, ex2_51⟩ : ∃ y : Int32, y = (x2 + (1 : Int32)) := ⟨_, rfl⟩
      replace hw := hw x2_51 ex2_51
      refine lv_iinc (v := x2_51) (lv' := [(2, .int x2_51), (0, .ref (G.1 30)), (1, .int x1), (3, .int x3)]) hx hb dX6_lays_145 hl (k := 2) rfl (by rw [ex2_51]; rfl) (Nat.le_of_ble_eq_true rfl) rfl (fun ls hl => ?_)
      refine lv_goto (tgt := 29) hx hb dX6_lays_148 (by decide) ?_
      exact hK29 _ _ _ _ _ _ hw hk (lv_sub hl [1, 2, 0] rfl)
    · replace hw := hw.2 c50
      refine lv_iload_n hx hb dX6_lays_73 rfl (lv_at hl 3 rfl) ?_
      refine lv_aload_n hx hb dX6_lays_74 rfl (lv_at hl 0 rfl) ?_
      refine lv_iload_n hx hb dX6_lays_75 rfl (lv_at hl 2 rfl) ?_
      refine lv_iconst (v := (2 : Int32)) hx hb dX6_lays_76 (by decide) ?_
      refine k_callVi (rest := [.int x3]) X hk (c_X6_ofPlace l G _ _ _ _ hw) (cwV 2 X.1.2.2.2.2 (gzV (aw_r21 _ (List.mem_of_getElem? (i := 4) rfl)) (aw_r21 _ (List.mem_of_getElem? (i := 5) rfl)) (aw_r21 _ (List.mem_of_getElem? (i := 6) rfl)) (aw_r1 _ (List.mem_of_getElem? (i := 5) rfl)) (aw_r21 _ (List.mem_of_getElem? (i := 7) rfl))) rfl rfl rfl hd_X6_ofPlace ⟨(Nat.le_of_ble_eq_true rfl), (Nat.le_of_ble_eq_true rfl)⟩) (wg_30 G _) rfl rfl hl.1 rfl (Nat.le_of_ble_eq_true rfl) dX6_lays_77 ⟨Nat.zero_le _, Nat.zero_le _⟩ (fun r53 σ52 H locs hw hk => ?_)
      refine lv_icmp_lt (tgt := 97) hx hb dX6_lays_80 (by decide) (fun c54 => ?_) (fun c54 => ?_)
      · replace hw := hw.1 c54
        exact t_X6_lays_97 X Q _ _ hK29 ih _ _ _ _ _ _ _ hw hk hl
      · replace hw := hw.2 c54
        refine lv_aload_n hx hb dX6_lays_83 rfl (lv_at hl 0 rfl) ?_
        refine lv_iconst (v := (2 : Int32)) hx hb dX6_lays_84 (by decide) ?_
        refine lv_iload_n hx hb dX6_lays_85 rfl (lv_at hl 2 rfl) ?_
        refine lv_iadd hx hb dX6_lays_86 ?_
        refine lv_iload_n hx hb dX6_lays_87 rfl (lv_at hl 2 rfl) ?_
        refine lv_iload_n hx hb dX6_lays_88 rfl (lv_at hl 3 rfl) ?_
        refine k_callSi (rest := [.int ((2 : Int32) + x2), .ref (G.1 30)]) X hk (c_X6_node l G _ _ _ _ hw) (va_cwS 2 X.1.2.2.2.2 (gzS (aw_r29 _ (List.mem_of_getElem? (i := 8) rfl)) (aw_r29 _ (List.mem_of_getElem? (i := 9) rfl)) (aw_r1 _ (List.mem_of_getElem? (i := 5) rfl)) (aw_r29 _ (List.mem_of_getElem? (i := 10) rfl))) rfl rfl rfl hds_X6_node ⟨(Nat.le_of_ble_eq_true rfl), (Nat.le_of_ble_eq_true rfl)⟩) rfl hl.1 rfl (Nat.le_of_ble_eq_true rfl) dX6_lays_89 ⟨Nat.zero_le _, Nat.zero_le _⟩ (fun r70 σ69 H locs hw hk => ?_)
        refine lv_ldc (v := (1000000 : Int32)) hx hb X.1.2.2.2.1 (X.1.2.2.2.2 _ (List.mem_cons_of_mem _ (aw_r29 _ (List.mem_of_getElem? (i := 3) rfl)))) dX6_lays_92 ?_
        refine k_callVv (rest := []) X hk (c_X6_joins l G _ _ _ _ _ hw) (cwV 3 X.1.2.2.2.2 (gzV (aw_r29 _ (List.mem_of_getElem? (i := 4) rfl)) (aw_r29 _ (List.mem_of_getElem? (i := 5) rfl)) (aw_r29 _ (List.mem_of_getElem? (i := 6) rfl)) (aw_r1 _ (List.mem_of_getElem? (i := 5) rfl)) (aw_r29 _ (List.mem_of_getElem? (i := 7) rfl))) rfl rfl rfl hd_X6_joins ⟨(Nat.le_of_ble_eq_true rfl), (Nat.le_of_ble_eq_true rfl)⟩) (wg_30 G _) rfl rfl hl.1 rfl (Nat.le_of_ble_eq_true rfl) dX6_lays_94 ⟨Nat.zero_le _, Nat.zero_le _⟩ (fun σ71 H locs hw hk => ?_)
        exact t_X6_lays_97 X Q _ _ hK29 ih _ _ _ _ _ _ _ hw hk hl
def wp_X6_lays_29 (Q : Sg → Prop)  : Nat → Int32 → Int32 → Sg → Prop
  | 0, _, _, _ => False
  | n + 1, x1, x2, σ => wp_X6_places σ  (fun r4 σ3 => (r4 ≤ x2 → (∃ n0, wp_X6_lays_153 Q  n0 x1 (0 : Int32) σ3)) ∧ (¬ (r4 ≤ x2) → (wp_X6_ofPlace σ3 x2 (0 : Int32) (fun r43 σ42 => wp_X6_joins σ42 (0 : Int32) ((2 : Int32) + x2) r43 (fun σ44 => wp_X6_ofPlace σ44 x2 (1 : Int32) (fun r47 σ46 => wp_X6_joins σ46 ((10 : Int32) + x2) (1 : Int32) r47 (fun σ48 => ∃ n0, wp_X6_lays_68 Q (fun z1 z2 σ => wp_X6_lays_29 Q  n z1 z2 σ) n0 x1 x2 (0 : Int32) σ48)))))))
set_option maxHeartbeats 4000000 in
set_option maxRecDepth 100000 in
theorem t_X6_lays_29 {p : Program} {l : Launch} {e : Env} {s : State} {m : MethodId} {args : Array Value} {below : List Frame} {meth : Method} {c : Code} {G : Gw} (X : KC p m meth c cX6_lays 4 s args wz_X6_lays RX6 none G) (Q : Sg → Prop)  : ∀ (n : Nat) (σ : Sg) (x1 x2 : Int32) (H : Heap) (locs : List Loc) (ls : Array Slot), wp_X6_lays_29 Q  n x1 x2 σ → WK G s H locs σ → lv_has ls 4 [(0, .ref (G.1 30)), (1, .int x1), (2, .int x2)] → W p l e rm_X6_lays s m args below meth c H locs 0 0 (ZV below args s G Q) (F0 m 29 ls []) := by
  have hx := X.1.1
  have hb := X.1.2.1
  intro n
  induction n with
  | zero =>
    intro σ x1 x2 H locs ls hw hk hl
    exact False.elim hw
  | succ n ih =>
    intro σ x1 x2 H locs ls hw hk hl
    rw [wp_X6_lays_29] at hw
    refine lv_iload_n hx hb dX6_lays_29 rfl (lv_at hl 2 rfl) ?_
    refine lv_aload_n hx hb dX6_lays_30 rfl (lv_at hl 0 rfl) ?_
    refine k_callVi (rest := [.int x2]) X hk (c_X6_places l G _  _ hw) (cwV 0 X.1.2.2.2.2 (gzV (aw_r15 _ (List.mem_of_getElem? (i := 14) rfl)) (aw_r15 _ (List.mem_of_getElem? (i := 15) rfl)) (aw_r15 _ (List.mem_of_getElem? (i := 16) rfl)) (aw_r1 _ (List.mem_of_getElem? (i := 5) rfl)) (aw_r15 _ (List.mem_of_getElem? (i := 17) rfl))) rfl rfl rfl hd_X6_places ⟨(Nat.le_of_ble_eq_true rfl), (Nat.le_of_ble_eq_true rfl)⟩) (wg_30 G _) rfl rfl hl.1 rfl (Nat.le_of_ble_eq_true rfl) dX6_lays_31 ⟨Nat.zero_le _, Nat.zero_le _⟩ (fun r4 σ3 H locs hw hk => ?_)
    refine lv_icmp_ge (tgt := 151) hx hb dX6_lays_34 (by decide) (fun c5 => ?_) (fun c5 => ?_)
    · replace hw := hw.1 c5
      refine lv_iconst (v := (0 : Int32)) hx hb dX6_lays_151 (by decide) ?_
      refine lv_istore_n (lv' := [(2, .int (0 : Int32)), (0, .ref (G.1 30)), (1, .int x1)]) hx hb dX6_lays_152 rfl hl (Nat.le_of_ble_eq_true rfl) rfl (fun ls hl => ?_)
      obtain ⟨n0, hw⟩ := hw
      exact t_X6_lays_153 X Q   n0 _ _ _ _ _ _ hw hk (lv_sub hl [1, 2, 0] rfl)
    · replace hw := hw.2 c5
      refine lv_aload_n hx hb dX6_lays_37 rfl (lv_at hl 0 rfl) ?_
      refine lv_iconst (v := (0 : Int32)) hx hb dX6_lays_38 (by decide) ?_
      refine lv_iconst (v := (2 : Int32)) hx hb dX6_lays_39 (by decide) ?_
      refine lv_iload_n hx hb dX6_lays_40 rfl (lv_at hl 2 rfl) ?_
      refine lv_iadd hx hb dX6_lays_41 ?_
      refine lv_aload_n hx hb dX6_lays_42 rfl (lv_at hl 0 rfl) ?_
      refine lv_iload_n hx hb dX6_lays_43 rfl (lv_at hl 2 rfl) ?_
      refine lv_iconst (v := (0 : Int32)) hx hb dX6_lays_44 (by decide) ?_
      refine k_callVi (rest := [.int ((2 : Int32) + x2), .int (0 : Int32), .ref (G.1 30)]) X hk (c_X6_ofPlace l G _ _ _ _ hw) (cwV 2 X.1.2.2.2.2 (gzV (aw_r21 _ (List.mem_of_getElem? (i := 4) rfl)) (aw_r21 _ (List.mem_of_getElem? (i := 5) rfl)) (aw_r21 _ (List.mem_of_getElem? (i := 6) rfl)) (aw_r1 _ (List.mem_of_getElem? (i := 5) rfl)) (aw_r21 _ (List.mem_of_getElem? (i := 7) rfl))) rfl rfl rfl hd_X6_ofPlace ⟨(Nat.le_of_ble_eq_true rfl), (Nat.le_of_ble_eq_true rfl)⟩) (wg_30 G _) rfl rfl hl.1 rfl (Nat.le_of_ble_eq_true rfl) dX6_lays_45 ⟨Nat.zero_le _, Nat.zero_le _⟩ (fun r43 σ42 H locs hw hk => ?_)
      refine k_callVv (rest := []) X hk (c_X6_joins l G _ _ _ _ _ hw) (cwV 3 X.1.2.2.2.2 (gzV (aw_r29 _ (List.mem_of_getElem? (i := 4) rfl)) (aw_r29 _ (List.mem_of_getElem? (i := 5) rfl)) (aw_r29 _ (List.mem_of_getElem? (i := 6) rfl)) (aw_r1 _ (List.mem_of_getElem? (i := 5) rfl)) (aw_r29 _ (List.mem_of_getElem? (i := 7) rfl))) rfl rfl rfl hd_X6_joins ⟨(Nat.le_of_ble_eq_true rfl), (Nat.le_of_ble_eq_true rfl)⟩) (wg_30 G _) rfl rfl hl.1 rfl (Nat.le_of_ble_eq_true rfl) dX6_lays_48 ⟨Nat.zero_le _, Nat.zero_le _⟩ (fun σ44 H locs hw hk => ?_)
      refine lv_aload_n hx hb dX6_lays_51 rfl (lv_at hl 0 rfl) ?_
      refine lv_bipush (v := (10 : Int32)) hx hb dX6_lays_52 (by decide) ?_
      refine lv_iload_n hx hb dX6_lays_54 rfl (lv_at hl 2 rfl) ?_
      refine lv_iadd hx hb dX6_lays_55 ?_
      refine lv_iconst (v := (1 : Int32)) hx hb dX6_lays_56 (by decide) ?_
      refine lv_aload_n hx hb dX6_lays_57 rfl (lv_at hl 0 rfl) ?_
      refine lv_iload_n hx hb dX6_lays_58 rfl (lv_at hl 2 rfl) ?_
      refine lv_iconst (v := (1 : Int32)) hx hb dX6_lays_59 (by decide) ?_
      refine k_callVi (rest := [.int (1 : Int32), .int ((10 : Int32) + x2), .ref (G.1 30)]) X hk (c_X6_ofPlace l G _ _ _ _ hw) (cwV 2 X.1.2.2.2.2 (gzV (aw_r21 _ (List.mem_of_getElem? (i := 4) rfl)) (aw_r21 _ (List.mem_of_getElem? (i := 5) rfl)) (aw_r21 _ (List.mem_of_getElem? (i := 6) rfl)) (aw_r1 _ (List.mem_of_getElem? (i := 5) rfl)) (aw_r21 _ (List.mem_of_getElem? (i := 7) rfl))) rfl rfl rfl hd_X6_ofPlace ⟨(Nat.le_of_ble_eq_true rfl), (Nat.le_of_ble_eq_true rfl)⟩) (wg_30 G _) rfl rfl hl.1 rfl (Nat.le_of_ble_eq_true rfl) dX6_lays_60 ⟨Nat.zero_le _, Nat.zero_le _⟩ (fun r47 σ46 H locs hw hk => ?_)
      refine k_callVv (rest := []) X hk (c_X6_joins l G _ _ _ _ _ hw) (cwV 3 X.1.2.2.2.2 (gzV (aw_r29 _ (List.mem_of_getElem? (i := 4) rfl)) (aw_r29 _ (List.mem_of_getElem? (i := 5) rfl)) (aw_r29 _ (List.mem_of_getElem? (i := 6) rfl)) (aw_r1 _ (List.mem_of_getElem? (i := 5) rfl)) (aw_r29 _ (List.mem_of_getElem? (i := 7) rfl))) rfl rfl rfl hd_X6_joins ⟨(Nat.le_of_ble_eq_true rfl), (Nat.le_of_ble_eq_true rfl)⟩) (wg_30 G _) rfl rfl hl.1 rfl (Nat.le_of_ble_eq_true rfl) dX6_lays_63 ⟨Nat.zero_le _, Nat.zero_le _⟩ (fun σ48 H locs hw hk => ?_)
      refine lv_iconst (v := (0 : Int32)) hx hb dX6_lays_66 (by decide) ?_
      refine lv_istore_n (lv' := [(3, .int (0 : Int32)), (0, .ref (G.1 30)), (1, .int x1), (2, .int x2)]) hx hb dX6_lays_67 rfl hl (Nat.le_of_ble_eq_true rfl) rfl (fun ls hl => ?_)
      obtain ⟨n0, hw⟩ := hw
      exact t_X6_lays_68 X Q _ ih n0 _ _ _ _ _ _ _ hw hk (lv_sub hl [1, 2, 3, 0] rfl)
def wp_X6_lays_7 (Q : Sg → Prop)  : Nat → Int32 → Int32 → Sg → Prop
  | 0, _, _, _ => False
  | n + 1, x1, x2, σ => ((346 : Int32) ≤ x2 → (∃ n0, wp_X6_lays_29 Q  n0 x1 (0 : Int32) σ)) ∧ (¬ ((346 : Int32) ≤ x2) → (vp_in x2 346 ∧ (∀ σ73 : Sg, σ73 = (put σ 34 (x2).toNatClampNeg (-1 : Int32)) → (∀ x2_74 : Int32, x2_74 = (x2 + (1 : Int32)) → (wp_X6_lays_7 Q  n x1 x2_74 σ73)))))
set_option maxHeartbeats 4000000 in
set_option maxRecDepth 100000 in
theorem t_X6_lays_7 {p : Program} {l : Launch} {e : Env} {s : State} {m : MethodId} {args : Array Value} {below : List Frame} {meth : Method} {c : Code} {G : Gw} (X : KC p m meth c cX6_lays 4 s args wz_X6_lays RX6 none G) (Q : Sg → Prop)  : ∀ (n : Nat) (σ : Sg) (x1 x2 : Int32) (H : Heap) (locs : List Loc) (ls : Array Slot), wp_X6_lays_7 Q  n x1 x2 σ → WK G s H locs σ → lv_has ls 4 [(0, .ref (G.1 30)), (1, .int x1), (2, .int x2)] → W p l e rm_X6_lays s m args below meth c H locs 0 0 (ZV below args s G Q) (F0 m 7 ls []) := by
  have hx := X.1.1
  have hb := X.1.2.1
  intro n
  induction n with
  | zero =>
    intro σ x1 x2 H locs ls hw hk hl
    exact False.elim hw
  | succ n ih =>
    intro σ x1 x2 H locs ls hw hk hl
    rw [wp_X6_lays_7] at hw
    refine lv_iload_n hx hb dX6_lays_7 rfl (lv_at hl 2 rfl) ?_
    refine lv_sipush (v := (346 : Int32)) hx hb dX6_lays_8 (by decide) ?_
    refine lv_icmp_ge (tgt := 27) hx hb dX6_lays_11 (by decide) (fun c2 => ?_) (fun c2 => ?_)
    · replace hw := hw.1 c2
      refine lv_iconst (v := (0 : Int32)) hx hb dX6_lays_27 (by decide) ?_
      refine lv_istore_n (lv' := [(2, .int (0 : Int32)), (0, .ref (G.1 30)), (1, .int x1)]) hx hb dX6_lays_28 rfl hl (Nat.le_of_ble_eq_true rfl) rfl (fun ls hl => ?_)
      obtain ⟨n0, hw⟩ := hw
      exact t_X6_lays_29 X Q   n0 _ _ _ _ _ _ hw hk (lv_sub hl [1, 2, 0] rfl)
    · replace hw := hw.2 c2
      refine lv_aload_n hx hb dX6_lays_14 rfl (lv_at hl 0 rfl) ?_
      refine k_get 9 X hk (wg_30 G _) rfl (hz_wsX60 _) (Nat.le_of_ble_eq_true rfl) (List.mem_cons_of_mem _ (aw_r4 _ (List.mem_of_getElem? (i := 19) rfl))) rfl dX6_lays_15 ?_
      refine lv_iload_n hx hb dX6_lays_18 rfl (lv_at hl 2 rfl) ?_
      refine lv_iconst (v := (-1 : Int32)) hx hb dX6_lays_19 (by decide) ?_
      refine k_iast X hk (wg_34 G _) (ws_34 G _) rfl hw.1 dX6_lays_20 (fun H locs hk => ?_)
      replace hw := hw.2
      obtain ⟨σ73, eσ73⟩ : ∃ y : Sg, y = (put σ 34 (x2).toNatClampNeg (-1 : Int32)) := ⟨_, rfl⟩
      rw [← eσ73] at hk
      replace hw := hw σ73 eσ73
      obtain ⟨x2_74, ex2_74⟩ : ∃ y : Int32, y = (x2 + (1 : Int32)) := ⟨_, rfl⟩
      replace hw := hw x2_74 ex2_74
      refine lv_iinc (v := x2_74) (lv' := [(2, .int x2_74), (0, .ref (G.1 30)), (1, .int x1)]) hx hb dX6_lays_21 hl (k := 2) rfl (by rw [ex2_74]; rfl) (Nat.le_of_ble_eq_true rfl) rfl (fun ls hl => ?_)
      refine lv_goto (tgt := 7) hx hb dX6_lays_24 (by decide) ?_
      exact ih _ _ _ _ _ _ hw hk (lv_sub hl [1, 2, 0] rfl)
def wp_X6_lays (σ : Sg) (p1 : Int32) (Q : Sg → Prop) : Prop := ∀ σ1 : Sg, σ1 = (put σ 30 16 (0 : Int32)) → (∃ n0, wp_X6_lays_7 Q  n0 p1 (0 : Int32) σ1)
set_option maxHeartbeats 4000000 in
set_option maxRecDepth 100000 in
theorem c_X6_lays (l : Launch) (G : Gw) (σ : Sg) (p1 : Int32) (Q : Sg → Prop) (hw : wp_X6_lays σ p1 Q) : MetV l yX6_lays wz_X6_lays rm_X6_lays G σ [.ref (G.1 30), .int p1] Q := by
  refine MetV.of cX6_lays 4 none (by decide) rfl (Nat.le_of_ble_eq_true rfl) ?_
  intro p e s m below meth c X hk ls hl
  have X : KC p m meth c cX6_lays 4 s _ wz_X6_lays RX6 none G := X
  have hl : lv_has ls 4 [(0, .ref (G.1 30)), (1, .int p1)] := hl
  unfold wp_X6_lays at hw
  have hx := X.1.1
  have hb := X.1.2.1
  refine lv_aload_n hx hb dX6_lays_0 rfl (lv_at hl 0 rfl) ?_
  refine lv_iconst (v := (0 : Int32)) hx hb dX6_lays_1 (by decide) ?_
  refine k_put 16 X hk (wg_30 G _) rfl (hz_wsX60 _) tyX6_ok nmX6 (Nat.le_of_ble_eq_true rfl) (List.mem_cons_of_mem _ (aw_r29 _ (List.mem_of_getElem? (i := 2) rfl))) rfl rfl (Nat.le_of_ble_eq_true rfl) (ws_30_16 G _ _) dX6_lays_2 (fun H locs hk => ?_)
  obtain ⟨σ1, eσ1⟩ : ∃ y : Sg, y = (put σ 30 16 (0 : Int32)) := ⟨_, rfl⟩
  rw [← eσ1] at hk
  replace hw := hw σ1 eσ1
  refine lv_iconst (v := (0 : Int32)) hx hb dX6_lays_5 (by decide) ?_
  refine lv_istore_n (lv' := [(2, .int (0 : Int32)), (0, .ref (G.1 30)), (1, .int p1)]) hx hb dX6_lays_6 rfl hl (Nat.le_of_ble_eq_true rfl) rfl (fun ls hl => ?_)
  obtain ⟨n0, hw⟩ := hw
  exact t_X6_lays_7 X Q   n0 _ _ _ _ _ _ hw hk (lv_sub hl [1, 2, 0] rfl)
def rm_X6_finds : Room := { frames := 0, cells := 0, slots := 0, locals := 0 }
abbrev wz_X6_finds : List Cond := Cond.code yX6_finds cX6_finds 4 (some .boolean) :: wsA
theorem hd_X6_finds : yX6_finds.cls = RX6 ∧ yX6_finds.cls ≠ "java/lang/invoke/MethodHandle" ∧ yX6_finds.cls ≠ "java/lang/invoke/VarHandle" ∧ (parseMethodDescriptor yX6_finds.desc).map (fun d => d.parameters.length) = some 0 := by decide +kernel
def wp_X6_finds_152 (Q : Int32 → Sg → Prop)  (σ : Sg) : Prop := vp_in (1 : Int32) 346 ∧ (bz (σ 40 ((1 : Int32)).toNatClampNeg) ∧ Q (σ 40 ((1 : Int32)).toNatClampNeg) σ)
set_option maxHeartbeats 4000000 in
set_option maxRecDepth 100000 in
theorem t_X6_finds_152 {p : Program} {l : Launch} {e : Env} {s : State} {m : MethodId} {args : Array Value} {below : List Frame} {meth : Method} {c : Code} {G : Gw} (X : KC p m meth c cX6_finds 4 s args wz_X6_finds RX6 (some .boolean) G) (Q : Int32 → Sg → Prop)  : ∀ (σ : Sg) (H : Heap) (locs : List Loc) (ls : Array Slot), wp_X6_finds_152 Q   σ → WK G s H locs σ → lv_has ls 4 [(0, .ref (G.1 30))] → W p l e rm_X6_finds s m args below meth c H locs 0 0 (ZI below args s G Q) (F0 m 152 ls []) := by
  have hx := X.1.1
  have hb := X.1.2.1
  intro σ H locs ls hw hk hl
  unfold wp_X6_finds_152 at hw
  refine lv_aload_n hx hb dX6_finds_152 rfl (lv_at hl 0 rfl) ?_
  refine k_get 15 X hk (wg_30 G _) rfl (hz_wsX60 _) (Nat.le_of_ble_eq_true rfl) (List.mem_cons_of_mem _ (aw_r5 _ (List.mem_of_getElem? (i := 2) rfl))) rfl dX6_finds_153 ?_
  refine lv_iconst (v := (1 : Int32)) hx hb dX6_finds_156 (by decide) ?_
  refine k_zald X hk (wg_40 G _) hw.1 dX6_finds_157 ?_
  replace hw := hw.2
  exact k_zret X hk hw dX6_finds_158
def wp_X6_finds_136 (Q : Int32 → Sg → Prop) (K40 : Int32 → Int32 → Sg → Prop) (K66 : Int32 → Int32 → Int32 → Sg → Prop) (x1 x2 x3 : Int32) (σ : Sg) : Prop := vp_in x3 4000 ∧ (∀ x3_10 : Int32, x3_10 = (σ 35 (x3).toNatClampNeg) → (K66 x1 x2 x3_10 σ))
set_option maxHeartbeats 4000000 in
set_option maxRecDepth 100000 in
theorem t_X6_finds_136 {p : Program} {l : Launch} {e : Env} {s : State} {m : MethodId} {args : Array Value} {below : List Frame} {meth : Method} {c : Code} {G : Gw} (X : KC p m meth c cX6_finds 4 s args wz_X6_finds RX6 (some .boolean) G) (Q : Int32 → Sg → Prop) (K40 : Int32 → Int32 → Sg → Prop) (K66 : Int32 → Int32 → Int32 → Sg → Prop) (hK40 : ∀ (σ : Sg) (x1 x2 : Int32) (H : Heap) (locs : List Loc) (ls : Array Slot), K40 x1 x2 σ → WK G s H locs σ → lv_has ls 4 [(0, .ref (G.1 30)), (1, .int x1), (2, .int x2)] → W p l e rm_X6_finds s m args below meth c H locs 0 0 (ZI below args s G Q) (F0 m 40 ls [])) (hK66 : ∀ (σ : Sg) (x1 x2 x3 : Int32) (H : Heap) (locs : List Loc) (ls : Array Slot), K66 x1 x2 x3 σ → WK G s H locs σ → lv_has ls 4 [(0, .ref (G.1 30)), (1, .int x1), (2, .int x2), (3, .int x3)] → W p l e rm_X6_finds s m args below meth c H locs 0 0 (ZI below args s G Q) (F0 m 66 ls [])) : ∀ (σ : Sg) (x1 x2 x3 : Int32) (H : Heap) (locs : List Loc) (ls : Array Slot), wp_X6_finds_136 Q K40 K66 x1 x2 x3 σ → WK G s H locs σ → lv_has ls 4 [(0, .ref (G.1 30)), (1, .int x1), (2, .int x2), (3, .int x3)] → W p l e rm_X6_finds s m args below meth c H locs 0 0 (ZI below args s G Q) (F0 m 136 ls []) := by
  have hx := X.1.1
  have hb := X.1.2.1
  intro σ x1 x2 x3 H locs ls hw hk hl
  unfold wp_X6_finds_136 at hw
  refine lv_aload_n hx hb dX6_finds_136 rfl (lv_at hl 0 rfl) ?_
  refine k_get 10 X hk (wg_30 G _) rfl (hz_wsX60 _) (Nat.le_of_ble_eq_true rfl) (List.mem_cons_of_mem _ (aw_r4 _ (List.mem_of_getElem? (i := 20) rfl))) rfl dX6_finds_137 ?_
  refine lv_iload_n hx hb dX6_finds_140 rfl (lv_at hl 3 rfl) ?_
  refine k_iald X hk (wg_35 G _) hw.1 dX6_finds_141 ?_
  replace hw := hw.2
  refine lv_topi (fun x3_10 ex3_10 => ?_)
  replace hw := hw x3_10 ex3_10
  refine lv_istore_n (lv' := [(3, .int x3_10), (0, .ref (G.1 30)), (1, .int x1), (2, .int x2)]) hx hb dX6_finds_142 rfl hl (Nat.le_of_ble_eq_true rfl) rfl (fun ls hl => ?_)
  refine lv_goto (tgt := 66) hx hb dX6_finds_143 (by decide) ?_
  exact hK66 _ _ _ _ _ _ _ hw hk (lv_sub hl [1, 2, 3, 0] rfl)
def wp_X6_finds_66 (Q : Int32 → Sg → Prop) (K40 : Int32 → Int32 → Sg → Prop) : Nat → Int32 → Int32 → Int32 → Sg → Prop
  | 0, _, _, _, _ => False
  | n + 1, x1, x2, x3, σ => (x3 = (-1 : Int32) → (∀ x2_8 : Int32, x2_8 = (x2 + (1 : Int32)) → (K40 x1 x2_8 σ))) ∧ (¬ (x3 = (-1 : Int32)) → (vp_in x3 4000 ∧ (((σ 37 (x3).toNatClampNeg) = 0 → (wp_X6_finds_136 Q K40 (fun z1 z2 z3 σ => wp_X6_finds_66 Q K40 n z1 z2 z3 σ) x1 x2 x3 σ)) ∧ (¬ ((σ 37 (x3).toNatClampNeg) = 0) → (vp_in x3 4000 ∧ (vp_in (σ 36 (x3).toNatClampNeg) 346 ∧ (((σ 40 ((σ 36 (x3).toNatClampNeg)).toNatClampNeg) = 0 → (vp_in x3 4000 ∧ (vp_in (σ 36 (x3).toNatClampNeg) 346 ∧ (∀ σ12 : Sg, σ12 = (put σ 40 ((σ 36 (x3).toNatClampNeg)).toNatClampNeg (vp_nar .boolean (1 : Int32))) → (vp_in x3 4000 ∧ (vp_in (σ12 36 (x3).toNatClampNeg) 346 ∧ (∀ σ13 : Sg, σ13 = (put σ12 38 ((σ12 36 (x3).toNatClampNeg)).toNatClampNeg x3) → (vp_in x3 4000 ∧ (vp_in x1 346 ∧ (∀ σ14 : Sg, σ14 = (put σ13 39 (x1).toNatClampNeg (σ13 36 (x3).toNatClampNeg)) → (∀ x1_15 : Int32, x1_15 = (x1 + (1 : Int32)) → (wp_X6_finds_136 Q K40 (fun z1 z2 z3 σ => wp_X6_finds_66 Q K40 n z1 z2 z3 σ) x1_15 x2 x3 σ14)))))))))))) ∧ (¬ ((σ 40 ((σ 36 (x3).toNatClampNeg)).toNatClampNeg) = 0) → (wp_X6_finds_136 Q K40 (fun z1 z2 z3 σ => wp_X6_finds_66 Q K40 n z1 z2 z3 σ) x1 x2 x3 σ)))))))))
set_option maxHeartbeats 4000000 in
set_option maxRecDepth 100000 in
theorem t_X6_finds_66 {p : Program} {l : Launch} {e : Env} {s : State} {m : MethodId} {args : Array Value} {below : List Frame} {meth : Method} {c : Code} {G : Gw} (X : KC p m meth c cX6_finds 4 s args wz_X6_finds RX6 (some .boolean) G) (Q : Int32 → Sg → Prop) (K40 : Int32 → Int32 → Sg → Prop) (hK40 : ∀ (σ : Sg) (x1 x2 : Int32) (H : Heap) (locs : List Loc) (ls : Array Slot), K40 x1 x2 σ → WK G s H locs σ → lv_has ls 4 [(0, .ref (G.1 30)), (1, .int x1), (2, .int x2)] → W p l e rm_X6_finds s m args below meth c H locs 0 0 (ZI below args s G Q) (F0 m 40 ls [])) : ∀ (n : Nat) (σ : Sg) (x1 x2 x3 : Int32) (H : Heap) (locs : List Loc) (ls : Array Slot), wp_X6_finds_66 Q K40 n x1 x2 x3 σ → WK G s H locs σ → lv_has ls 4 [(0, .ref (G.1 30)), (1, .int x1), (2, .int x2), (3, .int x3)] → W p l e rm_X6_finds s m args below meth c H locs 0 0 (ZI below args s G Q) (F0 m 66 ls []) := by
  have hx := X.1.1
  have hb := X.1.2.1
  intro n
  induction n with
  | zero =>
    intro σ x1 x2 x3 H locs ls hw hk hl
    exact False.elim hw
  | succ n ih =>
    intro σ x1 x2 x3 H locs ls hw hk hl
    rw [wp_X6_finds_66] at hw
    refine lv_iload_n hx hb dX6_finds_66 rfl (lv_at hl 3 rfl) ?_
    refine lv_iconst (v := (-1 : Int32)) hx hb dX6_finds_67 (by decide) ?_
    refine lv_icmp_eq (tgt := 146) hx hb dX6_finds_68 (by decide) (fun c7 => ?_) (fun c7 => ?_)
    · replace hw := hw.1 c7
      obtain ⟨x2_8, ex2_8⟩ : ∃ y : Int32, y = (x2 + (1 : Int32)) := ⟨_, rfl⟩
      replace hw := hw x2_8 ex2_8
      refine lv_iinc (v := x2_8) (lv' := [(2, .int x2_8), (0, .ref (G.1 30)), (1, .int x1), (3, .int x3)]) hx hb dX6_finds_146 hl (k := 2) rfl (by rw [ex2_8]; rfl) (Nat.le_of_ble_eq_true rfl) rfl (fun ls hl => ?_)
      refine lv_goto (tgt := 40) hx hb dX6_finds_149 (by decide) ?_
      exact hK40 _ _ _ _ _ _ hw hk (lv_sub hl [1, 2, 0] rfl)
    · replace hw := hw.2 c7
      refine lv_aload_n hx hb dX6_finds_71 rfl (lv_at hl 0 rfl) ?_
      refine k_get 12 X hk (wg_30 G _) rfl (hz_wsX60 _) (Nat.le_of_ble_eq_true rfl) (List.mem_cons_of_mem _ (aw_r4 _ (List.mem_of_getElem? (i := 22) rfl))) rfl dX6_finds_72 ?_
      refine lv_iload_n hx hb dX6_finds_75 rfl (lv_at hl 3 rfl) ?_
      refine k_iald X hk (wg_37 G _) hw.1 dX6_finds_76 ?_
      replace hw := hw.2
      refine lv_if_eq (tgt := 136) hx hb dX6_finds_77 (by decide) (fun c9 => ?_) (fun c9 => ?_)
      · replace hw := hw.1 c9
        exact t_X6_finds_136 X Q _ _ hK40 ih _ _ _ _ _ _ _ hw hk hl
      · replace hw := hw.2 c9
        refine lv_aload_n hx hb dX6_finds_80 rfl (lv_at hl 0 rfl) ?_
        refine k_get 15 X hk (wg_30 G _) rfl (hz_wsX60 _) (Nat.le_of_ble_eq_true rfl) (List.mem_cons_of_mem _ (aw_r5 _ (List.mem_of_getElem? (i := 2) rfl))) rfl dX6_finds_81 ?_
        refine lv_aload_n hx hb dX6_finds_84 rfl (lv_at hl 0 rfl) ?_
        refine k_get 11 X hk (wg_30 G _) rfl (hz_wsX60 _) (Nat.le_of_ble_eq_true rfl) (List.mem_cons_of_mem _ (aw_r4 _ (List.mem_of_getElem? (i := 21) rfl))) rfl dX6_finds_85 ?_
        refine lv_iload_n hx hb dX6_finds_88 rfl (lv_at hl 3 rfl) ?_
        refine k_iald X hk (wg_36 G _) hw.1 dX6_finds_89 ?_
        replace hw := hw.2
        refine k_zald X hk (wg_40 G _) hw.1 dX6_finds_90 ?_
        replace hw := hw.2
        refine lv_if_eq (tgt := 97) hx hb dX6_finds_91 (by decide) (fun c11 => ?_) (fun c11 => ?_)
        · replace hw := hw.1 c11
          refine lv_aload_n hx hb dX6_finds_97 rfl (lv_at hl 0 rfl) ?_
          refine k_get 15 X hk (wg_30 G _) rfl (hz_wsX60 _) (Nat.le_of_ble_eq_true rfl) (List.mem_cons_of_mem _ (aw_r5 _ (List.mem_of_getElem? (i := 2) rfl))) rfl dX6_finds_98 ?_
          refine lv_aload_n hx hb dX6_finds_101 rfl (lv_at hl 0 rfl) ?_
          refine k_get 11 X hk (wg_30 G _) rfl (hz_wsX60 _) (Nat.le_of_ble_eq_true rfl) (List.mem_cons_of_mem _ (aw_r4 _ (List.mem_of_getElem? (i := 21) rfl))) rfl dX6_finds_102 ?_
          refine lv_iload_n hx hb dX6_finds_105 rfl (lv_at hl 3 rfl) ?_
          refine k_iald X hk (wg_36 G _) hw.1 dX6_finds_106 ?_
          replace hw := hw.2
          refine lv_iconst (v := (1 : Int32)) hx hb dX6_finds_107 (by decide) ?_
          refine k_zast X hk (wg_40 G _) (ws_40 G _) rfl hw.1 dX6_finds_108 (fun H locs hk => ?_)
          replace hw := hw.2
          obtain ⟨σ12, eσ12⟩ : ∃ y : Sg, y = (put σ 40 ((σ 36 (x3).toNatClampNeg)).toNatClampNeg (vp_nar .boolean (1 : Int32))) := ⟨_, rfl⟩
          rw [← eσ12] at hk
          replace hw := hw σ12 eσ12
          refine lv_aload_n hx hb dX6_finds_109 rfl (lv_at hl 0 rfl) ?_
          refine k_get 13 X hk (wg_30 G _) rfl (hz_wsX60 _) (Nat.le_of_ble_eq_true rfl) (List.mem_cons_of_mem _ (aw_r4 _ (List.mem_of_getElem? (i := 23) rfl))) rfl dX6_finds_110 ?_
          refine lv_aload_n hx hb dX6_finds_113 rfl (lv_at hl 0 rfl) ?_
          refine k_get 11 X hk (wg_30 G _) rfl (hz_wsX60 _) (Nat.le_of_ble_eq_true rfl) (List.mem_cons_of_mem _ (aw_r4 _ (List.mem_of_getElem? (i := 21) rfl))) rfl dX6_finds_114 ?_
          refine lv_iload_n hx hb dX6_finds_117 rfl (lv_at hl 3 rfl) ?_
          refine k_iald X hk (wg_36 G _) hw.1 dX6_finds_118 ?_
          replace hw := hw.2
          refine lv_iload_n hx hb dX6_finds_119 rfl (lv_at hl 3 rfl) ?_
          refine k_iast X hk (wg_38 G _) (ws_38 G _) rfl hw.1 dX6_finds_120 (fun H locs hk => ?_)
          replace hw := hw.2
          obtain ⟨σ13, eσ13⟩ : ∃ y : Sg, y = (put σ12 38 ((σ12 36 (x3).toNatClampNeg)).toNatClampNeg x3) := ⟨_, rfl⟩
          rw [← eσ13] at hk
          replace hw := hw σ13 eσ13
          refine lv_aload_n hx hb dX6_finds_121 rfl (lv_at hl 0 rfl) ?_
          refine k_get 14 X hk (wg_30 G _) rfl (hz_wsX60 _) (Nat.le_of_ble_eq_true rfl) (List.mem_cons_of_mem _ (aw_r5 _ (List.mem_of_getElem? (i := 0) rfl))) rfl dX6_finds_122 ?_
          refine lv_iload_n hx hb dX6_finds_125 rfl (lv_at hl 1 rfl) ?_
          refine lv_aload_n hx hb dX6_finds_126 rfl (lv_at hl 0 rfl) ?_
          refine k_get 11 X hk (wg_30 G _) rfl (hz_wsX60 _) (Nat.le_of_ble_eq_true rfl) (List.mem_cons_of_mem _ (aw_r4 _ (List.mem_of_getElem? (i := 21) rfl))) rfl dX6_finds_127 ?_
          refine lv_iload_n hx hb dX6_finds_130 rfl (lv_at hl 3 rfl) ?_
          refine k_iald X hk (wg_36 G _) hw.1 dX6_finds_131 ?_
          replace hw := hw.2
          refine k_iast X hk (wg_39 G _) (ws_39 G _) rfl hw.1 dX6_finds_132 (fun H locs hk => ?_)
          replace hw := hw.2
          obtain ⟨σ14, eσ14⟩ : ∃ y : Sg, y = (put σ13 39 (x1).toNatClampNeg (σ13 36 (x3).toNatClampNeg)) := ⟨_, rfl⟩
          rw [← eσ14] at hk
          replace hw := hw σ14 eσ14
          obtain ⟨x1_15, ex1_15⟩ : ∃ y : Int32, y = (x1 + (1 : Int32)) := ⟨_, rfl⟩
          replace hw := hw x1_15 ex1_15
          refine lv_iinc (v := x1_15) (lv' := [(1, .int x1_15), (0, .ref (G.1 30)), (2, .int x2), (3, .int x3)]) hx hb dX6_finds_133 hl (k := 1) rfl (by rw [ex1_15]; rfl) (Nat.le_of_ble_eq_true rfl) rfl (fun ls hl => ?_)
          exact t_X6_finds_136 X Q _ _ hK40 ih _ _ _ _ _ _ _ hw hk (lv_sub hl [1, 0, 2, 3] rfl)
        · replace hw := hw.2 c11
          refine lv_goto (tgt := 136) hx hb dX6_finds_94 (by decide) ?_
          exact t_X6_finds_136 X Q _ _ hK40 ih _ _ _ _ _ _ _ hw hk hl
def wp_X6_finds_40 (Q : Int32 → Sg → Prop)  : Nat → Int32 → Int32 → Sg → Prop
  | 0, _, _, _ => False
  | n + 1, x1, x2, σ => (x1 ≤ x2 → (wp_X6_finds_152 Q   σ)) ∧ (¬ (x1 ≤ x2) → (vp_in (1 : Int32) 346 ∧ (((σ 40 ((1 : Int32)).toNatClampNeg) = 0 → (vp_in x2 346 ∧ (vp_in (σ 39 (x2).toNatClampNeg) 346 ∧ (∀ x3_6 : Int32, x3_6 = (σ 34 ((σ 39 (x2).toNatClampNeg)).toNatClampNeg) → (∃ n0, wp_X6_finds_66 Q (fun z1 z2 σ => wp_X6_finds_40 Q  n z1 z2 σ) n0 x1 x2 x3_6 σ))))) ∧ (¬ ((σ 40 ((1 : Int32)).toNatClampNeg) = 0) → (wp_X6_finds_152 Q   σ)))))
set_option maxHeartbeats 4000000 in
set_option maxRecDepth 100000 in
theorem t_X6_finds_40 {p : Program} {l : Launch} {e : Env} {s : State} {m : MethodId} {args : Array Value} {below : List Frame} {meth : Method} {c : Code} {G : Gw} (X : KC p m meth c cX6_finds 4 s args wz_X6_finds RX6 (some .boolean) G) (Q : Int32 → Sg → Prop)  : ∀ (n : Nat) (σ : Sg) (x1 x2 : Int32) (H : Heap) (locs : List Loc) (ls : Array Slot), wp_X6_finds_40 Q  n x1 x2 σ → WK G s H locs σ → lv_has ls 4 [(0, .ref (G.1 30)), (1, .int x1), (2, .int x2)] → W p l e rm_X6_finds s m args below meth c H locs 0 0 (ZI below args s G Q) (F0 m 40 ls []) := by
  have hx := X.1.1
  have hb := X.1.2.1
  intro n
  induction n with
  | zero =>
    intro σ x1 x2 H locs ls hw hk hl
    exact False.elim hw
  | succ n ih =>
    intro σ x1 x2 H locs ls hw hk hl
    rw [wp_X6_finds_40] at hw
    refine lv_iload_n hx hb dX6_finds_40 rfl (lv_at hl 2 rfl) ?_
    refine lv_iload_n hx hb dX6_finds_41 rfl (lv_at hl 1 rfl) ?_
    refine lv_icmp_ge (tgt := 152) hx hb dX6_finds_42 (by decide) (fun c4 => ?_) (fun c4 => ?_)
    · replace hw := hw.1 c4
      exact t_X6_finds_152 X Q   _  _ _ _ hw hk (lv_sub hl [0] rfl)
    · replace hw := hw.2 c4
      refine lv_aload_n hx hb dX6_finds_45 rfl (lv_at hl 0 rfl) ?_
      refine k_get 15 X hk (wg_30 G _) rfl (hz_wsX60 _) (Nat.le_of_ble_eq_true rfl) (List.mem_cons_of_mem _ (aw_r5 _ (List.mem_of_getElem? (i := 2) rfl))) rfl dX6_finds_46 ?_
      refine lv_iconst (v := (1 : Int32)) hx hb dX6_finds_49 (by decide) ?_
      refine k_zald X hk (wg_40 G _) hw.1 dX6_finds_50 ?_
      replace hw := hw.2
      refine lv_if_ne (tgt := 152) hx hb dX6_finds_51 (by decide) (fun c5 => ?_) (fun c5 => ?_)
      · replace hw := hw.2 c5
        exact t_X6_finds_152 X Q   _  _ _ _ hw hk (lv_sub hl [0] rfl)
      · replace hw := hw.1 c5
        refine lv_aload_n hx hb dX6_finds_54 rfl (lv_at hl 0 rfl) ?_
        refine k_get 9 X hk (wg_30 G _) rfl (hz_wsX60 _) (Nat.le_of_ble_eq_true rfl) (List.mem_cons_of_mem _ (aw_r4 _ (List.mem_of_getElem? (i := 19) rfl))) rfl dX6_finds_55 ?_
        refine lv_aload_n hx hb dX6_finds_58 rfl (lv_at hl 0 rfl) ?_
        refine k_get 14 X hk (wg_30 G _) rfl (hz_wsX60 _) (Nat.le_of_ble_eq_true rfl) (List.mem_cons_of_mem _ (aw_r5 _ (List.mem_of_getElem? (i := 0) rfl))) rfl dX6_finds_59 ?_
        refine lv_iload_n hx hb dX6_finds_62 rfl (lv_at hl 2 rfl) ?_
        refine k_iald X hk (wg_39 G _) hw.1 dX6_finds_63 ?_
        replace hw := hw.2
        refine k_iald X hk (wg_34 G _) hw.1 dX6_finds_64 ?_
        replace hw := hw.2
        refine lv_topi (fun x3_6 ex3_6 => ?_)
        replace hw := hw x3_6 ex3_6
        refine lv_istore_n (lv' := [(3, .int x3_6), (0, .ref (G.1 30)), (1, .int x1), (2, .int x2)]) hx hb dX6_finds_65 rfl hl (Nat.le_of_ble_eq_true rfl) rfl (fun ls hl => ?_)
        obtain ⟨n0, hw⟩ := hw
        exact t_X6_finds_66 X Q _ ih n0 _ _ _ _ _ _ _ hw hk (lv_sub hl [1, 2, 3, 0] rfl)
def wp_X6_finds_2 (Q : Int32 → Sg → Prop)  : Nat → Int32 → Sg → Prop
  | 0, _, _ => False
  | n + 1, x1, σ => ((346 : Int32) ≤ x1 → (vp_in (0 : Int32) 346 ∧ (∀ σ2 : Sg, σ2 = (put σ 40 ((0 : Int32)).toNatClampNeg (vp_nar .boolean (1 : Int32))) → (vp_in (0 : Int32) 346 ∧ (∀ σ3 : Sg, σ3 = (put σ2 39 ((0 : Int32)).toNatClampNeg (0 : Int32)) → (∃ n0, wp_X6_finds_40 Q  n0 (1 : Int32) (0 : Int32) σ3)))))) ∧ (¬ ((346 : Int32) ≤ x1) → (vp_in x1 346 ∧ (∀ σ16 : Sg, σ16 = (put σ 40 (x1).toNatClampNeg (vp_nar .boolean (0 : Int32))) → (∀ x1_17 : Int32, x1_17 = (x1 + (1 : Int32)) → (wp_X6_finds_2 Q  n x1_17 σ16)))))
set_option maxHeartbeats 4000000 in
set_option maxRecDepth 100000 in
theorem t_X6_finds_2 {p : Program} {l : Launch} {e : Env} {s : State} {m : MethodId} {args : Array Value} {below : List Frame} {meth : Method} {c : Code} {G : Gw} (X : KC p m meth c cX6_finds 4 s args wz_X6_finds RX6 (some .boolean) G) (Q : Int32 → Sg → Prop)  : ∀ (n : Nat) (σ : Sg) (x1 : Int32) (H : Heap) (locs : List Loc) (ls : Array Slot), wp_X6_finds_2 Q  n x1 σ → WK G s H locs σ → lv_has ls 4 [(0, .ref (G.1 30)), (1, .int x1)] → W p l e rm_X6_finds s m args below meth c H locs 0 0 (ZI below args s G Q) (F0 m 2 ls []) := by
  have hx := X.1.1
  have hb := X.1.2.1
  intro n
  induction n with
  | zero =>
    intro σ x1 H locs ls hw hk hl
    exact False.elim hw
  | succ n ih =>
    intro σ x1 H locs ls hw hk hl
    rw [wp_X6_finds_2] at hw
    refine lv_iload_n hx hb dX6_finds_2 rfl (lv_at hl 1 rfl) ?_
    refine lv_sipush (v := (346 : Int32)) hx hb dX6_finds_3 (by decide) ?_
    refine lv_icmp_ge (tgt := 22) hx hb dX6_finds_6 (by decide) (fun c1 => ?_) (fun c1 => ?_)
    · replace hw := hw.1 c1
      refine lv_aload_n hx hb dX6_finds_22 rfl (lv_at hl 0 rfl) ?_
      refine k_get 15 X hk (wg_30 G _) rfl (hz_wsX60 _) (Nat.le_of_ble_eq_true rfl) (List.mem_cons_of_mem _ (aw_r5 _ (List.mem_of_getElem? (i := 2) rfl))) rfl dX6_finds_23 ?_
      refine lv_iconst (v := (0 : Int32)) hx hb dX6_finds_26 (by decide) ?_
      refine lv_iconst (v := (1 : Int32)) hx hb dX6_finds_27 (by decide) ?_
      refine k_zast X hk (wg_40 G _) (ws_40 G _) rfl hw.1 dX6_finds_28 (fun H locs hk => ?_)
      replace hw := hw.2
      obtain ⟨σ2, eσ2⟩ : ∃ y : Sg, y = (put σ 40 ((0 : Int32)).toNatClampNeg (vp_nar .boolean (1 : Int32))) := ⟨_, rfl⟩
      rw [← eσ2] at hk
      replace hw := hw σ2 eσ2
      refine lv_aload_n hx hb dX6_finds_29 rfl (lv_at hl 0 rfl) ?_
      refine k_get 14 X hk (wg_30 G _) rfl (hz_wsX60 _) (Nat.le_of_ble_eq_true rfl) (List.mem_cons_of_mem _ (aw_r5 _ (List.mem_of_getElem? (i := 0) rfl))) rfl dX6_finds_30 ?_
      refine lv_iconst (v := (0 : Int32)) hx hb dX6_finds_33 (by decide) ?_
      refine lv_iconst (v := (0 : Int32)) hx hb dX6_finds_34 (by decide) ?_
      refine k_iast X hk (wg_39 G _) (ws_39 G _) rfl hw.1 dX6_finds_35 (fun H locs hk => ?_)
      replace hw := hw.2
      obtain ⟨σ3, eσ3⟩ : ∃ y : Sg, y = (put σ2 39 ((0 : Int32)).toNatClampNeg (0 : Int32)) := ⟨_, rfl⟩
      rw [← eσ3] at hk
      replace hw := hw σ3 eσ3
      refine lv_iconst (v := (1 : Int32)) hx hb dX6_finds_36 (by decide) ?_
      refine lv_istore_n (lv' := [(1, .int (1 : Int32)), (0, .ref (G.1 30))]) hx hb dX6_finds_37 rfl hl (Nat.le_of_ble_eq_true rfl) rfl (fun ls hl => ?_)
      refine lv_iconst (v := (0 : Int32)) hx hb dX6_finds_38 (by decide) ?_
      refine lv_istore_n (lv' := [(2, .int (0 : Int32)), (1, .int (1 : Int32)), (0, .ref (G.1 30))]) hx hb dX6_finds_39 rfl hl (Nat.le_of_ble_eq_true rfl) rfl (fun ls hl => ?_)
      obtain ⟨n0, hw⟩ := hw
      exact t_X6_finds_40 X Q   n0 _ _ _ _ _ _ hw hk (lv_sub hl [2, 1, 0] rfl)
    · replace hw := hw.2 c1
      refine lv_aload_n hx hb dX6_finds_9 rfl (lv_at hl 0 rfl) ?_
      refine k_get 15 X hk (wg_30 G _) rfl (hz_wsX60 _) (Nat.le_of_ble_eq_true rfl) (List.mem_cons_of_mem _ (aw_r5 _ (List.mem_of_getElem? (i := 2) rfl))) rfl dX6_finds_10 ?_
      refine lv_iload_n hx hb dX6_finds_13 rfl (lv_at hl 1 rfl) ?_
      refine lv_iconst (v := (0 : Int32)) hx hb dX6_finds_14 (by decide) ?_
      refine k_zast X hk (wg_40 G _) (ws_40 G _) rfl hw.1 dX6_finds_15 (fun H locs hk => ?_)
      replace hw := hw.2
      obtain ⟨σ16, eσ16⟩ : ∃ y : Sg, y = (put σ 40 (x1).toNatClampNeg (vp_nar .boolean (0 : Int32))) := ⟨_, rfl⟩
      rw [← eσ16] at hk
      replace hw := hw σ16 eσ16
      obtain ⟨x1_17, ex1_17⟩ : ∃ y : Int32, y = (x1 + (1 : Int32)) := ⟨_, rfl⟩
      replace hw := hw x1_17 ex1_17
      refine lv_iinc (v := x1_17) (lv' := [(1, .int x1_17), (0, .ref (G.1 30))]) hx hb dX6_finds_16 hl (k := 1) rfl (by rw [ex1_17]; rfl) (Nat.le_of_ble_eq_true rfl) rfl (fun ls hl => ?_)
      refine lv_goto (tgt := 2) hx hb dX6_finds_19 (by decide) ?_
      exact ih _ _ _ _ _ hw hk (lv_sub hl [1, 0] rfl)
def wp_X6_finds (σ : Sg) (Q : Int32 → Sg → Prop) : Prop := ∃ n0, wp_X6_finds_2 Q  n0 (0 : Int32) σ
set_option maxHeartbeats 4000000 in
set_option maxRecDepth 100000 in
theorem c_X6_finds (l : Launch) (G : Gw) (σ : Sg) (Q : Int32 → Sg → Prop) (hw : wp_X6_finds σ  Q) : MetI l yX6_finds wz_X6_finds rm_X6_finds G σ [.ref (G.1 30)] Q := by
  refine MetI.of cX6_finds 4 (some .boolean) (by decide) rfl (Nat.le_of_ble_eq_true rfl) ?_
  intro p e s m below meth c X hk ls hl
  have X : KC p m meth c cX6_finds 4 s _ wz_X6_finds RX6 (some .boolean) G := X
  have hl : lv_has ls 4 [(0, .ref (G.1 30))] := hl
  unfold wp_X6_finds at hw
  have hx := X.1.1
  have hb := X.1.2.1
  refine lv_iconst (v := (0 : Int32)) hx hb dX6_finds_0 (by decide) ?_
  refine lv_istore_n (lv' := [(1, .int (0 : Int32)), (0, .ref (G.1 30))]) hx hb dX6_finds_1 rfl hl (Nat.le_of_ble_eq_true rfl) rfl (fun ls hl => ?_)
  obtain ⟨n0, hw⟩ := hw
  exact t_X6_finds_2 X Q   n0 _ _ _ _ _ hw hk (lv_sub hl [1, 0] rfl)
def rm_X6_pushes : Room := { frames := 1, cells := 0, slots := 0, locals := 21 }
abbrev wz_X6_pushes : List Cond := Cond.code yX6_pushes cX6_pushes 3 (some .int) :: wsA
theorem hd_X6_pushes : yX6_pushes.cls = RX6 ∧ yX6_pushes.cls ≠ "java/lang/invoke/MethodHandle" ∧ yX6_pushes.cls ≠ "java/lang/invoke/VarHandle" ∧ (parseMethodDescriptor yX6_pushes.desc).map (fun d => d.parameters.length) = some 0 := by decide +kernel
def wp_X6_pushes_44 (Q : Int32 → Sg → Prop)  : Nat → Int32 → Int32 → Sg → Prop
  | 0, _, _, _ => False
  | n + 1, x1, x2, σ => (x2 = 0 → (Q x1 σ)) ∧ (¬ (x2 = 0) → (vp_in x2 346 ∧ (vp_in (σ 38 (x2).toNatClampNeg) 4000 ∧ (vp_in (σ 38 (x2).toNatClampNeg) 4000 ∧ (∀ σ3 : Sg, σ3 = (put σ 37 ((σ 38 (x2).toNatClampNeg)).toNatClampNeg ((σ 37 ((σ 38 (x2).toNatClampNeg)).toNatClampNeg) - x1)) → (vp_in x2 346 ∧ (vp_in ((σ3 38 (x2).toNatClampNeg) ^^^ (1 : Int32)) 4000 ∧ (vp_in ((σ3 38 (x2).toNatClampNeg) ^^^ (1 : Int32)) 4000 ∧ (∀ σ4 : Sg, σ4 = (put σ3 37 (((σ3 38 (x2).toNatClampNeg) ^^^ (1 : Int32))).toNatClampNeg ((σ3 37 (((σ3 38 (x2).toNatClampNeg) ^^^ (1 : Int32))).toNatClampNeg) + x1)) → (vp_in x2 346 ∧ (vp_in ((σ4 38 (x2).toNatClampNeg) ^^^ (1 : Int32)) 4000 ∧ (∀ x2_5 : Int32, x2_5 = (σ4 36 (((σ4 38 (x2).toNatClampNeg) ^^^ (1 : Int32))).toNatClampNeg) → (wp_X6_pushes_44 Q  n x1 x2_5 σ4)))))))))))))
set_option maxHeartbeats 4000000 in
set_option maxRecDepth 100000 in
theorem t_X6_pushes_44 {p : Program} {l : Launch} {e : Env} {s : State} {m : MethodId} {args : Array Value} {below : List Frame} {meth : Method} {c : Code} {G : Gw} (X : KC p m meth c cX6_pushes 3 s args wz_X6_pushes RX6 (some .int) G) (Q : Int32 → Sg → Prop)  : ∀ (n : Nat) (σ : Sg) (x1 x2 : Int32) (H : Heap) (locs : List Loc) (ls : Array Slot), wp_X6_pushes_44 Q  n x1 x2 σ → WK G s H locs σ → lv_has ls 3 [(0, .ref (G.1 30)), (1, .int x1), (2, .int x2)] → W p l e rm_X6_pushes s m args below meth c H locs 0 0 (ZI below args s G Q) (F0 m 44 ls []) := by
  have hx := X.1.1
  have hb := X.1.2.1
  intro n
  induction n with
  | zero =>
    intro σ x1 x2 H locs ls hw hk hl
    exact False.elim hw
  | succ n ih =>
    intro σ x1 x2 H locs ls hw hk hl
    rw [wp_X6_pushes_44] at hw
    refine lv_iload_n hx hb dX6_pushes_44 rfl (lv_at hl 2 rfl) ?_
    refine lv_if_eq (tgt := 97) hx hb dX6_pushes_45 (by decide) (fun c2 => ?_) (fun c2 => ?_)
    · replace hw := hw.1 c2
      refine lv_iload_n hx hb dX6_pushes_97 rfl (lv_at hl 1 rfl) ?_
      exact k_iret X hk hw dX6_pushes_98
    · replace hw := hw.2 c2
      refine lv_aload_n hx hb dX6_pushes_48 rfl (lv_at hl 0 rfl) ?_
      refine k_get 12 X hk (wg_30 G _) rfl (hz_wsX60 _) (Nat.le_of_ble_eq_true rfl) (List.mem_cons_of_mem _ (aw_r4 _ (List.mem_of_getElem? (i := 22) rfl))) rfl dX6_pushes_49 ?_
      refine lv_aload_n hx hb dX6_pushes_52 rfl (lv_at hl 0 rfl) ?_
      refine k_get 13 X hk (wg_30 G _) rfl (hz_wsX60 _) (Nat.le_of_ble_eq_true rfl) (List.mem_cons_of_mem _ (aw_r4 _ (List.mem_of_getElem? (i := 23) rfl))) rfl dX6_pushes_53 ?_
      refine lv_iload_n hx hb dX6_pushes_56 rfl (lv_at hl 2 rfl) ?_
      refine k_iald X hk (wg_38 G _) hw.1 dX6_pushes_57 ?_
      replace hw := hw.2
      refine lv_dup2_11 hx hb dX6_pushes_58 rfl rfl ?_
      refine k_iald X hk (wg_37 G _) hw.1 dX6_pushes_59 ?_
      replace hw := hw.2
      refine lv_iload_n hx hb dX6_pushes_60 rfl (lv_at hl 1 rfl) ?_
      refine lv_isub hx hb dX6_pushes_61 ?_
      refine k_iast X hk (wg_37 G _) (ws_37 G _) rfl hw.1 dX6_pushes_62 (fun H locs hk => ?_)
      replace hw := hw.2
      obtain ⟨σ3, eσ3⟩ : ∃ y : Sg, y = (put σ 37 ((σ 38 (x2).toNatClampNeg)).toNatClampNeg ((σ 37 ((σ 38 (x2).toNatClampNeg)).toNatClampNeg) - x1)) := ⟨_, rfl⟩
      rw [← eσ3] at hk
      replace hw := hw σ3 eσ3
      refine lv_aload_n hx hb dX6_pushes_63 rfl (lv_at hl 0 rfl) ?_
      refine k_get 12 X hk (wg_30 G _) rfl (hz_wsX60 _) (Nat.le_of_ble_eq_true rfl) (List.mem_cons_of_mem _ (aw_r4 _ (List.mem_of_getElem? (i := 22) rfl))) rfl dX6_pushes_64 ?_
      refine lv_aload_n hx hb dX6_pushes_67 rfl (lv_at hl 0 rfl) ?_
      refine k_get 13 X hk (wg_30 G _) rfl (hz_wsX60 _) (Nat.le_of_ble_eq_true rfl) (List.mem_cons_of_mem _ (aw_r4 _ (List.mem_of_getElem? (i := 23) rfl))) rfl dX6_pushes_68 ?_
      refine lv_iload_n hx hb dX6_pushes_71 rfl (lv_at hl 2 rfl) ?_
      refine k_iald X hk (wg_38 G _) hw.1 dX6_pushes_72 ?_
      replace hw := hw.2
      refine lv_iconst (v := (1 : Int32)) hx hb dX6_pushes_73 (by decide) ?_
      refine lv_ixor hx hb dX6_pushes_74 ?_
      refine lv_dup2_11 hx hb dX6_pushes_75 rfl rfl ?_
      refine k_iald X hk (wg_37 G _) hw.1 dX6_pushes_76 ?_
      replace hw := hw.2
      refine lv_iload_n hx hb dX6_pushes_77 rfl (lv_at hl 1 rfl) ?_
      refine lv_iadd hx hb dX6_pushes_78 ?_
      refine k_iast X hk (wg_37 G _) (ws_37 G _) rfl hw.1 dX6_pushes_79 (fun H locs hk => ?_)
      replace hw := hw.2
      obtain ⟨σ4, eσ4⟩ : ∃ y : Sg, y = (put σ3 37 (((σ3 38 (x2).toNatClampNeg) ^^^ (1 : Int32))).toNatClampNeg ((σ3 37 (((σ3 38 (x2).toNatClampNeg) ^^^ (1 : Int32))).toNatClampNeg) + x1)) := ⟨_, rfl⟩
      rw [← eσ4] at hk
      replace hw := hw σ4 eσ4
      refine lv_aload_n hx hb dX6_pushes_80 rfl (lv_at hl 0 rfl) ?_
      refine k_get 11 X hk (wg_30 G _) rfl (hz_wsX60 _) (Nat.le_of_ble_eq_true rfl) (List.mem_cons_of_mem _ (aw_r4 _ (List.mem_of_getElem? (i := 21) rfl))) rfl dX6_pushes_81 ?_
      refine lv_aload_n hx hb dX6_pushes_84 rfl (lv_at hl 0 rfl) ?_
      refine k_get 13 X hk (wg_30 G _) rfl (hz_wsX60 _) (Nat.le_of_ble_eq_true rfl) (List.mem_cons_of_mem _ (aw_r4 _ (List.mem_of_getElem? (i := 23) rfl))) rfl dX6_pushes_85 ?_
      refine lv_iload_n hx hb dX6_pushes_88 rfl (lv_at hl 2 rfl) ?_
      refine k_iald X hk (wg_38 G _) hw.1 dX6_pushes_89 ?_
      replace hw := hw.2
      refine lv_iconst (v := (1 : Int32)) hx hb dX6_pushes_90 (by decide) ?_
      refine lv_ixor hx hb dX6_pushes_91 ?_
      refine k_iald X hk (wg_36 G _) hw.1 dX6_pushes_92 ?_
      replace hw := hw.2
      refine lv_topi (fun x2_5 ex2_5 => ?_)
      replace hw := hw x2_5 ex2_5
      refine lv_istore_n (lv' := [(2, .int x2_5), (0, .ref (G.1 30)), (1, .int x1)]) hx hb dX6_pushes_93 rfl hl (Nat.le_of_ble_eq_true rfl) rfl (fun ls hl => ?_)
      refine lv_goto (tgt := 44) hx hb dX6_pushes_94 (by decide) ?_
      exact ih _ _ _ _ _ _ hw hk (lv_sub hl [1, 2, 0] rfl)
def wp_X6_pushes_5 (Q : Int32 → Sg → Prop)  : Nat → Int32 → Int32 → Sg → Prop
  | 0, _, _, _ => False
  | n + 1, x1, x2, σ => (x2 = 0 → (∃ n0, wp_X6_pushes_44 Q  n0 x1 (1 : Int32) σ)) ∧ (¬ (x2 = 0) → (vp_in x2 346 ∧ (vp_in (σ 38 (x2).toNatClampNeg) 4000 ∧ (wp_X6_lesser σ x1 (σ 37 ((σ 38 (x2).toNatClampNeg)).toNatClampNeg) (fun r7 σ6 => vp_in x2 346 ∧ (vp_in ((σ6 38 (x2).toNatClampNeg) ^^^ (1 : Int32)) 4000 ∧ (∀ x2_8 : Int32, x2_8 = (σ6 36 (((σ6 38 (x2).toNatClampNeg) ^^^ (1 : Int32))).toNatClampNeg) → (wp_X6_pushes_5 Q  n r7 x2_8 σ6))))))))
set_option maxHeartbeats 4000000 in
set_option maxRecDepth 100000 in
theorem t_X6_pushes_5 {p : Program} {l : Launch} {e : Env} {s : State} {m : MethodId} {args : Array Value} {below : List Frame} {meth : Method} {c : Code} {G : Gw} (X : KC p m meth c cX6_pushes 3 s args wz_X6_pushes RX6 (some .int) G) (Q : Int32 → Sg → Prop)  : ∀ (n : Nat) (σ : Sg) (x1 x2 : Int32) (H : Heap) (locs : List Loc) (ls : Array Slot), wp_X6_pushes_5 Q  n x1 x2 σ → WK G s H locs σ → lv_has ls 3 [(0, .ref (G.1 30)), (1, .int x1), (2, .int x2)] → W p l e rm_X6_pushes s m args below meth c H locs 0 0 (ZI below args s G Q) (F0 m 5 ls []) := by
  have hx := X.1.1
  have hb := X.1.2.1
  intro n
  induction n with
  | zero =>
    intro σ x1 x2 H locs ls hw hk hl
    exact False.elim hw
  | succ n ih =>
    intro σ x1 x2 H locs ls hw hk hl
    rw [wp_X6_pushes_5] at hw
    refine lv_iload_n hx hb dX6_pushes_5 rfl (lv_at hl 2 rfl) ?_
    refine lv_if_eq (tgt := 42) hx hb dX6_pushes_6 (by decide) (fun c1 => ?_) (fun c1 => ?_)
    · replace hw := hw.1 c1
      refine lv_iconst (v := (1 : Int32)) hx hb dX6_pushes_42 (by decide) ?_
      refine lv_istore_n (lv' := [(2, .int (1 : Int32)), (0, .ref (G.1 30)), (1, .int x1)]) hx hb dX6_pushes_43 rfl hl (Nat.le_of_ble_eq_true rfl) rfl (fun ls hl => ?_)
      obtain ⟨n0, hw⟩ := hw
      exact t_X6_pushes_44 X Q   n0 _ _ _ _ _ _ hw hk (lv_sub hl [1, 2, 0] rfl)
    · replace hw := hw.2 c1
      refine lv_iload_n hx hb dX6_pushes_9 rfl (lv_at hl 1 rfl) ?_
      refine lv_aload_n hx hb dX6_pushes_10 rfl (lv_at hl 0 rfl) ?_
      refine k_get 12 X hk (wg_30 G _) rfl (hz_wsX60 _) (Nat.le_of_ble_eq_true rfl) (List.mem_cons_of_mem _ (aw_r4 _ (List.mem_of_getElem? (i := 22) rfl))) rfl dX6_pushes_11 ?_
      refine lv_aload_n hx hb dX6_pushes_14 rfl (lv_at hl 0 rfl) ?_
      refine k_get 13 X hk (wg_30 G _) rfl (hz_wsX60 _) (Nat.le_of_ble_eq_true rfl) (List.mem_cons_of_mem _ (aw_r4 _ (List.mem_of_getElem? (i := 23) rfl))) rfl dX6_pushes_15 ?_
      refine lv_iload_n hx hb dX6_pushes_18 rfl (lv_at hl 2 rfl) ?_
      refine k_iald X hk (wg_38 G _) hw.1 dX6_pushes_19 ?_
      replace hw := hw.2
      refine k_iald X hk (wg_37 G _) hw.1 dX6_pushes_20 ?_
      replace hw := hw.2
      refine k_callSi (rest := []) X hk (c_X6_lesser l G _ _ _ _ hw) (va_cwS 2 X.1.2.2.2.2 (gzS (aw_r23 _ (List.mem_of_getElem? (i := 8) rfl)) (aw_r23 _ (List.mem_of_getElem? (i := 9) rfl)) (aw_r1 _ (List.mem_of_getElem? (i := 5) rfl)) (aw_r23 _ (List.mem_of_getElem? (i := 10) rfl))) rfl rfl rfl hds_X6_lesser ⟨(Nat.le_of_ble_eq_true rfl), (Nat.le_of_ble_eq_true rfl)⟩) rfl hl.1 rfl (Nat.le_of_ble_eq_true rfl) dX6_pushes_21 ⟨Nat.zero_le _, Nat.zero_le _⟩ (fun r7 σ6 H locs hw hk => ?_)
      refine lv_istore_n (lv' := [(1, .int r7), (0, .ref (G.1 30)), (2, .int x2)]) hx hb dX6_pushes_24 rfl hl (Nat.le_of_ble_eq_true rfl) rfl (fun ls hl => ?_)
      refine lv_aload_n hx hb dX6_pushes_25 rfl (lv_at hl 1 rfl) ?_
      refine k_get 11 X hk (wg_30 G _) rfl (hz_wsX60 _) (Nat.le_of_ble_eq_true rfl) (List.mem_cons_of_mem _ (aw_r4 _ (List.mem_of_getElem? (i := 21) rfl))) rfl dX6_pushes_26 ?_
      refine lv_aload_n hx hb dX6_pushes_29 rfl (lv_at hl 1 rfl) ?_
      refine k_get 13 X hk (wg_30 G _) rfl (hz_wsX60 _) (Nat.le_of_ble_eq_true rfl) (List.mem_cons_of_mem _ (aw_r4 _ (List.mem_of_getElem? (i := 23) rfl))) rfl dX6_pushes_30 ?_
      refine lv_iload_n hx hb dX6_pushes_33 rfl (lv_at hl 2 rfl) ?_
      refine k_iald X hk (wg_38 G _) hw.1 dX6_pushes_34 ?_
      replace hw := hw.2
      refine lv_iconst (v := (1 : Int32)) hx hb dX6_pushes_35 (by decide) ?_
      refine lv_ixor hx hb dX6_pushes_36 ?_
      refine k_iald X hk (wg_36 G _) hw.1 dX6_pushes_37 ?_
      replace hw := hw.2
      refine lv_topi (fun x2_8 ex2_8 => ?_)
      replace hw := hw x2_8 ex2_8
      refine lv_istore_n (lv' := [(2, .int x2_8), (1, .int r7), (0, .ref (G.1 30))]) hx hb dX6_pushes_38 rfl hl (Nat.le_of_ble_eq_true rfl) rfl (fun ls hl => ?_)
      refine lv_goto (tgt := 5) hx hb dX6_pushes_39 (by decide) ?_
      exact ih _ _ _ _ _ _ hw hk (lv_sub hl [2, 1, 0] rfl)
def wp_X6_pushes (σ : Sg) (Q : Int32 → Sg → Prop) : Prop := ∃ n0, wp_X6_pushes_5 Q  n0 (1000000 : Int32) (1 : Int32) σ
set_option maxHeartbeats 4000000 in
set_option maxRecDepth 100000 in
theorem c_X6_pushes (l : Launch) (G : Gw) (σ : Sg) (Q : Int32 → Sg → Prop) (hw : wp_X6_pushes σ  Q) : MetI l yX6_pushes wz_X6_pushes rm_X6_pushes G σ [.ref (G.1 30)] Q := by
  refine MetI.of cX6_pushes 3 (some .int) (by decide) rfl (Nat.le_of_ble_eq_true rfl) ?_
  intro p e s m below meth c X hk ls hl
  have X : KC p m meth c cX6_pushes 3 s _ wz_X6_pushes RX6 (some .int) G := X
  have hl : lv_has ls 3 [(0, .ref (G.1 30))] := hl
  unfold wp_X6_pushes at hw
  have hx := X.1.1
  have hb := X.1.2.1
  refine lv_ldc (v := (1000000 : Int32)) hx hb X.1.2.2.2.1 (X.1.2.2.2.2 _ (List.mem_cons_of_mem _ (aw_r29 _ (List.mem_of_getElem? (i := 3) rfl)))) dX6_pushes_0 ?_
  refine lv_istore_n (lv' := [(1, .int (1000000 : Int32)), (0, .ref (G.1 30))]) hx hb dX6_pushes_2 rfl hl (Nat.le_of_ble_eq_true rfl) rfl (fun ls hl => ?_)
  refine lv_iconst (v := (1 : Int32)) hx hb dX6_pushes_3 (by decide) ?_
  refine lv_istore_n (lv' := [(2, .int (1 : Int32)), (1, .int (1000000 : Int32)), (0, .ref (G.1 30))]) hx hb dX6_pushes_4 rfl hl (Nat.le_of_ble_eq_true rfl) rfl (fun ls hl => ?_)
  obtain ⟨n0, hw⟩ := hw
  exact t_X6_pushes_5 X Q   n0 _ _ _ _ _ _ hw hk (lv_sub hl [2, 1, 0] rfl)
def rm_X6_flows : Room := { frames := 2, cells := 0, slots := 0, locals := 46 }
abbrev wz_X6_flows : List Cond := Cond.code yX6_flows cX6_flows 3 (some .int) :: wsA
theorem hd_X6_flows : yX6_flows.cls = RX6 ∧ yX6_flows.cls ≠ "java/lang/invoke/MethodHandle" ∧ yX6_flows.cls ≠ "java/lang/invoke/VarHandle" ∧ (parseMethodDescriptor yX6_flows.desc).map (fun d => d.parameters.length) = some 1 := by decide +kernel
def wp_X6_flows_7 (Q : Int32 → Sg → Prop)  : Nat → Int32 → Sg → Prop
  | 0, _, _ => False
  | n + 1, x2, σ => wp_X6_finds σ  (fun r4 σ3 => (r4 = 0 → (Q x2 σ3)) ∧ (¬ (r4 = 0) → (wp_X6_pushes σ3  (fun r7 σ6 => ∀ x2_8 : Int32, x2_8 = (x2 + r7) → (wp_X6_flows_7 Q  n x2_8 σ6)))))
set_option maxHeartbeats 4000000 in
set_option maxRecDepth 100000 in
theorem t_X6_flows_7 {p : Program} {l : Launch} {e : Env} {s : State} {m : MethodId} {args : Array Value} {below : List Frame} {meth : Method} {c : Code} {G : Gw} (X : KC p m meth c cX6_flows 3 s args wz_X6_flows RX6 (some .int) G) (Q : Int32 → Sg → Prop)  : ∀ (n : Nat) (σ : Sg) (x2 : Int32) (H : Heap) (locs : List Loc) (ls : Array Slot), wp_X6_flows_7 Q  n x2 σ → WK G s H locs σ → lv_has ls 3 [(0, .ref (G.1 30)), (2, .int x2)] → W p l e rm_X6_flows s m args below meth c H locs 0 0 (ZI below args s G Q) (F0 m 7 ls []) := by
  have hx := X.1.1
  have hb := X.1.2.1
  intro n
  induction n with
  | zero =>
    intro σ x2 H locs ls hw hk hl
    exact False.elim hw
  | succ n ih =>
    intro σ x2 H locs ls hw hk hl
    rw [wp_X6_flows_7] at hw
    refine lv_aload_n hx hb dX6_flows_7 rfl (lv_at hl 0 rfl) ?_
    refine k_callVi (rest := []) X hk (c_X6_finds l G _  _ hw) (cwV 0 X.1.2.2.2.2 (gzV (aw_r29 _ (List.mem_of_getElem? (i := 11) rfl)) (aw_r29 _ (List.mem_of_getElem? (i := 12) rfl)) (aw_r29 _ (List.mem_of_getElem? (i := 13) rfl)) (aw_r1 _ (List.mem_of_getElem? (i := 5) rfl)) (aw_r29 _ (List.mem_of_getElem? (i := 14) rfl))) rfl rfl rfl hd_X6_finds ⟨(Nat.le_of_ble_eq_true rfl), (Nat.le_of_ble_eq_true rfl)⟩) (wg_30 G _) rfl rfl hl.1 rfl (Nat.le_of_ble_eq_true rfl) dX6_flows_8 ⟨Nat.zero_le _, Nat.zero_le _⟩ (fun r4 σ3 H locs hw hk => ?_)
    refine lv_if_eq (tgt := 24) hx hb dX6_flows_11 (by decide) (fun c5 => ?_) (fun c5 => ?_)
    · replace hw := hw.1 c5
      refine lv_iload_n hx hb dX6_flows_24 rfl (lv_at hl 1 rfl) ?_
      exact k_iret X hk hw dX6_flows_25
    · replace hw := hw.2 c5
      refine lv_iload_n hx hb dX6_flows_14 rfl (lv_at hl 1 rfl) ?_
      refine lv_aload_n hx hb dX6_flows_15 rfl (lv_at hl 0 rfl) ?_
      refine k_callVi (rest := [.int x2]) X hk (c_X6_pushes l G _  _ hw) (cwV 0 X.1.2.2.2.2 (gzV (aw_r29 _ (List.mem_of_getElem? (i := 15) rfl)) (aw_r29 _ (List.mem_of_getElem? (i := 16) rfl)) (aw_r29 _ (List.mem_of_getElem? (i := 17) rfl)) (aw_r1 _ (List.mem_of_getElem? (i := 5) rfl)) (aw_r29 _ (List.mem_of_getElem? (i := 18) rfl))) rfl rfl rfl hd_X6_pushes ⟨(Nat.le_of_ble_eq_true rfl), (Nat.le_of_ble_eq_true rfl)⟩) (wg_30 G _) rfl rfl hl.1 rfl (Nat.le_of_ble_eq_true rfl) dX6_flows_16 ⟨Nat.zero_le _, Nat.zero_le _⟩ (fun r7 σ6 H locs hw hk => ?_)
      refine lv_iadd hx hb dX6_flows_19 ?_
      refine lv_topi (fun x2_8 ex2_8 => ?_)
      replace hw := hw x2_8 ex2_8
      refine lv_istore_n (lv' := [(2, .int x2_8), (0, .ref (G.1 30))]) hx hb dX6_flows_20 rfl hl (Nat.le_of_ble_eq_true rfl) rfl (fun ls hl => ?_)
      refine lv_goto (tgt := 7) hx hb dX6_flows_21 (by decide) ?_
      exact ih _ _ _ _ _ hw hk (lv_sub hl [1, 0] rfl)
def wp_X6_flows (σ : Sg) (p1 : Int32) (Q : Int32 → Sg → Prop) : Prop := wp_X6_lays σ p1 (fun σ1 => ∃ n0, wp_X6_flows_7 Q  n0 (0 : Int32) σ1)
set_option maxHeartbeats 4000000 in
set_option maxRecDepth 100000 in
theorem c_X6_flows (l : Launch) (G : Gw) (σ : Sg) (p1 : Int32) (Q : Int32 → Sg → Prop) (hw : wp_X6_flows σ p1 Q) : MetI l yX6_flows wz_X6_flows rm_X6_flows G σ [.ref (G.1 30), .int p1] Q := by
  refine MetI.of cX6_flows 3 (some .int) (by decide) rfl (Nat.le_of_ble_eq_true rfl) ?_
  intro p e s m below meth c X hk ls hl
  have X : KC p m meth c cX6_flows 3 s _ wz_X6_flows RX6 (some .int) G := X
  have hl : lv_has ls 3 [(0, .ref (G.1 30)), (1, .int p1)] := hl
  unfold wp_X6_flows at hw
  have hx := X.1.1
  have hb := X.1.2.1
  refine lv_aload_n hx hb dX6_flows_0 rfl (lv_at hl 0 rfl) ?_
  refine lv_iload_n hx hb dX6_flows_1 rfl (lv_at hl 1 rfl) ?_
  refine k_callVv (rest := []) X hk (c_X6_lays l G _ _ _ hw) (cwV 1 X.1.2.2.2.2 (gzV (aw_r28 _ (List.mem_of_getElem? (i := 22) rfl)) (aw_r28 _ (List.mem_of_getElem? (i := 23) rfl)) (aw_r29 _ (List.mem_of_getElem? (i := 0) rfl)) (aw_r1 _ (List.mem_of_getElem? (i := 5) rfl)) (aw_r29 _ (List.mem_of_getElem? (i := 1) rfl))) rfl rfl rfl hd_X6_lays ⟨(Nat.le_of_ble_eq_true rfl), (Nat.le_of_ble_eq_true rfl)⟩) (wg_30 G _) rfl rfl hl.1 rfl (Nat.le_of_ble_eq_true rfl) dX6_flows_2 ⟨Nat.zero_le _, Nat.zero_le _⟩ (fun σ1 H locs hw hk => ?_)
  refine lv_iconst (v := (0 : Int32)) hx hb dX6_flows_5 (by decide) ?_
  refine lv_istore_n (lv' := [(2, .int (0 : Int32)), (0, .ref (G.1 30)), (1, .int p1)]) hx hb dX6_flows_6 rfl hl (Nat.le_of_ble_eq_true rfl) rfl (fun ls hl => ?_)
  obtain ⟨n0, hw⟩ := hw
  exact t_X6_flows_7 X Q   n0 _ _ _ _ _ hw hk (lv_sub hl [1, 0] rfl)
def rm_X6_isMinute : Room := { frames := 1, cells := 0, slots := 0, locals := 22 }
abbrev wz_X6_isMinute : List Cond := Cond.code yX6_isMinute cX6_isMinute 1 (some .boolean) :: wsA
theorem hds_X6_isMinute : yX6_isMinute.cls ≠ "java/lang/invoke/MethodHandle" ∧ yX6_isMinute.cls ≠ "java/lang/invoke/VarHandle" ∧ (parseMethodDescriptor yX6_isMinute.desc).map (fun d => d.parameters.length) = some 1 := by decide +kernel
def wp_X6_isMinute (σ : Sg) (p0 : Int32) (Q : Int32 → Sg → Prop) : Prop := wp_X6_isIn σ p0 (0 : Int32) (40 : Int32) (fun r2 σ1 => bz r2 ∧ Q r2 σ1)
set_option maxHeartbeats 4000000 in
set_option maxRecDepth 100000 in
theorem c_X6_isMinute (l : Launch) (G : Gw) (σ : Sg) (p0 : Int32) (Q : Int32 → Sg → Prop) (hw : wp_X6_isMinute σ p0 Q) : MetI l yX6_isMinute wz_X6_isMinute rm_X6_isMinute G σ [.int p0] Q := by
  refine MetI.of cX6_isMinute 1 (some .boolean) (by decide) rfl (Nat.le_of_ble_eq_true rfl) ?_
  intro p e s m below meth c X hk ls hl
  have X : KC p m meth c cX6_isMinute 1 s _ wz_X6_isMinute RX6 (some .boolean) G := X
  have hl : lv_has ls 1 [(0, .int p0)] := hl
  unfold wp_X6_isMinute at hw
  have hx := X.1.1
  have hb := X.1.2.1
  refine lv_iload_n hx hb dX6_isMinute_0 rfl (lv_at hl 0 rfl) ?_
  refine lv_iconst (v := (0 : Int32)) hx hb dX6_isMinute_1 (by decide) ?_
  refine lv_bipush (v := (40 : Int32)) hx hb dX6_isMinute_2 (by decide) ?_
  refine k_callSi (rest := []) X hk (c_X6_isIn l G _ _ _ _ _ hw) (va_cwS 3 X.1.2.2.2.2 (gzS (aw_r6 _ (List.mem_of_getElem? (i := 17) rfl)) (aw_r6 _ (List.mem_of_getElem? (i := 18) rfl)) (aw_r1 _ (List.mem_of_getElem? (i := 5) rfl)) (aw_r6 _ (List.mem_of_getElem? (i := 19) rfl))) rfl rfl rfl hds_X6_isIn ⟨(Nat.le_of_ble_eq_true rfl), (Nat.le_of_ble_eq_true rfl)⟩) rfl hl.1 rfl (Nat.le_of_ble_eq_true rfl) dX6_isMinute_4 ⟨Nat.zero_le _, Nat.zero_le _⟩ (fun r2 σ1 H locs hw hk => ?_)
  exact k_zret X hk hw dX6_isMinute_7
def rm_X6_can : Room := { frames := 3, cells := 0, slots := 0, locals := 68 }
abbrev wz_X6_can : List Cond := Cond.code yX6_can cX6_can 2 (some .boolean) :: wsA
theorem hd_X6_can : yX6_can.cls = RX6 ∧ yX6_can.cls ≠ "java/lang/invoke/MethodHandle" ∧ yX6_can.cls ≠ "java/lang/invoke/VarHandle" ∧ (parseMethodDescriptor yX6_can.desc).map (fun d => d.parameters.length) = some 1 := by decide +kernel
def wp_X6_can (σ : Sg) (p1 : Int32) (Q : Int32 → Sg → Prop) : Prop := wp_X6_isMinute σ p1 (fun r2 σ1 => (r2 = 0 → (bz (0 : Int32) ∧ Q (0 : Int32) σ1)) ∧ (¬ (r2 = 0) → (wp_X6_flows σ1 p1 (fun r5 σ4 => wp_X6_sum σ4 (0 : Int32) (fun r7 σ6 => (r5 = r7 → (bz (1 : Int32) ∧ Q (1 : Int32) σ6)) ∧ (¬ (r5 = r7) → (bz (0 : Int32) ∧ Q (0 : Int32) σ6)))))))
set_option maxHeartbeats 4000000 in
set_option maxRecDepth 100000 in
theorem c_X6_can (l : Launch) (G : Gw) (σ : Sg) (p1 : Int32) (Q : Int32 → Sg → Prop) (hw : wp_X6_can σ p1 Q) : MetI l yX6_can wz_X6_can rm_X6_can G σ [.ref (G.1 30), .int p1] Q := by
  refine MetI.of cX6_can 2 (some .boolean) (by decide) rfl (Nat.le_of_ble_eq_true rfl) ?_
  intro p e s m below meth c X hk ls hl
  have X : KC p m meth c cX6_can 2 s _ wz_X6_can RX6 (some .boolean) G := X
  have hl : lv_has ls 2 [(0, .ref (G.1 30)), (1, .int p1)] := hl
  unfold wp_X6_can at hw
  have hx := X.1.1
  have hb := X.1.2.1
  refine lv_iload_n hx hb dX6_can_0 rfl (lv_at hl 1 rfl) ?_
  refine k_callSi (rest := []) X hk (c_X6_isMinute l G _ _ _ hw) (va_cwS 1 X.1.2.2.2.2 (gzS (aw_r28 _ (List.mem_of_getElem? (i := 15) rfl)) (aw_r28 _ (List.mem_of_getElem? (i := 16) rfl)) (aw_r1 _ (List.mem_of_getElem? (i := 5) rfl)) (aw_r28 _ (List.mem_of_getElem? (i := 17) rfl))) rfl rfl rfl hds_X6_isMinute ⟨(Nat.le_of_ble_eq_true rfl), (Nat.le_of_ble_eq_true rfl)⟩) rfl hl.1 rfl (Nat.le_of_ble_eq_true rfl) dX6_can_1 ⟨Nat.zero_le _, Nat.zero_le _⟩ (fun r2 σ1 H locs hw hk => ?_)
  refine lv_if_eq (tgt := 24) hx hb dX6_can_4 (by decide) (fun c3 => ?_) (fun c3 => ?_)
  · replace hw := hw.1 c3
    refine lv_iconst (v := (0 : Int32)) hx hb dX6_can_24 (by decide) ?_
    exact k_zret X hk hw dX6_can_25
  · replace hw := hw.2 c3
    refine lv_aload_n hx hb dX6_can_7 rfl (lv_at hl 0 rfl) ?_
    refine lv_iload_n hx hb dX6_can_8 rfl (lv_at hl 1 rfl) ?_
    refine k_callVi (rest := []) X hk (c_X6_flows l G _ _ _ hw) (cwV 1 X.1.2.2.2.2 (gzV (aw_r28 _ (List.mem_of_getElem? (i := 18) rfl)) (aw_r28 _ (List.mem_of_getElem? (i := 19) rfl)) (aw_r28 _ (List.mem_of_getElem? (i := 20) rfl)) (aw_r1 _ (List.mem_of_getElem? (i := 5) rfl)) (aw_r28 _ (List.mem_of_getElem? (i := 21) rfl))) rfl rfl rfl hd_X6_flows ⟨(Nat.le_of_ble_eq_true rfl), (Nat.le_of_ble_eq_true rfl)⟩) (wg_30 G _) rfl rfl hl.1 rfl (Nat.le_of_ble_eq_true rfl) dX6_can_9 ⟨Nat.zero_le _, Nat.zero_le _⟩ (fun r5 σ4 H locs hw hk => ?_)
    refine lv_aload_n hx hb dX6_can_12 rfl (lv_at hl 0 rfl) ?_
    refine lv_iconst (v := (0 : Int32)) hx hb dX6_can_13 (by decide) ?_
    refine k_callVi (rest := [.int r5]) X hk (c_X6_sum l G _ _ _ hw) (cwV 1 X.1.2.2.2.2 (gzV (aw_r24 _ (List.mem_of_getElem? (i := 0) rfl)) (aw_r24 _ (List.mem_of_getElem? (i := 1) rfl)) (aw_r24 _ (List.mem_of_getElem? (i := 2) rfl)) (aw_r1 _ (List.mem_of_getElem? (i := 5) rfl)) (aw_r24 _ (List.mem_of_getElem? (i := 3) rfl))) rfl rfl rfl hd_X6_sum ⟨(Nat.le_of_ble_eq_true rfl), (Nat.le_of_ble_eq_true rfl)⟩) (wg_30 G _) rfl rfl hl.1 rfl (Nat.le_of_ble_eq_true rfl) dX6_can_14 ⟨Nat.zero_le _, Nat.zero_le _⟩ (fun r7 σ6 H locs hw hk => ?_)
    refine lv_icmp_ne (tgt := 24) hx hb dX6_can_17 (by decide) (fun c8 => ?_) (fun c8 => ?_)
    · replace hw := hw.2 c8
      refine lv_iconst (v := (0 : Int32)) hx hb dX6_can_24 (by decide) ?_
      exact k_zret X hk hw dX6_can_25
    · replace hw := hw.1 c8
      refine lv_iconst (v := (1 : Int32)) hx hb dX6_can_20 (by decide) ?_
      refine lv_goto (tgt := 25) hx hb dX6_can_21 (by decide) ?_
      exact k_zret X hk hw dX6_can_25
def rm_X6_quickestBelow : Room := { frames := 4, cells := 0, slots := 0, locals := 89 }
abbrev wz_X6_quickestBelow : List Cond := Cond.code yX6_quickestBelow cX6_quickestBelow 5 (some .int) :: wsA
theorem hd_X6_quickestBelow : yX6_quickestBelow.cls = RX6 ∧ yX6_quickestBelow.cls ≠ "java/lang/invoke/MethodHandle" ∧ yX6_quickestBelow.cls ≠ "java/lang/invoke/VarHandle" ∧ (parseMethodDescriptor yX6_quickestBelow.desc).map (fun d => d.parameters.length) = some 1 := by decide +kernel
def wp_X6_quickestBelow_63 (Q : Int32 → Sg → Prop) (K31 : Int32 → Int32 → Sg → Prop) (x2 x3 : Int32) (σ : Sg) : Prop := K31 x2 x3 σ
set_option maxHeartbeats 4000000 in
set_option maxRecDepth 100000 in
theorem t_X6_quickestBelow_63 {p : Program} {l : Launch} {e : Env} {s : State} {m : MethodId} {args : Array Value} {below : List Frame} {meth : Method} {c : Code} {G : Gw} (X : KC p m meth c cX6_quickestBelow 5 s args wz_X6_quickestBelow RX6 (some .int) G) (Q : Int32 → Sg → Prop) (K31 : Int32 → Int32 → Sg → Prop) (hK31 : ∀ (σ : Sg) (x2 x3 : Int32) (H : Heap) (locs : List Loc) (ls : Array Slot), K31 x2 x3 σ → WK G s H locs σ → lv_has ls 5 [(0, .ref (G.1 30)), (2, .int x2), (3, .int x3)] → W p l e rm_X6_quickestBelow s m args below meth c H locs 0 0 (ZI below args s G Q) (F0 m 31 ls [])) : ∀ (σ : Sg) (x2 x3 : Int32) (H : Heap) (locs : List Loc) (ls : Array Slot), wp_X6_quickestBelow_63 Q K31 x2 x3 σ → WK G s H locs σ → lv_has ls 5 [(0, .ref (G.1 30)), (2, .int x2), (3, .int x3)] → W p l e rm_X6_quickestBelow s m args below meth c H locs 0 0 (ZI below args s G Q) (F0 m 63 ls []) := by
  have hx := X.1.1
  have hb := X.1.2.1
  intro σ x2 x3 H locs ls hw hk hl
  unfold wp_X6_quickestBelow_63 at hw
  refine lv_goto (tgt := 31) hx hb dX6_quickestBelow_63 (by decide) ?_
  exact hK31 _ _ _ _ _ _ hw hk hl
def wp_X6_quickestBelow_31 (Q : Int32 → Sg → Prop)  : Nat → Int32 → Int32 → Sg → Prop
  | 0, _, _, _ => False
  | n + 1, x2, x3, σ => (x3 ≤ x2 → (Q x2 σ)) ∧ (¬ (x3 ≤ x2) → (∀ x4_11 : Int32, x4_11 = ((x2 + x3) / (2 : Int32)) → (wp_X6_can σ x4_11 (fun r13 σ12 => (r13 = 0 → (∀ x2_15 : Int32, x2_15 = (x4_11 + (1 : Int32)) → (wp_X6_quickestBelow_63 Q (fun z2 z3 σ => wp_X6_quickestBelow_31 Q  n z2 z3 σ) x2_15 x3 σ12))) ∧ (¬ (r13 = 0) → (wp_X6_quickestBelow_63 Q (fun z2 z3 σ => wp_X6_quickestBelow_31 Q  n z2 z3 σ) x2 x4_11 σ12))))))
set_option maxHeartbeats 4000000 in
set_option maxRecDepth 100000 in
theorem t_X6_quickestBelow_31 {p : Program} {l : Launch} {e : Env} {s : State} {m : MethodId} {args : Array Value} {below : List Frame} {meth : Method} {c : Code} {G : Gw} (X : KC p m meth c cX6_quickestBelow 5 s args wz_X6_quickestBelow RX6 (some .int) G) (Q : Int32 → Sg → Prop)  : ∀ (n : Nat) (σ : Sg) (x2 x3 : Int32) (H : Heap) (locs : List Loc) (ls : Array Slot), wp_X6_quickestBelow_31 Q  n x2 x3 σ → WK G s H locs σ → lv_has ls 5 [(0, .ref (G.1 30)), (2, .int x2), (3, .int x3)] → W p l e rm_X6_quickestBelow s m args below meth c H locs 0 0 (ZI below args s G Q) (F0 m 31 ls []) := by
  have hx := X.1.1
  have hb := X.1.2.1
  intro n
  induction n with
  | zero =>
    intro σ x2 x3 H locs ls hw hk hl
    exact False.elim hw
  | succ n ih =>
    intro σ x2 x3 H locs ls hw hk hl
    rw [wp_X6_quickestBelow_31] at hw
    refine lv_iload_n hx hb dX6_quickestBelow_31 rfl (lv_at hl 1 rfl) ?_
    refine lv_iload_n hx hb dX6_quickestBelow_32 rfl (lv_at hl 2 rfl) ?_
    refine lv_icmp_ge (tgt := 66) hx hb dX6_quickestBelow_33 (by decide) (fun c10 => ?_) (fun c10 => ?_)
    · replace hw := hw.1 c10
      refine lv_iload_n hx hb dX6_quickestBelow_66 rfl (lv_at hl 1 rfl) ?_
      exact k_iret X hk hw dX6_quickestBelow_67
    · replace hw := hw.2 c10
      refine lv_iload_n hx hb dX6_quickestBelow_36 rfl (lv_at hl 1 rfl) ?_
      refine lv_iload_n hx hb dX6_quickestBelow_37 rfl (lv_at hl 2 rfl) ?_
      refine lv_iadd hx hb dX6_quickestBelow_38 ?_
      refine lv_iconst (v := (2 : Int32)) hx hb dX6_quickestBelow_39 (by decide) ?_
      refine lv_idiv hx hb dX6_quickestBelow_40 (by decide) ?_
      refine lv_topi (fun x4_11 ex4_11 => ?_)
      replace hw := hw x4_11 ex4_11
      refine lv_istore (lv' := [(4, .int x4_11), (0, .ref (G.1 30)), (2, .int x2), (3, .int x3)]) hx hb dX6_quickestBelow_41 hl (Nat.le_of_ble_eq_true rfl) rfl (fun ls hl => ?_)
      refine lv_aload_n hx hb dX6_quickestBelow_43 rfl (lv_at hl 1 rfl) ?_
      refine lv_iload hx hb dX6_quickestBelow_44 (lv_at hl 0 rfl) ?_
      refine k_callVi (rest := []) X hk (c_X6_can l G _ _ _ hw) (cwV 1 X.1.2.2.2.2 (gzV (aw_r31 _ (List.mem_of_getElem? (i := 13) rfl)) (aw_r31 _ (List.mem_of_getElem? (i := 14) rfl)) (aw_r31 _ (List.mem_of_getElem? (i := 15) rfl)) (aw_r1 _ (List.mem_of_getElem? (i := 5) rfl)) (aw_r31 _ (List.mem_of_getElem? (i := 16) rfl))) rfl rfl rfl hd_X6_can ⟨(Nat.le_of_ble_eq_true rfl), (Nat.le_of_ble_eq_true rfl)⟩) (wg_30 G _) rfl rfl hl.1 rfl (Nat.le_of_ble_eq_true rfl) dX6_quickestBelow_46 ⟨Nat.zero_le _, Nat.zero_le _⟩ (fun r13 σ12 H locs hw hk => ?_)
      refine lv_if_eq (tgt := 58) hx hb dX6_quickestBelow_49 (by decide) (fun c14 => ?_) (fun c14 => ?_)
      · replace hw := hw.1 c14
        refine lv_iload hx hb dX6_quickestBelow_58 (lv_at hl 0 rfl) ?_
        refine lv_iconst (v := (1 : Int32)) hx hb dX6_quickestBelow_60 (by decide) ?_
        refine lv_iadd hx hb dX6_quickestBelow_61 ?_
        refine lv_topi (fun x2_15 ex2_15 => ?_)
        replace hw := hw x2_15 ex2_15
        refine lv_istore_n (lv' := [(2, .int x2_15), (4, .int x4_11), (0, .ref (G.1 30)), (3, .int x3)]) hx hb dX6_quickestBelow_62 rfl hl (Nat.le_of_ble_eq_true rfl) rfl (fun ls hl => ?_)
        exact t_X6_quickestBelow_63 X Q _ ih _ _ _ _ _ _ hw hk (lv_sub hl [2, 0, 3] rfl)
      · replace hw := hw.2 c14
        refine lv_iload hx hb dX6_quickestBelow_52 (lv_at hl 0 rfl) ?_
        refine lv_istore_n (lv' := [(3, .int x4_11), (4, .int x4_11), (0, .ref (G.1 30)), (2, .int x2)]) hx hb dX6_quickestBelow_54 rfl hl (Nat.le_of_ble_eq_true rfl) rfl (fun ls hl => ?_)
        refine lv_goto (tgt := 63) hx hb dX6_quickestBelow_55 (by decide) ?_
        exact t_X6_quickestBelow_63 X Q _ ih _ _ _ _ _ _ hw hk (lv_sub hl [2, 3, 0] rfl)
def wp_X6_quickestBelow (σ : Sg) (p1 : Int32) (Q : Int32 → Sg → Prop) : Prop := wp_X6_sum σ (0 : Int32) (fun r2 σ1 => wp_X6_sum σ1 (1 : Int32) (fun r4 σ3 => (r4 < r2 → (Q (-1 : Int32) σ3)) ∧ (¬ (r4 < r2) → (wp_X6_can σ3 (p1 - (1 : Int32)) (fun r7 σ6 => (r7 = 0 → (Q (-1 : Int32) σ6)) ∧ (¬ (r7 = 0) → (∀ x3_9 : Int32, x3_9 = (p1 - (1 : Int32)) → (∃ n0, wp_X6_quickestBelow_31 Q  n0 (0 : Int32) x3_9 σ6))))))))
set_option maxHeartbeats 4000000 in
set_option maxRecDepth 100000 in
theorem c_X6_quickestBelow (l : Launch) (G : Gw) (σ : Sg) (p1 : Int32) (Q : Int32 → Sg → Prop) (hw : wp_X6_quickestBelow σ p1 Q) : MetI l yX6_quickestBelow wz_X6_quickestBelow rm_X6_quickestBelow G σ [.ref (G.1 30), .int p1] Q := by
  refine MetI.of cX6_quickestBelow 5 (some .int) (by decide) rfl (Nat.le_of_ble_eq_true rfl) ?_
  intro p e s m below meth c X hk ls hl
  have X : KC p m meth c cX6_quickestBelow 5 s _ wz_X6_quickestBelow RX6 (some .int) G := X
  have hl : lv_has ls 5 [(0, .ref (G.1 30)), (1, .int p1)] := hl
  unfold wp_X6_quickestBelow at hw
  have hx := X.1.1
  have hb := X.1.2.1
  refine lv_aload_n hx hb dX6_quickestBelow_0 rfl (lv_at hl 0 rfl) ?_
  refine lv_iconst (v := (0 : Int32)) hx hb dX6_quickestBelow_1 (by decide) ?_
  refine k_callVi (rest := []) X hk (c_X6_sum l G _ _ _ hw) (cwV 1 X.1.2.2.2.2 (gzV (aw_r24 _ (List.mem_of_getElem? (i := 0) rfl)) (aw_r24 _ (List.mem_of_getElem? (i := 1) rfl)) (aw_r24 _ (List.mem_of_getElem? (i := 2) rfl)) (aw_r1 _ (List.mem_of_getElem? (i := 5) rfl)) (aw_r24 _ (List.mem_of_getElem? (i := 3) rfl))) rfl rfl rfl hd_X6_sum ⟨(Nat.le_of_ble_eq_true rfl), (Nat.le_of_ble_eq_true rfl)⟩) (wg_30 G _) rfl rfl hl.1 rfl (Nat.le_of_ble_eq_true rfl) dX6_quickestBelow_2 ⟨Nat.zero_le _, Nat.zero_le _⟩ (fun r2 σ1 H locs hw hk => ?_)
  refine lv_aload_n hx hb dX6_quickestBelow_5 rfl (lv_at hl 0 rfl) ?_
  refine lv_iconst (v := (1 : Int32)) hx hb dX6_quickestBelow_6 (by decide) ?_
  refine k_callVi (rest := [.int r2]) X hk (c_X6_sum l G _ _ _ hw) (cwV 1 X.1.2.2.2.2 (gzV (aw_r24 _ (List.mem_of_getElem? (i := 0) rfl)) (aw_r24 _ (List.mem_of_getElem? (i := 1) rfl)) (aw_r24 _ (List.mem_of_getElem? (i := 2) rfl)) (aw_r1 _ (List.mem_of_getElem? (i := 5) rfl)) (aw_r24 _ (List.mem_of_getElem? (i := 3) rfl))) rfl rfl rfl hd_X6_sum ⟨(Nat.le_of_ble_eq_true rfl), (Nat.le_of_ble_eq_true rfl)⟩) (wg_30 G _) rfl rfl hl.1 rfl (Nat.le_of_ble_eq_true rfl) dX6_quickestBelow_7 ⟨Nat.zero_le _, Nat.zero_le _⟩ (fun r4 σ3 H locs hw hk => ?_)
  refine lv_icmp_gt (tgt := 23) hx hb dX6_quickestBelow_10 (by decide) (fun c5 => ?_) (fun c5 => ?_)
  · replace hw := hw.1 c5
    refine lv_iconst (v := (-1 : Int32)) hx hb dX6_quickestBelow_23 (by decide) ?_
    exact k_iret X hk hw dX6_quickestBelow_24
  · replace hw := hw.2 c5
    refine lv_aload_n hx hb dX6_quickestBelow_13 rfl (lv_at hl 0 rfl) ?_
    refine lv_iload_n hx hb dX6_quickestBelow_14 rfl (lv_at hl 1 rfl) ?_
    refine lv_iconst (v := (1 : Int32)) hx hb dX6_quickestBelow_15 (by decide) ?_
    refine lv_isub hx hb dX6_quickestBelow_16 ?_
    refine k_callVi (rest := []) X hk (c_X6_can l G _ _ _ hw) (cwV 1 X.1.2.2.2.2 (gzV (aw_r31 _ (List.mem_of_getElem? (i := 13) rfl)) (aw_r31 _ (List.mem_of_getElem? (i := 14) rfl)) (aw_r31 _ (List.mem_of_getElem? (i := 15) rfl)) (aw_r1 _ (List.mem_of_getElem? (i := 5) rfl)) (aw_r31 _ (List.mem_of_getElem? (i := 16) rfl))) rfl rfl rfl hd_X6_can ⟨(Nat.le_of_ble_eq_true rfl), (Nat.le_of_ble_eq_true rfl)⟩) (wg_30 G _) rfl rfl hl.1 rfl (Nat.le_of_ble_eq_true rfl) dX6_quickestBelow_17 ⟨Nat.zero_le _, Nat.zero_le _⟩ (fun r7 σ6 H locs hw hk => ?_)
    refine lv_if_ne (tgt := 25) hx hb dX6_quickestBelow_20 (by decide) (fun c8 => ?_) (fun c8 => ?_)
    · replace hw := hw.2 c8
      refine lv_iconst (v := (0 : Int32)) hx hb dX6_quickestBelow_25 (by decide) ?_
      refine lv_istore_n (lv' := [(2, .int (0 : Int32)), (0, .ref (G.1 30)), (1, .int p1)]) hx hb dX6_quickestBelow_26 rfl hl (Nat.le_of_ble_eq_true rfl) rfl (fun ls hl => ?_)
      refine lv_iload_n hx hb dX6_quickestBelow_27 rfl (lv_at hl 2 rfl) ?_
      refine lv_iconst (v := (1 : Int32)) hx hb dX6_quickestBelow_28 (by decide) ?_
      refine lv_isub hx hb dX6_quickestBelow_29 ?_
      refine lv_topi (fun x3_9 ex3_9 => ?_)
      replace hw := hw x3_9 ex3_9
      refine lv_istore_n (lv' := [(3, .int x3_9), (2, .int (0 : Int32)), (0, .ref (G.1 30)), (1, .int p1)]) hx hb dX6_quickestBelow_30 rfl hl (Nat.le_of_ble_eq_true rfl) rfl (fun ls hl => ?_)
      obtain ⟨n0, hw⟩ := hw
      exact t_X6_quickestBelow_31 X Q   n0 _ _ _ _ _ _ hw hk (lv_sub hl [2, 1, 0] rfl)
    · replace hw := hw.1 c8
      refine lv_iconst (v := (-1 : Int32)) hx hb dX6_quickestBelow_23 (by decide) ?_
      exact k_iret X hk hw dX6_quickestBelow_24
def rm_X6_quickestNow : Room := { frames := 5, cells := 0, slots := 0, locals := 113 }
abbrev wz_X6_quickestNow : List Cond := Cond.code yX6_quickestNow cX6_quickestNow 1 (some .int) :: wsA
theorem hd_X6_quickestNow : yX6_quickestNow.cls = RX6 ∧ yX6_quickestNow.cls ≠ "java/lang/invoke/MethodHandle" ∧ yX6_quickestNow.cls ≠ "java/lang/invoke/VarHandle" ∧ (parseMethodDescriptor yX6_quickestNow.desc).map (fun d => d.parameters.length) = some 0 := by decide +kernel
def wp_X6_quickestNow (σ : Sg) (Q : Int32 → Sg → Prop) : Prop := wp_X6_quickestBelow σ (41 : Int32) (fun r2 σ1 => Q r2 σ1)
set_option maxHeartbeats 4000000 in
set_option maxRecDepth 100000 in
theorem c_X6_quickestNow (l : Launch) (G : Gw) (σ : Sg) (Q : Int32 → Sg → Prop) (hw : wp_X6_quickestNow σ  Q) : MetI l yX6_quickestNow wz_X6_quickestNow rm_X6_quickestNow G σ [.ref (G.1 30)] Q := by
  refine MetI.of cX6_quickestNow 1 (some .int) (by decide) rfl (Nat.le_of_ble_eq_true rfl) ?_
  intro p e s m below meth c X hk ls hl
  have X : KC p m meth c cX6_quickestNow 1 s _ wz_X6_quickestNow RX6 (some .int) G := X
  have hl : lv_has ls 1 [(0, .ref (G.1 30))] := hl
  unfold wp_X6_quickestNow at hw
  have hx := X.1.1
  have hb := X.1.2.1
  refine lv_aload_n hx hb dX6_quickestNow_0 rfl (lv_at hl 0 rfl) ?_
  refine lv_bipush (v := (41 : Int32)) hx hb dX6_quickestNow_1 (by decide) ?_
  refine k_callVi (rest := []) X hk (c_X6_quickestBelow l G _ _ _ hw) (cwV 1 X.1.2.2.2.2 (gzV (aw_r31 _ (List.mem_of_getElem? (i := 9) rfl)) (aw_r31 _ (List.mem_of_getElem? (i := 10) rfl)) (aw_r31 _ (List.mem_of_getElem? (i := 11) rfl)) (aw_r1 _ (List.mem_of_getElem? (i := 5) rfl)) (aw_r31 _ (List.mem_of_getElem? (i := 12) rfl))) rfl rfl rfl hd_X6_quickestBelow ⟨(Nat.le_of_ble_eq_true rfl), (Nat.le_of_ble_eq_true rfl)⟩) (wg_30 G _) rfl rfl hl.1 rfl (Nat.le_of_ble_eq_true rfl) dX6_quickestNow_3 ⟨Nat.zero_le _, Nat.zero_le _⟩ (fun r2 σ1 H locs hw hk => ?_)
  exact k_iret X hk hw dX6_quickestNow_6
def rm_X6_safe : Room := { frames := 3, cells := 0, slots := 0, locals := 68 }
abbrev wz_X6_safe : List Cond := Cond.code yX6_safe cX6_safe 2 (some .int) :: wsA
theorem hd_X6_safe : yX6_safe.cls = RX6 ∧ yX6_safe.cls ≠ "java/lang/invoke/MethodHandle" ∧ yX6_safe.cls ≠ "java/lang/invoke/VarHandle" ∧ (parseMethodDescriptor yX6_safe.desc).map (fun d => d.parameters.length) = some 1 := by decide +kernel
def wp_X6_safe (σ : Sg) (p1 : Int32) (Q : Int32 → Sg → Prop) : Prop := ∀ σ1 : Sg, σ1 = (put σ 30 0 (0 : Int32)) → (wp_X6_isMinute σ1 p1 (fun r3 σ2 => (r3 = 0 → (Q (-1 : Int32) σ2)) ∧ (¬ (r3 = 0) → (wp_X6_flows σ2 p1 (fun r6 σ5 => Q r6 σ5)))))
set_option maxHeartbeats 4000000 in
set_option maxRecDepth 100000 in
theorem c_X6_safe (l : Launch) (G : Gw) (σ : Sg) (p1 : Int32) (Q : Int32 → Sg → Prop) (hw : wp_X6_safe σ p1 Q) : MetI l yX6_safe wz_X6_safe rm_X6_safe G σ [.ref (G.1 30), .int p1] Q := by
  refine MetI.of cX6_safe 2 (some .int) (by decide) rfl (Nat.le_of_ble_eq_true rfl) ?_
  intro p e s m below meth c X hk ls hl
  have X : KC p m meth c cX6_safe 2 s _ wz_X6_safe RX6 (some .int) G := X
  have hl : lv_has ls 2 [(0, .ref (G.1 30)), (1, .int p1)] := hl
  unfold wp_X6_safe at hw
  have hx := X.1.1
  have hb := X.1.2.1
  refine lv_aload_n hx hb dX6_safe_0 rfl (lv_at hl 0 rfl) ?_
  refine lv_iconst (v := (0 : Int32)) hx hb dX6_safe_1 (by decide) ?_
  refine k_put 0 X hk (wg_30 G _) rfl (hz_wsX60 _) tyX6_ok nmX6 (Nat.le_of_ble_eq_true rfl) (List.mem_cons_of_mem _ (aw_r6 _ (List.mem_of_getElem? (i := 3) rfl))) rfl rfl (Nat.le_of_ble_eq_true rfl) (ws_30_0 G _ _) dX6_safe_2 (fun H locs hk => ?_)
  obtain ⟨σ1, eσ1⟩ : ∃ y : Sg, y = (put σ 30 0 (0 : Int32)) := ⟨_, rfl⟩
  rw [← eσ1] at hk
  replace hw := hw σ1 eσ1
  refine lv_iload_n hx hb dX6_safe_5 rfl (lv_at hl 1 rfl) ?_
  refine k_callSi (rest := []) X hk (c_X6_isMinute l G _ _ _ hw) (va_cwS 1 X.1.2.2.2.2 (gzS (aw_r28 _ (List.mem_of_getElem? (i := 15) rfl)) (aw_r28 _ (List.mem_of_getElem? (i := 16) rfl)) (aw_r1 _ (List.mem_of_getElem? (i := 5) rfl)) (aw_r28 _ (List.mem_of_getElem? (i := 17) rfl))) rfl rfl rfl hds_X6_isMinute ⟨(Nat.le_of_ble_eq_true rfl), (Nat.le_of_ble_eq_true rfl)⟩) rfl hl.1 rfl (Nat.le_of_ble_eq_true rfl) dX6_safe_6 ⟨Nat.zero_le _, Nat.zero_le _⟩ (fun r3 σ2 H locs hw hk => ?_)
  refine lv_if_eq (tgt := 20) hx hb dX6_safe_9 (by decide) (fun c4 => ?_) (fun c4 => ?_)
  · replace hw := hw.1 c4
    refine lv_iconst (v := (-1 : Int32)) hx hb dX6_safe_20 (by decide) ?_
    exact k_iret X hk hw dX6_safe_21
  · replace hw := hw.2 c4
    refine lv_aload_n hx hb dX6_safe_12 rfl (lv_at hl 0 rfl) ?_
    refine lv_iload_n hx hb dX6_safe_13 rfl (lv_at hl 1 rfl) ?_
    refine k_callVi (rest := []) X hk (c_X6_flows l G _ _ _ hw) (cwV 1 X.1.2.2.2.2 (gzV (aw_r28 _ (List.mem_of_getElem? (i := 18) rfl)) (aw_r28 _ (List.mem_of_getElem? (i := 19) rfl)) (aw_r28 _ (List.mem_of_getElem? (i := 20) rfl)) (aw_r1 _ (List.mem_of_getElem? (i := 5) rfl)) (aw_r28 _ (List.mem_of_getElem? (i := 21) rfl))) rfl rfl rfl hd_X6_flows ⟨(Nat.le_of_ble_eq_true rfl), (Nat.le_of_ble_eq_true rfl)⟩) (wg_30 G _) rfl rfl hl.1 rfl (Nat.le_of_ble_eq_true rfl) dX6_safe_14 ⟨Nat.zero_le _, Nat.zero_le _⟩ (fun r6 σ5 H locs hw hk => ?_)
    refine lv_goto (tgt := 21) hx hb dX6_safe_17 (by decide) ?_
    exact k_iret X hk hw dX6_safe_21
def rm_X6_quickest : Room := { frames := 6, cells := 0, slots := 0, locals := 133 }
abbrev wz_X6_quickest : List Cond := Cond.code yX6_quickest cX6_quickest 1 (some .int) :: wsA
theorem hd_X6_quickest : yX6_quickest.cls = RX6 ∧ yX6_quickest.cls ≠ "java/lang/invoke/MethodHandle" ∧ yX6_quickest.cls ≠ "java/lang/invoke/VarHandle" ∧ (parseMethodDescriptor yX6_quickest.desc).map (fun d => d.parameters.length) = some 0 := by decide +kernel
def wp_X6_quickest (σ : Sg) (Q : Int32 → Sg → Prop) : Prop := ∀ σ1 : Sg, σ1 = (put σ 30 0 (0 : Int32)) → (wp_X6_quickestNow σ1  (fun r3 σ2 => Q r3 σ2))
set_option maxHeartbeats 4000000 in
set_option maxRecDepth 100000 in
theorem c_X6_quickest (l : Launch) (G : Gw) (σ : Sg) (Q : Int32 → Sg → Prop) (hw : wp_X6_quickest σ  Q) : MetI l yX6_quickest wz_X6_quickest rm_X6_quickest G σ [.ref (G.1 30)] Q := by
  refine MetI.of cX6_quickest 1 (some .int) (by decide) rfl (Nat.le_of_ble_eq_true rfl) ?_
  intro p e s m below meth c X hk ls hl
  have X : KC p m meth c cX6_quickest 1 s _ wz_X6_quickest RX6 (some .int) G := X
  have hl : lv_has ls 1 [(0, .ref (G.1 30))] := hl
  unfold wp_X6_quickest at hw
  have hx := X.1.1
  have hb := X.1.2.1
  refine lv_aload_n hx hb dX6_quickest_0 rfl (lv_at hl 0 rfl) ?_
  refine lv_iconst (v := (0 : Int32)) hx hb dX6_quickest_1 (by decide) ?_
  refine k_put 0 X hk (wg_30 G _) rfl (hz_wsX60 _) tyX6_ok nmX6 (Nat.le_of_ble_eq_true rfl) (List.mem_cons_of_mem _ (aw_r6 _ (List.mem_of_getElem? (i := 3) rfl))) rfl rfl (Nat.le_of_ble_eq_true rfl) (ws_30_0 G _ _) dX6_quickest_2 (fun H locs hk => ?_)
  obtain ⟨σ1, eσ1⟩ : ∃ y : Sg, y = (put σ 30 0 (0 : Int32)) := ⟨_, rfl⟩
  rw [← eσ1] at hk
  replace hw := hw σ1 eσ1
  refine lv_aload_n hx hb dX6_quickest_5 rfl (lv_at hl 0 rfl) ?_
  refine k_callVi (rest := []) X hk (c_X6_quickestNow l G _  _ hw) (cwV 0 X.1.2.2.2.2 (gzV (aw_r31 _ (List.mem_of_getElem? (i := 5) rfl)) (aw_r31 _ (List.mem_of_getElem? (i := 6) rfl)) (aw_r31 _ (List.mem_of_getElem? (i := 7) rfl)) (aw_r1 _ (List.mem_of_getElem? (i := 5) rfl)) (aw_r31 _ (List.mem_of_getElem? (i := 8) rfl))) rfl rfl rfl hd_X6_quickestNow ⟨(Nat.le_of_ble_eq_true rfl), (Nat.le_of_ble_eq_true rfl)⟩) (wg_30 G _) rfl rfl hl.1 rfl (Nat.le_of_ble_eq_true rfl) dX6_quickest_6 ⟨Nat.zero_le _, Nat.zero_le _⟩ (fun r3 σ2 H locs hw hk => ?_)
  exact k_iret X hk hw dX6_quickest_9
def rm_X6_looksBack : Room := { frames := 0, cells := 0, slots := 0, locals := 0 }
abbrev wz_X6_looksBack : List Cond := Cond.code yX6_looksBack cX6_looksBack 4 none :: wsA
theorem hd_X6_looksBack : yX6_looksBack.cls = RX6 ∧ yX6_looksBack.cls ≠ "java/lang/invoke/MethodHandle" ∧ yX6_looksBack.cls ≠ "java/lang/invoke/VarHandle" ∧ (parseMethodDescriptor yX6_looksBack.desc).map (fun d => d.parameters.length) = some 0 := by decide +kernel
def wp_X6_looksBack_117 (Q : Sg → Prop) (K40 : Int32 → Int32 → Sg → Prop) (K57 : Int32 → Int32 → Int32 → Sg → Prop) (x1 x2 x3 : Int32) (σ : Sg) : Prop := vp_in x3 4000 ∧ (∀ x3_9 : Int32, x3_9 = (σ 35 (x3).toNatClampNeg) → (K57 x1 x2 x3_9 σ))
set_option maxHeartbeats 4000000 in
set_option maxRecDepth 100000 in
theorem t_X6_looksBack_117 {p : Program} {l : Launch} {e : Env} {s : State} {m : MethodId} {args : Array Value} {below : List Frame} {meth : Method} {c : Code} {G : Gw} (X : KC p m meth c cX6_looksBack 4 s args wz_X6_looksBack RX6 none G) (Q : Sg → Prop) (K40 : Int32 → Int32 → Sg → Prop) (K57 : Int32 → Int32 → Int32 → Sg → Prop) (hK40 : ∀ (σ : Sg) (x1 x2 : Int32) (H : Heap) (locs : List Loc) (ls : Array Slot), K40 x1 x2 σ → WK G s H locs σ → lv_has ls 4 [(0, .ref (G.1 30)), (1, .int x1), (2, .int x2)] → W p l e rm_X6_looksBack s m args below meth c H locs 0 0 (ZV below args s G Q) (F0 m 40 ls [])) (hK57 : ∀ (σ : Sg) (x1 x2 x3 : Int32) (H : Heap) (locs : List Loc) (ls : Array Slot), K57 x1 x2 x3 σ → WK G s H locs σ → lv_has ls 4 [(0, .ref (G.1 30)), (1, .int x1), (2, .int x2), (3, .int x3)] → W p l e rm_X6_looksBack s m args below meth c H locs 0 0 (ZV below args s G Q) (F0 m 57 ls [])) : ∀ (σ : Sg) (x1 x2 x3 : Int32) (H : Heap) (locs : List Loc) (ls : Array Slot), wp_X6_looksBack_117 Q K40 K57 x1 x2 x3 σ → WK G s H locs σ → lv_has ls 4 [(0, .ref (G.1 30)), (1, .int x1), (2, .int x2), (3, .int x3)] → W p l e rm_X6_looksBack s m args below meth c H locs 0 0 (ZV below args s G Q) (F0 m 117 ls []) := by
  have hx := X.1.1
  have hb := X.1.2.1
  intro σ x1 x2 x3 H locs ls hw hk hl
  unfold wp_X6_looksBack_117 at hw
  refine lv_aload_n hx hb dX6_looksBack_117 rfl (lv_at hl 0 rfl) ?_
  refine k_get 10 X hk (wg_30 G _) rfl (hz_wsX60 _) (Nat.le_of_ble_eq_true rfl) (List.mem_cons_of_mem _ (aw_r4 _ (List.mem_of_getElem? (i := 20) rfl))) rfl dX6_looksBack_118 ?_
  refine lv_iload_n hx hb dX6_looksBack_121 rfl (lv_at hl 3 rfl) ?_
  refine k_iald X hk (wg_35 G _) hw.1 dX6_looksBack_122 ?_
  replace hw := hw.2
  refine lv_topi (fun x3_9 ex3_9 => ?_)
  replace hw := hw x3_9 ex3_9
  refine lv_istore_n (lv' := [(3, .int x3_9), (0, .ref (G.1 30)), (1, .int x1), (2, .int x2)]) hx hb dX6_looksBack_123 rfl hl (Nat.le_of_ble_eq_true rfl) rfl (fun ls hl => ?_)
  refine lv_goto (tgt := 57) hx hb dX6_looksBack_124 (by decide) ?_
  exact hK57 _ _ _ _ _ _ _ hw hk (lv_sub hl [1, 2, 3, 0] rfl)
def wp_X6_looksBack_57 (Q : Sg → Prop) (K40 : Int32 → Int32 → Sg → Prop) : Nat → Int32 → Int32 → Int32 → Sg → Prop
  | 0, _, _, _, _ => False
  | n + 1, x1, x2, x3, σ => (x3 = (-1 : Int32) → (∀ x2_7 : Int32, x2_7 = (x2 + (1 : Int32)) → (K40 x1 x2_7 σ))) ∧ (¬ (x3 = (-1 : Int32)) → (vp_in (x3 ^^^ (1 : Int32)) 4000 ∧ (((σ 37 ((x3 ^^^ (1 : Int32))).toNatClampNeg) = 0 → (wp_X6_looksBack_117 Q K40 (fun z1 z2 z3 σ => wp_X6_looksBack_57 Q K40 n z1 z2 z3 σ) x1 x2 x3 σ)) ∧ (¬ ((σ 37 ((x3 ^^^ (1 : Int32))).toNatClampNeg) = 0) → (vp_in x3 4000 ∧ (vp_in (σ 36 (x3).toNatClampNeg) 346 ∧ (((σ 40 ((σ 36 (x3).toNatClampNeg)).toNatClampNeg) = 0 → (vp_in x3 4000 ∧ (vp_in (σ 36 (x3).toNatClampNeg) 346 ∧ (∀ σ11 : Sg, σ11 = (put σ 40 ((σ 36 (x3).toNatClampNeg)).toNatClampNeg (vp_nar .boolean (1 : Int32))) → (vp_in x3 4000 ∧ (vp_in x1 346 ∧ (∀ σ12 : Sg, σ12 = (put σ11 39 (x1).toNatClampNeg (σ11 36 (x3).toNatClampNeg)) → (∀ x1_13 : Int32, x1_13 = (x1 + (1 : Int32)) → (wp_X6_looksBack_117 Q K40 (fun z1 z2 z3 σ => wp_X6_looksBack_57 Q K40 n z1 z2 z3 σ) x1_13 x2 x3 σ12))))))))) ∧ (¬ ((σ 40 ((σ 36 (x3).toNatClampNeg)).toNatClampNeg) = 0) → (wp_X6_looksBack_117 Q K40 (fun z1 z2 z3 σ => wp_X6_looksBack_57 Q K40 n z1 z2 z3 σ) x1 x2 x3 σ)))))))))
set_option maxHeartbeats 4000000 in
set_option maxRecDepth 100000 in
theorem t_X6_looksBack_57 {p : Program} {l : Launch} {e : Env} {s : State} {m : MethodId} {args : Array Value} {below : List Frame} {meth : Method} {c : Code} {G : Gw} (X : KC p m meth c cX6_looksBack 4 s args wz_X6_looksBack RX6 none G) (Q : Sg → Prop) (K40 : Int32 → Int32 → Sg → Prop) (hK40 : ∀ (σ : Sg) (x1 x2 : Int32) (H : Heap) (locs : List Loc) (ls : Array Slot), K40 x1 x2 σ → WK G s H locs σ → lv_has ls 4 [(0, .ref (G.1 30)), (1, .int x1), (2, .int x2)] → W p l e rm_X6_looksBack s m args below meth c H locs 0 0 (ZV below args s G Q) (F0 m 40 ls [])) : ∀ (n : Nat) (σ : Sg) (x1 x2 x3 : Int32) (H : Heap) (locs : List Loc) (ls : Array Slot), wp_X6_looksBack_57 Q K40 n x1 x2 x3 σ → WK G s H locs σ → lv_has ls 4 [(0, .ref (G.1 30)), (1, .int x1), (2, .int x2), (3, .int x3)] → W p l e rm_X6_looksBack s m args below meth c H locs 0 0 (ZV below args s G Q) (F0 m 57 ls []) := by
  have hx := X.1.1
  have hb := X.1.2.1
  intro n
  induction n with
  | zero =>
    intro σ x1 x2 x3 H locs ls hw hk hl
    exact False.elim hw
  | succ n ih =>
    intro σ x1 x2 x3 H locs ls hw hk hl
    rw [wp_X6_looksBack_57] at hw
    refine lv_iload_n hx hb dX6_looksBack_57 rfl (lv_at hl 3 rfl) ?_
    refine lv_iconst (v := (-1 : Int32)) hx hb dX6_looksBack_58 (by decide) ?_
    refine lv_icmp_eq (tgt := 127) hx hb dX6_looksBack_59 (by decide) (fun c6 => ?_) (fun c6 => ?_)
    · replace hw := hw.1 c6
      obtain ⟨x2_7, ex2_7⟩ : ∃ y : Int32, y = (x2 + (1 : Int32)) := ⟨_, rfl⟩
      replace hw := hw x2_7 ex2_7
      refine lv_iinc (v := x2_7) (lv' := [(2, .int x2_7), (0, .ref (G.1 30)), (1, .int x1), (3, .int x3)]) hx hb dX6_looksBack_127 hl (k := 2) rfl (by rw [ex2_7]; rfl) (Nat.le_of_ble_eq_true rfl) rfl (fun ls hl => ?_)
      refine lv_goto (tgt := 40) hx hb dX6_looksBack_130 (by decide) ?_
      exact hK40 _ _ _ _ _ _ hw hk (lv_sub hl [1, 2, 0] rfl)
    · replace hw := hw.2 c6
      refine lv_aload_n hx hb dX6_looksBack_62 rfl (lv_at hl 0 rfl) ?_
      refine k_get 12 X hk (wg_30 G _) rfl (hz_wsX60 _) (Nat.le_of_ble_eq_true rfl) (List.mem_cons_of_mem _ (aw_r4 _ (List.mem_of_getElem? (i := 22) rfl))) rfl dX6_looksBack_63 ?_
      refine lv_iload_n hx hb dX6_looksBack_66 rfl (lv_at hl 3 rfl) ?_
      refine lv_iconst (v := (1 : Int32)) hx hb dX6_looksBack_67 (by decide) ?_
      refine lv_ixor hx hb dX6_looksBack_68 ?_
      refine k_iald X hk (wg_37 G _) hw.1 dX6_looksBack_69 ?_
      replace hw := hw.2
      refine lv_if_eq (tgt := 117) hx hb dX6_looksBack_70 (by decide) (fun c8 => ?_) (fun c8 => ?_)
      · replace hw := hw.1 c8
        exact t_X6_looksBack_117 X Q _ _ hK40 ih _ _ _ _ _ _ _ hw hk hl
      · replace hw := hw.2 c8
        refine lv_aload_n hx hb dX6_looksBack_73 rfl (lv_at hl 0 rfl) ?_
        refine k_get 15 X hk (wg_30 G _) rfl (hz_wsX60 _) (Nat.le_of_ble_eq_true rfl) (List.mem_cons_of_mem _ (aw_r5 _ (List.mem_of_getElem? (i := 2) rfl))) rfl dX6_looksBack_74 ?_
        refine lv_aload_n hx hb dX6_looksBack_77 rfl (lv_at hl 0 rfl) ?_
        refine k_get 11 X hk (wg_30 G _) rfl (hz_wsX60 _) (Nat.le_of_ble_eq_true rfl) (List.mem_cons_of_mem _ (aw_r4 _ (List.mem_of_getElem? (i := 21) rfl))) rfl dX6_looksBack_78 ?_
        refine lv_iload_n hx hb dX6_looksBack_81 rfl (lv_at hl 3 rfl) ?_
        refine k_iald X hk (wg_36 G _) hw.1 dX6_looksBack_82 ?_
        replace hw := hw.2
        refine k_zald X hk (wg_40 G _) hw.1 dX6_looksBack_83 ?_
        replace hw := hw.2
        refine lv_if_eq (tgt := 90) hx hb dX6_looksBack_84 (by decide) (fun c10 => ?_) (fun c10 => ?_)
        · replace hw := hw.1 c10
          refine lv_aload_n hx hb dX6_looksBack_90 rfl (lv_at hl 0 rfl) ?_
          refine k_get 15 X hk (wg_30 G _) rfl (hz_wsX60 _) (Nat.le_of_ble_eq_true rfl) (List.mem_cons_of_mem _ (aw_r5 _ (List.mem_of_getElem? (i := 2) rfl))) rfl dX6_looksBack_91 ?_
          refine lv_aload_n hx hb dX6_looksBack_94 rfl (lv_at hl 0 rfl) ?_
          refine k_get 11 X hk (wg_30 G _) rfl (hz_wsX60 _) (Nat.le_of_ble_eq_true rfl) (List.mem_cons_of_mem _ (aw_r4 _ (List.mem_of_getElem? (i := 21) rfl))) rfl dX6_looksBack_95 ?_
          refine lv_iload_n hx hb dX6_looksBack_98 rfl (lv_at hl 3 rfl) ?_
          refine k_iald X hk (wg_36 G _) hw.1 dX6_looksBack_99 ?_
          replace hw := hw.2
          refine lv_iconst (v := (1 : Int32)) hx hb dX6_looksBack_100 (by decide) ?_
          refine k_zast X hk (wg_40 G _) (ws_40 G _) rfl hw.1 dX6_looksBack_101 (fun H locs hk => ?_)
          replace hw := hw.2
          obtain ⟨σ11, eσ11⟩ : ∃ y : Sg, y = (put σ 40 ((σ 36 (x3).toNatClampNeg)).toNatClampNeg (vp_nar .boolean (1 : Int32))) := ⟨_, rfl⟩
          rw [← eσ11] at hk
          replace hw := hw σ11 eσ11
          refine lv_aload_n hx hb dX6_looksBack_102 rfl (lv_at hl 0 rfl) ?_
          refine k_get 14 X hk (wg_30 G _) rfl (hz_wsX60 _) (Nat.le_of_ble_eq_true rfl) (List.mem_cons_of_mem _ (aw_r5 _ (List.mem_of_getElem? (i := 0) rfl))) rfl dX6_looksBack_103 ?_
          refine lv_iload_n hx hb dX6_looksBack_106 rfl (lv_at hl 1 rfl) ?_
          refine lv_aload_n hx hb dX6_looksBack_107 rfl (lv_at hl 0 rfl) ?_
          refine k_get 11 X hk (wg_30 G _) rfl (hz_wsX60 _) (Nat.le_of_ble_eq_true rfl) (List.mem_cons_of_mem _ (aw_r4 _ (List.mem_of_getElem? (i := 21) rfl))) rfl dX6_looksBack_108 ?_
          refine lv_iload_n hx hb dX6_looksBack_111 rfl (lv_at hl 3 rfl) ?_
          refine k_iald X hk (wg_36 G _) hw.1 dX6_looksBack_112 ?_
          replace hw := hw.2
          refine k_iast X hk (wg_39 G _) (ws_39 G _) rfl hw.1 dX6_looksBack_113 (fun H locs hk => ?_)
          replace hw := hw.2
          obtain ⟨σ12, eσ12⟩ : ∃ y : Sg, y = (put σ11 39 (x1).toNatClampNeg (σ11 36 (x3).toNatClampNeg)) := ⟨_, rfl⟩
          rw [← eσ12] at hk
          replace hw := hw σ12 eσ12
          obtain ⟨x1_13, ex1_13⟩ : ∃ y : Int32, y = (x1 + (1 : Int32)) := ⟨_, rfl⟩
          replace hw := hw x1_13 ex1_13
          refine lv_iinc (v := x1_13) (lv' := [(1, .int x1_13), (0, .ref (G.1 30)), (2, .int x2), (3, .int x3)]) hx hb dX6_looksBack_114 hl (k := 1) rfl (by rw [ex1_13]; rfl) (Nat.le_of_ble_eq_true rfl) rfl (fun ls hl => ?_)
          exact t_X6_looksBack_117 X Q _ _ hK40 ih _ _ _ _ _ _ _ hw hk (lv_sub hl [1, 0, 2, 3] rfl)
        · replace hw := hw.2 c10
          refine lv_goto (tgt := 117) hx hb dX6_looksBack_87 (by decide) ?_
          exact t_X6_looksBack_117 X Q _ _ hK40 ih _ _ _ _ _ _ _ hw hk hl
def wp_X6_looksBack_40 (Q : Sg → Prop)  : Nat → Int32 → Int32 → Sg → Prop
  | 0, _, _, _ => False
  | n + 1, x1, x2, σ => (x1 ≤ x2 → (Q σ)) ∧ (¬ (x1 ≤ x2) → (vp_in x2 346 ∧ (vp_in (σ 39 (x2).toNatClampNeg) 346 ∧ (∀ x3_5 : Int32, x3_5 = (σ 34 ((σ 39 (x2).toNatClampNeg)).toNatClampNeg) → (∃ n0, wp_X6_looksBack_57 Q (fun z1 z2 σ => wp_X6_looksBack_40 Q  n z1 z2 σ) n0 x1 x2 x3_5 σ)))))
set_option maxHeartbeats 4000000 in
set_option maxRecDepth 100000 in
theorem t_X6_looksBack_40 {p : Program} {l : Launch} {e : Env} {s : State} {m : MethodId} {args : Array Value} {below : List Frame} {meth : Method} {c : Code} {G : Gw} (X : KC p m meth c cX6_looksBack 4 s args wz_X6_looksBack RX6 none G) (Q : Sg → Prop)  : ∀ (n : Nat) (σ : Sg) (x1 x2 : Int32) (H : Heap) (locs : List Loc) (ls : Array Slot), wp_X6_looksBack_40 Q  n x1 x2 σ → WK G s H locs σ → lv_has ls 4 [(0, .ref (G.1 30)), (1, .int x1), (2, .int x2)] → W p l e rm_X6_looksBack s m args below meth c H locs 0 0 (ZV below args s G Q) (F0 m 40 ls []) := by
  have hx := X.1.1
  have hb := X.1.2.1
  intro n
  induction n with
  | zero =>
    intro σ x1 x2 H locs ls hw hk hl
    exact False.elim hw
  | succ n ih =>
    intro σ x1 x2 H locs ls hw hk hl
    rw [wp_X6_looksBack_40] at hw
    refine lv_iload_n hx hb dX6_looksBack_40 rfl (lv_at hl 2 rfl) ?_
    refine lv_iload_n hx hb dX6_looksBack_41 rfl (lv_at hl 1 rfl) ?_
    refine lv_icmp_ge (tgt := 133) hx hb dX6_looksBack_42 (by decide) (fun c4 => ?_) (fun c4 => ?_)
    · replace hw := hw.1 c4
      exact k_vret X hk hw dX6_looksBack_133
    · replace hw := hw.2 c4
      refine lv_aload_n hx hb dX6_looksBack_45 rfl (lv_at hl 0 rfl) ?_
      refine k_get 9 X hk (wg_30 G _) rfl (hz_wsX60 _) (Nat.le_of_ble_eq_true rfl) (List.mem_cons_of_mem _ (aw_r4 _ (List.mem_of_getElem? (i := 19) rfl))) rfl dX6_looksBack_46 ?_
      refine lv_aload_n hx hb dX6_looksBack_49 rfl (lv_at hl 0 rfl) ?_
      refine k_get 14 X hk (wg_30 G _) rfl (hz_wsX60 _) (Nat.le_of_ble_eq_true rfl) (List.mem_cons_of_mem _ (aw_r5 _ (List.mem_of_getElem? (i := 0) rfl))) rfl dX6_looksBack_50 ?_
      refine lv_iload_n hx hb dX6_looksBack_53 rfl (lv_at hl 2 rfl) ?_
      refine k_iald X hk (wg_39 G _) hw.1 dX6_looksBack_54 ?_
      replace hw := hw.2
      refine k_iald X hk (wg_34 G _) hw.1 dX6_looksBack_55 ?_
      replace hw := hw.2
      refine lv_topi (fun x3_5 ex3_5 => ?_)
      replace hw := hw x3_5 ex3_5
      refine lv_istore_n (lv' := [(3, .int x3_5), (0, .ref (G.1 30)), (1, .int x1), (2, .int x2)]) hx hb dX6_looksBack_56 rfl hl (Nat.le_of_ble_eq_true rfl) rfl (fun ls hl => ?_)
      obtain ⟨n0, hw⟩ := hw
      exact t_X6_looksBack_57 X Q _ ih n0 _ _ _ _ _ _ _ hw hk (lv_sub hl [1, 2, 3, 0] rfl)
def wp_X6_looksBack_2 (Q : Sg → Prop)  : Nat → Int32 → Sg → Prop
  | 0, _, _ => False
  | n + 1, x1, σ => ((346 : Int32) ≤ x1 → (vp_in (1 : Int32) 346 ∧ (∀ σ2 : Sg, σ2 = (put σ 40 ((1 : Int32)).toNatClampNeg (vp_nar .boolean (1 : Int32))) → (vp_in (0 : Int32) 346 ∧ (∀ σ3 : Sg, σ3 = (put σ2 39 ((0 : Int32)).toNatClampNeg (1 : Int32)) → (∃ n0, wp_X6_looksBack_40 Q  n0 (1 : Int32) (0 : Int32) σ3)))))) ∧ (¬ ((346 : Int32) ≤ x1) → (vp_in x1 346 ∧ (∀ σ14 : Sg, σ14 = (put σ 40 (x1).toNatClampNeg (vp_nar .boolean (0 : Int32))) → (∀ x1_15 : Int32, x1_15 = (x1 + (1 : Int32)) → (wp_X6_looksBack_2 Q  n x1_15 σ14)))))
set_option maxHeartbeats 4000000 in
set_option maxRecDepth 100000 in
theorem t_X6_looksBack_2 {p : Program} {l : Launch} {e : Env} {s : State} {m : MethodId} {args : Array Value} {below : List Frame} {meth : Method} {c : Code} {G : Gw} (X : KC p m meth c cX6_looksBack 4 s args wz_X6_looksBack RX6 none G) (Q : Sg → Prop)  : ∀ (n : Nat) (σ : Sg) (x1 : Int32) (H : Heap) (locs : List Loc) (ls : Array Slot), wp_X6_looksBack_2 Q  n x1 σ → WK G s H locs σ → lv_has ls 4 [(0, .ref (G.1 30)), (1, .int x1)] → W p l e rm_X6_looksBack s m args below meth c H locs 0 0 (ZV below args s G Q) (F0 m 2 ls []) := by
  have hx := X.1.1
  have hb := X.1.2.1
  intro n
  induction n with
  | zero =>
    intro σ x1 H locs ls hw hk hl
    exact False.elim hw
  | succ n ih =>
    intro σ x1 H locs ls hw hk hl
    rw [wp_X6_looksBack_2] at hw
    refine lv_iload_n hx hb dX6_looksBack_2 rfl (lv_at hl 1 rfl) ?_
    refine lv_sipush (v := (346 : Int32)) hx hb dX6_looksBack_3 (by decide) ?_
    refine lv_icmp_ge (tgt := 22) hx hb dX6_looksBack_6 (by decide) (fun c1 => ?_) (fun c1 => ?_)
    · replace hw := hw.1 c1
      refine lv_aload_n hx hb dX6_looksBack_22 rfl (lv_at hl 0 rfl) ?_
      refine k_get 15 X hk (wg_30 G _) rfl (hz_wsX60 _) (Nat.le_of_ble_eq_true rfl) (List.mem_cons_of_mem _ (aw_r5 _ (List.mem_of_getElem? (i := 2) rfl))) rfl dX6_looksBack_23 ?_
      refine lv_iconst (v := (1 : Int32)) hx hb dX6_looksBack_26 (by decide) ?_
      refine lv_iconst (v := (1 : Int32)) hx hb dX6_looksBack_27 (by decide) ?_
      refine k_zast X hk (wg_40 G _) (ws_40 G _) rfl hw.1 dX6_looksBack_28 (fun H locs hk => ?_)
      replace hw := hw.2
      obtain ⟨σ2, eσ2⟩ : ∃ y : Sg, y = (put σ 40 ((1 : Int32)).toNatClampNeg (vp_nar .boolean (1 : Int32))) := ⟨_, rfl⟩
      rw [← eσ2] at hk
      replace hw := hw σ2 eσ2
      refine lv_aload_n hx hb dX6_looksBack_29 rfl (lv_at hl 0 rfl) ?_
      refine k_get 14 X hk (wg_30 G _) rfl (hz_wsX60 _) (Nat.le_of_ble_eq_true rfl) (List.mem_cons_of_mem _ (aw_r5 _ (List.mem_of_getElem? (i := 0) rfl))) rfl dX6_looksBack_30 ?_
      refine lv_iconst (v := (0 : Int32)) hx hb dX6_looksBack_33 (by decide) ?_
      refine lv_iconst (v := (1 : Int32)) hx hb dX6_looksBack_34 (by decide) ?_
      refine k_iast X hk (wg_39 G _) (ws_39 G _) rfl hw.1 dX6_looksBack_35 (fun H locs hk => ?_)
      replace hw := hw.2
      obtain ⟨σ3, eσ3⟩ : ∃ y : Sg, y = (put σ2 39 ((0 : Int32)).toNatClampNeg (1 : Int32)) := ⟨_, rfl⟩
      rw [← eσ3] at hk
      replace hw := hw σ3 eσ3
      refine lv_iconst (v := (1 : Int32)) hx hb dX6_looksBack_36 (by decide) ?_
      refine lv_istore_n (lv' := [(1, .int (1 : Int32)), (0, .ref (G.1 30))]) hx hb dX6_looksBack_37 rfl hl (Nat.le_of_ble_eq_true rfl) rfl (fun ls hl => ?_)
      refine lv_iconst (v := (0 : Int32)) hx hb dX6_looksBack_38 (by decide) ?_
      refine lv_istore_n (lv' := [(2, .int (0 : Int32)), (1, .int (1 : Int32)), (0, .ref (G.1 30))]) hx hb dX6_looksBack_39 rfl hl (Nat.le_of_ble_eq_true rfl) rfl (fun ls hl => ?_)
      obtain ⟨n0, hw⟩ := hw
      exact t_X6_looksBack_40 X Q   n0 _ _ _ _ _ _ hw hk (lv_sub hl [2, 1, 0] rfl)
    · replace hw := hw.2 c1
      refine lv_aload_n hx hb dX6_looksBack_9 rfl (lv_at hl 0 rfl) ?_
      refine k_get 15 X hk (wg_30 G _) rfl (hz_wsX60 _) (Nat.le_of_ble_eq_true rfl) (List.mem_cons_of_mem _ (aw_r5 _ (List.mem_of_getElem? (i := 2) rfl))) rfl dX6_looksBack_10 ?_
      refine lv_iload_n hx hb dX6_looksBack_13 rfl (lv_at hl 1 rfl) ?_
      refine lv_iconst (v := (0 : Int32)) hx hb dX6_looksBack_14 (by decide) ?_
      refine k_zast X hk (wg_40 G _) (ws_40 G _) rfl hw.1 dX6_looksBack_15 (fun H locs hk => ?_)
      replace hw := hw.2
      obtain ⟨σ14, eσ14⟩ : ∃ y : Sg, y = (put σ 40 (x1).toNatClampNeg (vp_nar .boolean (0 : Int32))) := ⟨_, rfl⟩
      rw [← eσ14] at hk
      replace hw := hw σ14 eσ14
      obtain ⟨x1_15, ex1_15⟩ : ∃ y : Int32, y = (x1 + (1 : Int32)) := ⟨_, rfl⟩
      replace hw := hw x1_15 ex1_15
      refine lv_iinc (v := x1_15) (lv' := [(1, .int x1_15), (0, .ref (G.1 30))]) hx hb dX6_looksBack_16 hl (k := 1) rfl (by rw [ex1_15]; rfl) (Nat.le_of_ble_eq_true rfl) rfl (fun ls hl => ?_)
      refine lv_goto (tgt := 2) hx hb dX6_looksBack_19 (by decide) ?_
      exact ih _ _ _ _ _ hw hk (lv_sub hl [1, 0] rfl)
def wp_X6_looksBack (σ : Sg) (Q : Sg → Prop) : Prop := ∃ n0, wp_X6_looksBack_2 Q  n0 (0 : Int32) σ
set_option maxHeartbeats 4000000 in
set_option maxRecDepth 100000 in
theorem c_X6_looksBack (l : Launch) (G : Gw) (σ : Sg) (Q : Sg → Prop) (hw : wp_X6_looksBack σ  Q) : MetV l yX6_looksBack wz_X6_looksBack rm_X6_looksBack G σ [.ref (G.1 30)] Q := by
  refine MetV.of cX6_looksBack 4 none (by decide) rfl (Nat.le_of_ble_eq_true rfl) ?_
  intro p e s m below meth c X hk ls hl
  have X : KC p m meth c cX6_looksBack 4 s _ wz_X6_looksBack RX6 none G := X
  have hl : lv_has ls 4 [(0, .ref (G.1 30))] := hl
  unfold wp_X6_looksBack at hw
  have hx := X.1.1
  have hb := X.1.2.1
  refine lv_iconst (v := (0 : Int32)) hx hb dX6_looksBack_0 (by decide) ?_
  refine lv_istore_n (lv' := [(1, .int (0 : Int32)), (0, .ref (G.1 30))]) hx hb dX6_looksBack_1 rfl hl (Nat.le_of_ble_eq_true rfl) rfl (fun ls hl => ?_)
  obtain ⟨n0, hw⟩ := hw
  exact t_X6_looksBack_2 X Q   n0 _ _ _ _ _ hw hk (lv_sub hl [1, 0] rfl)
def rm_X6_open : Room := { frames := 3, cells := 0, slots := 0, locals := 68 }
abbrev wz_X6_open : List Cond := Cond.code yX6_open cX6_open 5 (some .boolean) :: wsA
theorem hd_X6_open : yX6_open.cls = RX6 ∧ yX6_open.cls ≠ "java/lang/invoke/MethodHandle" ∧ yX6_open.cls ≠ "java/lang/invoke/VarHandle" ∧ (parseMethodDescriptor yX6_open.desc).map (fun d => d.parameters.length) = some 3 := by decide +kernel
def wp_X6_open (σ : Sg) (p1 p2 p3 : Int32) (Q : Int32 → Sg → Prop) : Prop := ∀ σ1 : Sg, σ1 = (put σ 30 0 (0 : Int32)) → (wp_X6_isMinute σ1 p1 (fun r3 σ2 => (r3 = 0 → (bz (0 : Int32) ∧ Q (0 : Int32) σ2)) ∧ (¬ (r3 = 0) → (wp_X6_isPlace σ2 p2 (fun r6 σ5 => (r6 = 0 → (bz (0 : Int32) ∧ Q (0 : Int32) σ5)) ∧ (¬ (r6 = 0) → (wp_X6_isIn σ5 p3 (0 : Int32) p1 (fun r9 σ8 => (r9 = 0 → (bz (0 : Int32) ∧ Q (0 : Int32) σ8)) ∧ (¬ (r9 = 0) → (wp_X6_flows σ8 p1 (fun r12 σ11 => wp_X6_looksBack σ11  (fun σ13 => wp_X6_node σ13 p2 p3 (fun r16 σ15 => vp_in r16 346 ∧ (bz (σ15 40 (r16).toNatClampNeg) ∧ Q (σ15 40 (r16).toNatClampNeg) σ15))))))))))))))
set_option maxHeartbeats 4000000 in
set_option maxRecDepth 100000 in
theorem c_X6_open (l : Launch) (G : Gw) (σ : Sg) (p1 p2 p3 : Int32) (Q : Int32 → Sg → Prop) (hw : wp_X6_open σ p1 p2 p3 Q) : MetI l yX6_open wz_X6_open rm_X6_open G σ [.ref (G.1 30), .int p1, .int p2, .int p3] Q := by
  refine MetI.of cX6_open 5 (some .boolean) (by decide) rfl (Nat.le_of_ble_eq_true rfl) ?_
  intro p e s m below meth c X hk ls hl
  have X : KC p m meth c cX6_open 5 s _ wz_X6_open RX6 (some .boolean) G := X
  have hl : lv_has ls 5 [(0, .ref (G.1 30)), (1, .int p1), (2, .int p2), (3, .int p3)] := hl
  unfold wp_X6_open at hw
  have hx := X.1.1
  have hb := X.1.2.1
  refine lv_aload_n hx hb dX6_open_0 rfl (lv_at hl 0 rfl) ?_
  refine lv_iconst (v := (0 : Int32)) hx hb dX6_open_1 (by decide) ?_
  refine k_put 0 X hk (wg_30 G _) rfl (hz_wsX60 _) tyX6_ok nmX6 (Nat.le_of_ble_eq_true rfl) (List.mem_cons_of_mem _ (aw_r6 _ (List.mem_of_getElem? (i := 3) rfl))) rfl rfl (Nat.le_of_ble_eq_true rfl) (ws_30_0 G _ _) dX6_open_2 (fun H locs hk => ?_)
  obtain ⟨σ1, eσ1⟩ : ∃ y : Sg, y = (put σ 30 0 (0 : Int32)) := ⟨_, rfl⟩
  rw [← eσ1] at hk
  replace hw := hw σ1 eσ1
  refine lv_iload_n hx hb dX6_open_5 rfl (lv_at hl 1 rfl) ?_
  refine k_callSi (rest := []) X hk (c_X6_isMinute l G _ _ _ hw) (va_cwS 1 X.1.2.2.2.2 (gzS (aw_r28 _ (List.mem_of_getElem? (i := 15) rfl)) (aw_r28 _ (List.mem_of_getElem? (i := 16) rfl)) (aw_r1 _ (List.mem_of_getElem? (i := 5) rfl)) (aw_r28 _ (List.mem_of_getElem? (i := 17) rfl))) rfl rfl rfl hds_X6_isMinute ⟨(Nat.le_of_ble_eq_true rfl), (Nat.le_of_ble_eq_true rfl)⟩) rfl hl.1 rfl (Nat.le_of_ble_eq_true rfl) dX6_open_6 ⟨Nat.zero_le _, Nat.zero_le _⟩ (fun r3 σ2 H locs hw hk => ?_)
  refine lv_if_eq (tgt := 29) hx hb dX6_open_9 (by decide) (fun c4 => ?_) (fun c4 => ?_)
  · replace hw := hw.1 c4
    refine lv_iconst (v := (0 : Int32)) hx hb dX6_open_29 (by decide) ?_
    exact k_zret X hk hw dX6_open_30
  · replace hw := hw.2 c4
    refine lv_aload_n hx hb dX6_open_12 rfl (lv_at hl 0 rfl) ?_
    refine lv_iload_n hx hb dX6_open_13 rfl (lv_at hl 2 rfl) ?_
    refine k_callVi (rest := []) X hk (c_X6_isPlace l G _ _ _ hw) (cwV 1 X.1.2.2.2.2 (gzV (aw_r20 _ (List.mem_of_getElem? (i := 0) rfl)) (aw_r20 _ (List.mem_of_getElem? (i := 1) rfl)) (aw_r20 _ (List.mem_of_getElem? (i := 2) rfl)) (aw_r1 _ (List.mem_of_getElem? (i := 5) rfl)) (aw_r20 _ (List.mem_of_getElem? (i := 3) rfl))) rfl rfl rfl hd_X6_isPlace ⟨(Nat.le_of_ble_eq_true rfl), (Nat.le_of_ble_eq_true rfl)⟩) (wg_30 G _) rfl rfl hl.1 rfl (Nat.le_of_ble_eq_true rfl) dX6_open_14 ⟨Nat.zero_le _, Nat.zero_le _⟩ (fun r6 σ5 H locs hw hk => ?_)
    refine lv_if_eq (tgt := 29) hx hb dX6_open_17 (by decide) (fun c7 => ?_) (fun c7 => ?_)
    · replace hw := hw.1 c7
      refine lv_iconst (v := (0 : Int32)) hx hb dX6_open_29 (by decide) ?_
      exact k_zret X hk hw dX6_open_30
    · replace hw := hw.2 c7
      refine lv_iload_n hx hb dX6_open_20 rfl (lv_at hl 3 rfl) ?_
      refine lv_iconst (v := (0 : Int32)) hx hb dX6_open_21 (by decide) ?_
      refine lv_iload_n hx hb dX6_open_22 rfl (lv_at hl 1 rfl) ?_
      refine k_callSi (rest := []) X hk (c_X6_isIn l G _ _ _ _ _ hw) (va_cwS 3 X.1.2.2.2.2 (gzS (aw_r6 _ (List.mem_of_getElem? (i := 17) rfl)) (aw_r6 _ (List.mem_of_getElem? (i := 18) rfl)) (aw_r1 _ (List.mem_of_getElem? (i := 5) rfl)) (aw_r6 _ (List.mem_of_getElem? (i := 19) rfl))) rfl rfl rfl hds_X6_isIn ⟨(Nat.le_of_ble_eq_true rfl), (Nat.le_of_ble_eq_true rfl)⟩) rfl hl.1 rfl (Nat.le_of_ble_eq_true rfl) dX6_open_23 ⟨Nat.zero_le _, Nat.zero_le _⟩ (fun r9 σ8 H locs hw hk => ?_)
      refine lv_if_ne (tgt := 31) hx hb dX6_open_26 (by decide) (fun c10 => ?_) (fun c10 => ?_)
      · replace hw := hw.2 c10
        refine lv_aload_n hx hb dX6_open_31 rfl (lv_at hl 0 rfl) ?_
        refine lv_iload_n hx hb dX6_open_32 rfl (lv_at hl 1 rfl) ?_
        refine k_callVi (rest := []) X hk (c_X6_flows l G _ _ _ hw) (cwV 1 X.1.2.2.2.2 (gzV (aw_r28 _ (List.mem_of_getElem? (i := 18) rfl)) (aw_r28 _ (List.mem_of_getElem? (i := 19) rfl)) (aw_r28 _ (List.mem_of_getElem? (i := 20) rfl)) (aw_r1 _ (List.mem_of_getElem? (i := 5) rfl)) (aw_r28 _ (List.mem_of_getElem? (i := 21) rfl))) rfl rfl rfl hd_X6_flows ⟨(Nat.le_of_ble_eq_true rfl), (Nat.le_of_ble_eq_true rfl)⟩) (wg_30 G _) rfl rfl hl.1 rfl (Nat.le_of_ble_eq_true rfl) dX6_open_33 ⟨Nat.zero_le _, Nat.zero_le _⟩ (fun r12 σ11 H locs hw hk => ?_)
        refine lv_istore (lv' := [(4, .int r12), (0, .ref (G.1 30)), (1, .int p1), (2, .int p2), (3, .int p3)]) hx hb dX6_open_36 hl (Nat.le_of_ble_eq_true rfl) rfl (fun ls hl => ?_)
        refine lv_aload_n hx hb dX6_open_38 rfl (lv_at hl 1 rfl) ?_
        refine k_callVv (rest := []) X hk (c_X6_looksBack l G _  _ hw) (cwV 0 X.1.2.2.2.2 (gzV (aw_r32 _ (List.mem_of_getElem? (i := 9) rfl)) (aw_r32 _ (List.mem_of_getElem? (i := 10) rfl)) (aw_r32 _ (List.mem_of_getElem? (i := 11) rfl)) (aw_r1 _ (List.mem_of_getElem? (i := 5) rfl)) (aw_r32 _ (List.mem_of_getElem? (i := 12) rfl))) rfl rfl rfl hd_X6_looksBack ⟨(Nat.le_of_ble_eq_true rfl), (Nat.le_of_ble_eq_true rfl)⟩) (wg_30 G _) rfl rfl hl.1 rfl (Nat.le_of_ble_eq_true rfl) dX6_open_39 ⟨Nat.zero_le _, Nat.zero_le _⟩ (fun σ13 H locs hw hk => ?_)
        refine lv_aload_n hx hb dX6_open_42 rfl (lv_at hl 1 rfl) ?_
        refine k_get 15 X hk (wg_30 G _) rfl (hz_wsX60 _) (Nat.le_of_ble_eq_true rfl) (List.mem_cons_of_mem _ (aw_r5 _ (List.mem_of_getElem? (i := 2) rfl))) rfl dX6_open_43 ?_
        refine lv_iload_n hx hb dX6_open_46 rfl (lv_at hl 3 rfl) ?_
        refine lv_iload_n hx hb dX6_open_47 rfl (lv_at hl 4 rfl) ?_
        refine k_callSi (rest := [.ref (G.1 40)]) X hk (c_X6_node l G _ _ _ _ hw) (va_cwS 2 X.1.2.2.2.2 (gzS (aw_r29 _ (List.mem_of_getElem? (i := 8) rfl)) (aw_r29 _ (List.mem_of_getElem? (i := 9) rfl)) (aw_r1 _ (List.mem_of_getElem? (i := 5) rfl)) (aw_r29 _ (List.mem_of_getElem? (i := 10) rfl))) rfl rfl rfl hds_X6_node ⟨(Nat.le_of_ble_eq_true rfl), (Nat.le_of_ble_eq_true rfl)⟩) rfl hl.1 rfl (Nat.le_of_ble_eq_true rfl) dX6_open_48 ⟨Nat.zero_le _, Nat.zero_le _⟩ (fun r16 σ15 H locs hw hk => ?_)
        refine k_zald X hk (wg_40 G _) hw.1 dX6_open_51 ?_
        replace hw := hw.2
        exact k_zret X hk hw dX6_open_52
      · replace hw := hw.1 c10
        refine lv_iconst (v := (0 : Int32)) hx hb dX6_open_29 (by decide) ?_
        exact k_zret X hk hw dX6_open_30
def rm_X6_openings : Room := { frames := 3, cells := 0, slots := 0, locals := 68 }
abbrev wz_X6_openings : List Cond := Cond.code yX6_openings cX6_openings 6 (some .int) :: wsA
theorem hd_X6_openings : yX6_openings.cls = RX6 ∧ yX6_openings.cls ≠ "java/lang/invoke/MethodHandle" ∧ yX6_openings.cls ≠ "java/lang/invoke/VarHandle" ∧ (parseMethodDescriptor yX6_openings.desc).map (fun d => d.parameters.length) = some 2 := by decide +kernel
def wp_X6_openings_65 (Q : Int32 → Sg → Prop) (K38 : Int32 → Int32 → Int32 → Int32 → Sg → Prop) (x1 x2 x5 y0 y1 : Int32) (σ : Sg) : Prop := ∀ x4_16 : Int32, x4_16 = (y0 + y1) → (∀ x5_17 : Int32, x5_17 = (x5 + (1 : Int32)) → (K38 x1 x2 x4_16 x5_17 σ))
set_option maxHeartbeats 4000000 in
set_option maxRecDepth 100000 in
theorem t_X6_openings_65 {p : Program} {l : Launch} {e : Env} {s : State} {m : MethodId} {args : Array Value} {below : List Frame} {meth : Method} {c : Code} {G : Gw} (X : KC p m meth c cX6_openings 6 s args wz_X6_openings RX6 (some .int) G) (Q : Int32 → Sg → Prop) (K38 : Int32 → Int32 → Int32 → Int32 → Sg → Prop) (hK38 : ∀ (σ : Sg) (x1 x2 x4 x5 : Int32) (H : Heap) (locs : List Loc) (ls : Array Slot), K38 x1 x2 x4 x5 σ → WK G s H locs σ → lv_has ls 6 [(0, .ref (G.1 30)), (1, .int x1), (2, .int x2), (4, .int x4), (5, .int x5)] → W p l e rm_X6_openings s m args below meth c H locs 0 0 (ZI below args s G Q) (F0 m 38 ls [])) : ∀ (σ : Sg) (x1 x2 x5 y0 y1 : Int32) (H : Heap) (locs : List Loc) (ls : Array Slot), wp_X6_openings_65 Q K38 x1 x2 x5 y0 y1 σ → WK G s H locs σ → lv_has ls 6 [(0, .ref (G.1 30)), (1, .int x1), (2, .int x2), (5, .int x5)] → W p l e rm_X6_openings s m args below meth c H locs 0 0 (ZI below args s G Q) (F0 m 65 ls [.int y1, .int y0]) := by
  have hx := X.1.1
  have hb := X.1.2.1
  intro σ x1 x2 x5 y0 y1 H locs ls hw hk hl
  unfold wp_X6_openings_65 at hw
  refine lv_iadd hx hb dX6_openings_65 ?_
  refine lv_topi (fun x4_16 ex4_16 => ?_)
  replace hw := hw x4_16 ex4_16
  refine lv_istore (lv' := [(4, .int x4_16), (0, .ref (G.1 30)), (1, .int x1), (2, .int x2), (5, .int x5)]) hx hb dX6_openings_66 hl (Nat.le_of_ble_eq_true rfl) rfl (fun ls hl => ?_)
  obtain ⟨x5_17, ex5_17⟩ : ∃ y : Int32, y = (x5 + (1 : Int32)) := ⟨_, rfl⟩
  replace hw := hw x5_17 ex5_17
  refine lv_iinc (v := x5_17) (lv' := [(5, .int x5_17), (4, .int x4_16), (0, .ref (G.1 30)), (1, .int x1), (2, .int x2)]) hx hb dX6_openings_68 hl (k := 4) rfl (by rw [ex5_17]; rfl) (Nat.le_of_ble_eq_true rfl) rfl (fun ls hl => ?_)
  refine lv_goto (tgt := 38) hx hb dX6_openings_71 (by decide) ?_
  exact hK38 _ _ _ _ _ _ _ _ hw hk (lv_sub hl [2, 3, 4, 1, 0] rfl)
def wp_X6_openings_38 (Q : Int32 → Sg → Prop)  : Nat → Int32 → Int32 → Int32 → Int32 → Sg → Prop
  | 0, _, _, _, _, _ => False
  | n + 1, x1, x2, x4, x5, σ => (x1 < x5 → (Q x4 σ)) ∧ (¬ (x1 < x5) → (wp_X6_node σ x2 x5 (fun r14 σ13 => vp_in r14 346 ∧ (((σ13 40 (r14).toNatClampNeg) = 0 → (wp_X6_openings_65 Q (fun z1 z2 z4 z5 σ => wp_X6_openings_38 Q  n z1 z2 z4 z5 σ) x1 x2 x5 x4 (0 : Int32) σ13)) ∧ (¬ ((σ13 40 (r14).toNatClampNeg) = 0) → (wp_X6_openings_65 Q (fun z1 z2 z4 z5 σ => wp_X6_openings_38 Q  n z1 z2 z4 z5 σ) x1 x2 x5 x4 (1 : Int32) σ13))))))
set_option maxHeartbeats 4000000 in
set_option maxRecDepth 100000 in
theorem t_X6_openings_38 {p : Program} {l : Launch} {e : Env} {s : State} {m : MethodId} {args : Array Value} {below : List Frame} {meth : Method} {c : Code} {G : Gw} (X : KC p m meth c cX6_openings 6 s args wz_X6_openings RX6 (some .int) G) (Q : Int32 → Sg → Prop)  : ∀ (n : Nat) (σ : Sg) (x1 x2 x4 x5 : Int32) (H : Heap) (locs : List Loc) (ls : Array Slot), wp_X6_openings_38 Q  n x1 x2 x4 x5 σ → WK G s H locs σ → lv_has ls 6 [(0, .ref (G.1 30)), (1, .int x1), (2, .int x2), (4, .int x4), (5, .int x5)] → W p l e rm_X6_openings s m args below meth c H locs 0 0 (ZI below args s G Q) (F0 m 38 ls []) := by
  have hx := X.1.1
  have hb := X.1.2.1
  intro n
  induction n with
  | zero =>
    intro σ x1 x2 x4 x5 H locs ls hw hk hl
    exact False.elim hw
  | succ n ih =>
    intro σ x1 x2 x4 x5 H locs ls hw hk hl
    rw [wp_X6_openings_38] at hw
    refine lv_iload hx hb dX6_openings_38 (lv_at hl 4 rfl) ?_
    refine lv_iload_n hx hb dX6_openings_40 rfl (lv_at hl 1 rfl) ?_
    refine lv_icmp_gt (tgt := 74) hx hb dX6_openings_41 (by decide) (fun c12 => ?_) (fun c12 => ?_)
    · replace hw := hw.1 c12
      refine lv_iload hx hb dX6_openings_74 (lv_at hl 3 rfl) ?_
      exact k_iret X hk hw dX6_openings_76
    · replace hw := hw.2 c12
      refine lv_iload hx hb dX6_openings_44 (lv_at hl 3 rfl) ?_
      refine lv_aload_n hx hb dX6_openings_46 rfl (lv_at hl 0 rfl) ?_
      refine k_get 15 X hk (wg_30 G _) rfl (hz_wsX60 _) (Nat.le_of_ble_eq_true rfl) (List.mem_cons_of_mem _ (aw_r5 _ (List.mem_of_getElem? (i := 2) rfl))) rfl dX6_openings_47 ?_
      refine lv_iload_n hx hb dX6_openings_50 rfl (lv_at hl 2 rfl) ?_
      refine lv_iload hx hb dX6_openings_51 (lv_at hl 4 rfl) ?_
      refine k_callSi (rest := [.ref (G.1 40), .int x4]) X hk (c_X6_node l G _ _ _ _ hw) (va_cwS 2 X.1.2.2.2.2 (gzS (aw_r29 _ (List.mem_of_getElem? (i := 8) rfl)) (aw_r29 _ (List.mem_of_getElem? (i := 9) rfl)) (aw_r1 _ (List.mem_of_getElem? (i := 5) rfl)) (aw_r29 _ (List.mem_of_getElem? (i := 10) rfl))) rfl rfl rfl hds_X6_node ⟨(Nat.le_of_ble_eq_true rfl), (Nat.le_of_ble_eq_true rfl)⟩) rfl hl.1 rfl (Nat.le_of_ble_eq_true rfl) dX6_openings_53 ⟨Nat.zero_le _, Nat.zero_le _⟩ (fun r14 σ13 H locs hw hk => ?_)
      refine k_zald X hk (wg_40 G _) hw.1 dX6_openings_56 ?_
      replace hw := hw.2
      refine lv_if_eq (tgt := 64) hx hb dX6_openings_57 (by decide) (fun c15 => ?_) (fun c15 => ?_)
      · replace hw := hw.1 c15
        refine lv_iconst (v := (0 : Int32)) hx hb dX6_openings_64 (by decide) ?_
        exact t_X6_openings_65 X Q _ ih _ _ _ _ _ _ _ _ _ hw hk (lv_sub hl [0, 1, 2, 4] rfl)
      · replace hw := hw.2 c15
        refine lv_iconst (v := (1 : Int32)) hx hb dX6_openings_60 (by decide) ?_
        refine lv_goto (tgt := 65) hx hb dX6_openings_61 (by decide) ?_
        exact t_X6_openings_65 X Q _ ih _ _ _ _ _ _ _ _ _ hw hk (lv_sub hl [0, 1, 2, 4] rfl)
def wp_X6_openings (σ : Sg) (p1 p2 : Int32) (Q : Int32 → Sg → Prop) : Prop := ∀ σ1 : Sg, σ1 = (put σ 30 0 (0 : Int32)) → (wp_X6_isMinute σ1 p1 (fun r3 σ2 => (r3 = 0 → (Q (-1 : Int32) σ2)) ∧ (¬ (r3 = 0) → (wp_X6_isPlace σ2 p2 (fun r6 σ5 => (r6 = 0 → (Q (-1 : Int32) σ5)) ∧ (¬ (r6 = 0) → (wp_X6_flows σ5 p1 (fun r9 σ8 => wp_X6_looksBack σ8  (fun σ10 => ∃ n0, wp_X6_openings_38 Q  n0 p1 p2 (0 : Int32) (0 : Int32) σ10)))))))))
set_option maxHeartbeats 4000000 in
set_option maxRecDepth 100000 in
theorem c_X6_openings (l : Launch) (G : Gw) (σ : Sg) (p1 p2 : Int32) (Q : Int32 → Sg → Prop) (hw : wp_X6_openings σ p1 p2 Q) : MetI l yX6_openings wz_X6_openings rm_X6_openings G σ [.ref (G.1 30), .int p1, .int p2] Q := by
  refine MetI.of cX6_openings 6 (some .int) (by decide) rfl (Nat.le_of_ble_eq_true rfl) ?_
  intro p e s m below meth c X hk ls hl
  have X : KC p m meth c cX6_openings 6 s _ wz_X6_openings RX6 (some .int) G := X
  have hl : lv_has ls 6 [(0, .ref (G.1 30)), (1, .int p1), (2, .int p2)] := hl
  unfold wp_X6_openings at hw
  have hx := X.1.1
  have hb := X.1.2.1
  refine lv_aload_n hx hb dX6_openings_0 rfl (lv_at hl 0 rfl) ?_
  refine lv_iconst (v := (0 : Int32)) hx hb dX6_openings_1 (by decide) ?_
  refine k_put 0 X hk (wg_30 G _) rfl (hz_wsX60 _) tyX6_ok nmX6 (Nat.le_of_ble_eq_true rfl) (List.mem_cons_of_mem _ (aw_r6 _ (List.mem_of_getElem? (i := 3) rfl))) rfl rfl (Nat.le_of_ble_eq_true rfl) (ws_30_0 G _ _) dX6_openings_2 (fun H locs hk => ?_)
  obtain ⟨σ1, eσ1⟩ : ∃ y : Sg, y = (put σ 30 0 (0 : Int32)) := ⟨_, rfl⟩
  rw [← eσ1] at hk
  replace hw := hw σ1 eσ1
  refine lv_iload_n hx hb dX6_openings_5 rfl (lv_at hl 1 rfl) ?_
  refine k_callSi (rest := []) X hk (c_X6_isMinute l G _ _ _ hw) (va_cwS 1 X.1.2.2.2.2 (gzS (aw_r28 _ (List.mem_of_getElem? (i := 15) rfl)) (aw_r28 _ (List.mem_of_getElem? (i := 16) rfl)) (aw_r1 _ (List.mem_of_getElem? (i := 5) rfl)) (aw_r28 _ (List.mem_of_getElem? (i := 17) rfl))) rfl rfl rfl hds_X6_isMinute ⟨(Nat.le_of_ble_eq_true rfl), (Nat.le_of_ble_eq_true rfl)⟩) rfl hl.1 rfl (Nat.le_of_ble_eq_true rfl) dX6_openings_6 ⟨Nat.zero_le _, Nat.zero_le _⟩ (fun r3 σ2 H locs hw hk => ?_)
  refine lv_if_eq (tgt := 20) hx hb dX6_openings_9 (by decide) (fun c4 => ?_) (fun c4 => ?_)
  · replace hw := hw.1 c4
    refine lv_iconst (v := (-1 : Int32)) hx hb dX6_openings_20 (by decide) ?_
    exact k_iret X hk hw dX6_openings_21
  · replace hw := hw.2 c4
    refine lv_aload_n hx hb dX6_openings_12 rfl (lv_at hl 0 rfl) ?_
    refine lv_iload_n hx hb dX6_openings_13 rfl (lv_at hl 2 rfl) ?_
    refine k_callVi (rest := []) X hk (c_X6_isPlace l G _ _ _ hw) (cwV 1 X.1.2.2.2.2 (gzV (aw_r20 _ (List.mem_of_getElem? (i := 0) rfl)) (aw_r20 _ (List.mem_of_getElem? (i := 1) rfl)) (aw_r20 _ (List.mem_of_getElem? (i := 2) rfl)) (aw_r1 _ (List.mem_of_getElem? (i := 5) rfl)) (aw_r20 _ (List.mem_of_getElem? (i := 3) rfl))) rfl rfl rfl hd_X6_isPlace ⟨(Nat.le_of_ble_eq_true rfl), (Nat.le_of_ble_eq_true rfl)⟩) (wg_30 G _) rfl rfl hl.1 rfl (Nat.le_of_ble_eq_true rfl) dX6_openings_14 ⟨Nat.zero_le _, Nat.zero_le _⟩ (fun r6 σ5 H locs hw hk => ?_)
    refine lv_if_ne (tgt := 22) hx hb dX6_openings_17 (by decide) (fun c7 => ?_) (fun c7 => ?_)
    · replace hw := hw.2 c7
      refine lv_aload_n hx hb dX6_openings_22 rfl (lv_at hl 0 rfl) ?_
      refine lv_iload_n hx hb dX6_openings_23 rfl (lv_at hl 1 rfl) ?_
      refine k_callVi (rest := []) X hk (c_X6_flows l G _ _ _ hw) (cwV 1 X.1.2.2.2.2 (gzV (aw_r28 _ (List.mem_of_getElem? (i := 18) rfl)) (aw_r28 _ (List.mem_of_getElem? (i := 19) rfl)) (aw_r28 _ (List.mem_of_getElem? (i := 20) rfl)) (aw_r1 _ (List.mem_of_getElem? (i := 5) rfl)) (aw_r28 _ (List.mem_of_getElem? (i := 21) rfl))) rfl rfl rfl hd_X6_flows ⟨(Nat.le_of_ble_eq_true rfl), (Nat.le_of_ble_eq_true rfl)⟩) (wg_30 G _) rfl rfl hl.1 rfl (Nat.le_of_ble_eq_true rfl) dX6_openings_24 ⟨Nat.zero_le _, Nat.zero_le _⟩ (fun r9 σ8 H locs hw hk => ?_)
      refine lv_istore_n (lv' := [(3, .int r9), (0, .ref (G.1 30)), (1, .int p1), (2, .int p2)]) hx hb dX6_openings_27 rfl hl (Nat.le_of_ble_eq_true rfl) rfl (fun ls hl => ?_)
      refine lv_aload_n hx hb dX6_openings_28 rfl (lv_at hl 1 rfl) ?_
      refine k_callVv (rest := []) X hk (c_X6_looksBack l G _  _ hw) (cwV 0 X.1.2.2.2.2 (gzV (aw_r32 _ (List.mem_of_getElem? (i := 9) rfl)) (aw_r32 _ (List.mem_of_getElem? (i := 10) rfl)) (aw_r32 _ (List.mem_of_getElem? (i := 11) rfl)) (aw_r1 _ (List.mem_of_getElem? (i := 5) rfl)) (aw_r32 _ (List.mem_of_getElem? (i := 12) rfl))) rfl rfl rfl hd_X6_looksBack ⟨(Nat.le_of_ble_eq_true rfl), (Nat.le_of_ble_eq_true rfl)⟩) (wg_30 G _) rfl rfl hl.1 rfl (Nat.le_of_ble_eq_true rfl) dX6_openings_29 ⟨Nat.zero_le _, Nat.zero_le _⟩ (fun σ10 H locs hw hk => ?_)
      refine lv_iconst (v := (0 : Int32)) hx hb dX6_openings_32 (by decide) ?_
      refine lv_istore (lv' := [(4, .int (0 : Int32)), (3, .int r9), (0, .ref (G.1 30)), (1, .int p1), (2, .int p2)]) hx hb dX6_openings_33 hl (Nat.le_of_ble_eq_true rfl) rfl (fun ls hl => ?_)
      refine lv_iconst (v := (0 : Int32)) hx hb dX6_openings_35 (by decide) ?_
      refine lv_istore (lv' := [(5, .int (0 : Int32)), (4, .int (0 : Int32)), (3, .int r9), (0, .ref (G.1 30)), (1, .int p1), (2, .int p2)]) hx hb dX6_openings_36 hl (Nat.le_of_ble_eq_true rfl) rfl (fun ls hl => ?_)
      obtain ⟨n0, hw⟩ := hw
      exact t_X6_openings_38 X Q   n0 _ _ _ _ _ _ _ _ hw hk (lv_sub hl [3, 4, 5, 1, 0] rfl)
    · replace hw := hw.1 c7
      refine lv_iconst (v := (-1 : Int32)) hx hb dX6_openings_20 (by decide) ?_
      exact k_iret X hk hw dX6_openings_21
def rm_X6_lanes : Room := { frames := 0, cells := 0, slots := 0, locals := 0 }
abbrev wz_X6_lanes : List Cond := Cond.code yX6_lanes cX6_lanes 4 none :: wsA
theorem hd_X6_lanes : yX6_lanes.cls = RX6 ∧ yX6_lanes.cls ≠ "java/lang/invoke/MethodHandle" ∧ yX6_lanes.cls ≠ "java/lang/invoke/VarHandle" ∧ (parseMethodDescriptor yX6_lanes.desc).map (fun d => d.parameters.length) = some 3 := by decide +kernel
def wp_X6_lanes (σ : Sg) (p1 p2 p3 : Int32) (Q : Sg → Prop) : Prop := vp_in (((35 : Int32) + ((5 : Int32) * p1)) + (3 : Int32)) 256 ∧ (∀ σ1 : Sg, σ1 = (put σ 31 ((((35 : Int32) + ((5 : Int32) * p1)) + (3 : Int32))).toNatClampNeg p2) → (vp_in (((35 : Int32) + ((5 : Int32) * p1)) + (4 : Int32)) 256 ∧ (∀ σ2 : Sg, σ2 = (put σ1 31 ((((35 : Int32) + ((5 : Int32) * p1)) + (4 : Int32))).toNatClampNeg p3) → (Q σ2))))
set_option maxHeartbeats 4000000 in
set_option maxRecDepth 100000 in
theorem c_X6_lanes (l : Launch) (G : Gw) (σ : Sg) (p1 p2 p3 : Int32) (Q : Sg → Prop) (hw : wp_X6_lanes σ p1 p2 p3 Q) : MetV l yX6_lanes wz_X6_lanes rm_X6_lanes G σ [.ref (G.1 30), .int p1, .int p2, .int p3] Q := by
  refine MetV.of cX6_lanes 4 none (by decide) rfl (Nat.le_of_ble_eq_true rfl) ?_
  intro p e s m below meth c X hk ls hl
  have X : KC p m meth c cX6_lanes 4 s _ wz_X6_lanes RX6 none G := X
  have hl : lv_has ls 4 [(0, .ref (G.1 30)), (1, .int p1), (2, .int p2), (3, .int p3)] := hl
  unfold wp_X6_lanes at hw
  have hx := X.1.1
  have hb := X.1.2.1
  refine lv_aload_n hx hb dX6_lanes_0 rfl (lv_at hl 0 rfl) ?_
  refine k_get 1 X hk (wg_30 G _) rfl (hz_wsX60 _) (Nat.le_of_ble_eq_true rfl) (List.mem_cons_of_mem _ (aw_r4 _ (List.mem_of_getElem? (i := 16) rfl))) rfl dX6_lanes_1 ?_
  refine lv_bipush (v := (35 : Int32)) hx hb dX6_lanes_4 (by decide) ?_
  refine lv_iconst (v := (5 : Int32)) hx hb dX6_lanes_6 (by decide) ?_
  refine lv_iload_n hx hb dX6_lanes_7 rfl (lv_at hl 1 rfl) ?_
  refine lv_imul hx hb dX6_lanes_8 ?_
  refine lv_iadd hx hb dX6_lanes_9 ?_
  refine lv_iconst (v := (3 : Int32)) hx hb dX6_lanes_10 (by decide) ?_
  refine lv_iadd hx hb dX6_lanes_11 ?_
  refine lv_iload_n hx hb dX6_lanes_12 rfl (lv_at hl 2 rfl) ?_
  refine k_iast X hk (wg_31 G _) (ws_31 G _) rfl hw.1 dX6_lanes_13 (fun H locs hk => ?_)
  replace hw := hw.2
  obtain ⟨σ1, eσ1⟩ : ∃ y : Sg, y = (put σ 31 ((((35 : Int32) + ((5 : Int32) * p1)) + (3 : Int32))).toNatClampNeg p2) := ⟨_, rfl⟩
  rw [← eσ1] at hk
  replace hw := hw σ1 eσ1
  refine lv_aload_n hx hb dX6_lanes_14 rfl (lv_at hl 0 rfl) ?_
  refine k_get 1 X hk (wg_30 G _) rfl (hz_wsX60 _) (Nat.le_of_ble_eq_true rfl) (List.mem_cons_of_mem _ (aw_r4 _ (List.mem_of_getElem? (i := 16) rfl))) rfl dX6_lanes_15 ?_
  refine lv_bipush (v := (35 : Int32)) hx hb dX6_lanes_18 (by decide) ?_
  refine lv_iconst (v := (5 : Int32)) hx hb dX6_lanes_20 (by decide) ?_
  refine lv_iload_n hx hb dX6_lanes_21 rfl (lv_at hl 1 rfl) ?_
  refine lv_imul hx hb dX6_lanes_22 ?_
  refine lv_iadd hx hb dX6_lanes_23 ?_
  refine lv_iconst (v := (4 : Int32)) hx hb dX6_lanes_24 (by decide) ?_
  refine lv_iadd hx hb dX6_lanes_25 ?_
  refine lv_iload_n hx hb dX6_lanes_26 rfl (lv_at hl 3 rfl) ?_
  refine k_iast X hk (wg_31 G _) (ws_31 G _) rfl hw.1 dX6_lanes_27 (fun H locs hk => ?_)
  replace hw := hw.2
  obtain ⟨σ2, eσ2⟩ : ∃ y : Sg, y = (put σ1 31 ((((35 : Int32) + ((5 : Int32) * p1)) + (4 : Int32))).toNatClampNeg p3) := ⟨_, rfl⟩
  rw [← eσ2] at hk
  replace hw := hw σ2 eσ2
  exact k_vret X hk hw dX6_lanes_28
