def rm_X6_thrown : Room := { frames := 0, cells := 0, slots := 0, locals := 0 }
abbrev wz_X6_thrown : List Cond := Cond.code yX6_thrown cX6_thrown 1 (some .int) :: wsA
theorem hd_X6_thrown : yX6_thrown.cls = RX6 ∧ yX6_thrown.cls ≠ "java/lang/invoke/MethodHandle" ∧ yX6_thrown.cls ≠ "java/lang/invoke/VarHandle" ∧ (parseMethodDescriptor yX6_thrown.desc).map (fun d => d.parameters.length) = some 0 := by decide +kernel
def wp_X6_thrown (σ : Sg) (Q : Int32 → Sg → Prop) : Prop := Q (σ 30 0) σ
set_option maxHeartbeats 4000000 in
set_option maxRecDepth 100000 in
theorem c_X6_thrown (l : Launch) (G : Gw) (σ : Sg) (Q : Int32 → Sg → Prop) (hw : wp_X6_thrown σ  Q) : MetI l yX6_thrown wz_X6_thrown rm_X6_thrown G σ [.ref (G.1 30)] Q := by
  refine MetI.of cX6_thrown 1 (some .int) (by decide) rfl (Nat.le_of_ble_eq_true rfl) ?_
  intro p e s m below meth c X hk ls hl
  have X : KC p m meth c cX6_thrown 1 s _ wz_X6_thrown RX6 (some .int) G := X
  have hl : lv_has ls 1 [(0, .ref (G.1 30))] := hl
  unfold wp_X6_thrown at hw
  have hx := X.1.1
  have hb := X.1.2.1
  refine lv_aload_n hx hb dX6_thrown_0 rfl (lv_at hl 0 rfl) ?_
  refine k_get 0 X hk (wg_30 G _) rfl (hz_wsX60 _) (Nat.le_of_ble_eq_true rfl) (List.mem_cons_of_mem _ (aw_r6 _ (List.mem_of_getElem? (i := 3) rfl))) rfl dX6_thrown_1 ?_
  exact k_iret X hk hw dX6_thrown_4
def rm_X6_isIn : Room := { frames := 0, cells := 0, slots := 0, locals := 0 }
abbrev wz_X6_isIn : List Cond := Cond.code yX6_isIn cX6_isIn 3 (some .boolean) :: wsA
theorem hds_X6_isIn : yX6_isIn.cls ≠ "java/lang/invoke/MethodHandle" ∧ yX6_isIn.cls ≠ "java/lang/invoke/VarHandle" ∧ (parseMethodDescriptor yX6_isIn.desc).map (fun d => d.parameters.length) = some 3 := by decide +kernel
def wp_X6_isIn (σ : Sg) (p0 p1 p2 : Int32) (Q : Int32 → Sg → Prop) : Prop := (p0 < p1 → (bz (0 : Int32) ∧ Q (0 : Int32) σ)) ∧ (¬ (p0 < p1) → ((p2 < p0 → (bz (0 : Int32) ∧ Q (0 : Int32) σ)) ∧ (¬ (p2 < p0) → (bz (1 : Int32) ∧ Q (1 : Int32) σ))))
set_option maxHeartbeats 4000000 in
set_option maxRecDepth 100000 in
theorem c_X6_isIn (l : Launch) (G : Gw) (σ : Sg) (p0 p1 p2 : Int32) (Q : Int32 → Sg → Prop) (hw : wp_X6_isIn σ p0 p1 p2 Q) : MetI l yX6_isIn wz_X6_isIn rm_X6_isIn G σ [.int p0, .int p1, .int p2] Q := by
  refine MetI.of cX6_isIn 3 (some .boolean) (by decide) rfl (Nat.le_of_ble_eq_true rfl) ?_
  intro p e s m below meth c X hk ls hl
  have X : KC p m meth c cX6_isIn 3 s _ wz_X6_isIn RX6 (some .boolean) G := X
  have hl : lv_has ls 3 [(0, .int p0), (1, .int p1), (2, .int p2)] := hl
  unfold wp_X6_isIn at hw
  have hx := X.1.1
  have hb := X.1.2.1
  refine lv_iload_n hx hb dX6_isIn_0 rfl (lv_at hl 0 rfl) ?_
  refine lv_iload_n hx hb dX6_isIn_1 rfl (lv_at hl 1 rfl) ?_
  refine lv_icmp_lt (tgt := 14) hx hb dX6_isIn_2 (by decide) (fun c1 => ?_) (fun c1 => ?_)
  · replace hw := hw.1 c1
    refine lv_iconst (v := (0 : Int32)) hx hb dX6_isIn_14 (by decide) ?_
    exact k_zret X hk hw dX6_isIn_15
  · replace hw := hw.2 c1
    refine lv_iload_n hx hb dX6_isIn_5 rfl (lv_at hl 0 rfl) ?_
    refine lv_iload_n hx hb dX6_isIn_6 rfl (lv_at hl 2 rfl) ?_
    refine lv_icmp_gt (tgt := 14) hx hb dX6_isIn_7 (by decide) (fun c2 => ?_) (fun c2 => ?_)
    · replace hw := hw.1 c2
      refine lv_iconst (v := (0 : Int32)) hx hb dX6_isIn_14 (by decide) ?_
      exact k_zret X hk hw dX6_isIn_15
    · replace hw := hw.2 c2
      refine lv_iconst (v := (1 : Int32)) hx hb dX6_isIn_10 (by decide) ?_
      refine lv_goto (tgt := 15) hx hb dX6_isIn_11 (by decide) ?_
      exact k_zret X hk hw dX6_isIn_15
def rm_X6_lesser : Room := { frames := 0, cells := 0, slots := 0, locals := 0 }
abbrev wz_X6_lesser : List Cond := Cond.code yX6_lesser cX6_lesser 2 (some .int) :: wsA
theorem hds_X6_lesser : yX6_lesser.cls ≠ "java/lang/invoke/MethodHandle" ∧ yX6_lesser.cls ≠ "java/lang/invoke/VarHandle" ∧ (parseMethodDescriptor yX6_lesser.desc).map (fun d => d.parameters.length) = some 2 := by decide +kernel
def wp_X6_lesser (σ : Sg) (p0 p1 : Int32) (Q : Int32 → Sg → Prop) : Prop := (p1 ≤ p0 → (Q p1 σ)) ∧ (¬ (p1 ≤ p0) → (Q p0 σ))
set_option maxHeartbeats 4000000 in
set_option maxRecDepth 100000 in
theorem c_X6_lesser (l : Launch) (G : Gw) (σ : Sg) (p0 p1 : Int32) (Q : Int32 → Sg → Prop) (hw : wp_X6_lesser σ p0 p1 Q) : MetI l yX6_lesser wz_X6_lesser rm_X6_lesser G σ [.int p0, .int p1] Q := by
  refine MetI.of cX6_lesser 2 (some .int) (by decide) rfl (Nat.le_of_ble_eq_true rfl) ?_
  intro p e s m below meth c X hk ls hl
  have X : KC p m meth c cX6_lesser 2 s _ wz_X6_lesser RX6 (some .int) G := X
  have hl : lv_has ls 2 [(0, .int p0), (1, .int p1)] := hl
  unfold wp_X6_lesser at hw
  have hx := X.1.1
  have hb := X.1.2.1
  refine lv_iload_n hx hb dX6_lesser_0 rfl (lv_at hl 0 rfl) ?_
  refine lv_iload_n hx hb dX6_lesser_1 rfl (lv_at hl 1 rfl) ?_
  refine lv_icmp_ge (tgt := 9) hx hb dX6_lesser_2 (by decide) (fun c1 => ?_) (fun c1 => ?_)
  · replace hw := hw.1 c1
    refine lv_iload_n hx hb dX6_lesser_9 rfl (lv_at hl 1 rfl) ?_
    exact k_iret X hk hw dX6_lesser_10
  · replace hw := hw.2 c1
    refine lv_iload_n hx hb dX6_lesser_5 rfl (lv_at hl 0 rfl) ?_
    refine lv_goto (tgt := 10) hx hb dX6_lesser_6 (by decide) ?_
    exact k_iret X hk hw dX6_lesser_10
def rm_X6_places : Room := { frames := 0, cells := 0, slots := 0, locals := 0 }
abbrev wz_X6_places : List Cond := Cond.code yX6_places cX6_places 1 (some .int) :: wsA
theorem hd_X6_places : yX6_places.cls = RX6 ∧ yX6_places.cls ≠ "java/lang/invoke/MethodHandle" ∧ yX6_places.cls ≠ "java/lang/invoke/VarHandle" ∧ (parseMethodDescriptor yX6_places.desc).map (fun d => d.parameters.length) = some 0 := by decide +kernel
def wp_X6_places (σ : Sg) (Q : Int32 → Sg → Prop) : Prop := vp_in (0 : Int32) 256 ∧ (Q (σ 31 ((0 : Int32)).toNatClampNeg) σ)
set_option maxHeartbeats 4000000 in
set_option maxRecDepth 100000 in
theorem c_X6_places (l : Launch) (G : Gw) (σ : Sg) (Q : Int32 → Sg → Prop) (hw : wp_X6_places σ  Q) : MetI l yX6_places wz_X6_places rm_X6_places G σ [.ref (G.1 30)] Q := by
  refine MetI.of cX6_places 1 (some .int) (by decide) rfl (Nat.le_of_ble_eq_true rfl) ?_
  intro p e s m below meth c X hk ls hl
  have X : KC p m meth c cX6_places 1 s _ wz_X6_places RX6 (some .int) G := X
  have hl : lv_has ls 1 [(0, .ref (G.1 30))] := hl
  unfold wp_X6_places at hw
  have hx := X.1.1
  have hb := X.1.2.1
  refine lv_aload_n hx hb dX6_places_0 rfl (lv_at hl 0 rfl) ?_
  refine k_get 1 X hk (wg_30 G _) rfl (hz_wsX60 _) (Nat.le_of_ble_eq_true rfl) (List.mem_cons_of_mem _ (aw_r4 _ (List.mem_of_getElem? (i := 16) rfl))) rfl dX6_places_1 ?_
  refine lv_iconst (v := (0 : Int32)) hx hb dX6_places_4 (by decide) ?_
  refine k_iald X hk (wg_31 G _) hw.1 dX6_places_5 ?_
  replace hw := hw.2
  exact k_iret X hk hw dX6_places_6
def rm_X6_roads : Room := { frames := 0, cells := 0, slots := 0, locals := 0 }
abbrev wz_X6_roads : List Cond := Cond.code yX6_roads cX6_roads 1 (some .int) :: wsA
theorem hd_X6_roads : yX6_roads.cls = RX6 ∧ yX6_roads.cls ≠ "java/lang/invoke/MethodHandle" ∧ yX6_roads.cls ≠ "java/lang/invoke/VarHandle" ∧ (parseMethodDescriptor yX6_roads.desc).map (fun d => d.parameters.length) = some 0 := by decide +kernel
def wp_X6_roads (σ : Sg) (Q : Int32 → Sg → Prop) : Prop := vp_in (1 : Int32) 256 ∧ (Q (σ 31 ((1 : Int32)).toNatClampNeg) σ)
set_option maxHeartbeats 4000000 in
set_option maxRecDepth 100000 in
theorem c_X6_roads (l : Launch) (G : Gw) (σ : Sg) (Q : Int32 → Sg → Prop) (hw : wp_X6_roads σ  Q) : MetI l yX6_roads wz_X6_roads rm_X6_roads G σ [.ref (G.1 30)] Q := by
  refine MetI.of cX6_roads 1 (some .int) (by decide) rfl (Nat.le_of_ble_eq_true rfl) ?_
  intro p e s m below meth c X hk ls hl
  have X : KC p m meth c cX6_roads 1 s _ wz_X6_roads RX6 (some .int) G := X
  have hl : lv_has ls 1 [(0, .ref (G.1 30))] := hl
  unfold wp_X6_roads at hw
  have hx := X.1.1
  have hb := X.1.2.1
  refine lv_aload_n hx hb dX6_roads_0 rfl (lv_at hl 0 rfl) ?_
  refine k_get 1 X hk (wg_30 G _) rfl (hz_wsX60 _) (Nat.le_of_ble_eq_true rfl) (List.mem_cons_of_mem _ (aw_r4 _ (List.mem_of_getElem? (i := 16) rfl))) rfl dX6_roads_1 ?_
  refine lv_iconst (v := (1 : Int32)) hx hb dX6_roads_4 (by decide) ?_
  refine k_iald X hk (wg_31 G _) hw.1 dX6_roads_5 ?_
  replace hw := hw.2
  exact k_iret X hk hw dX6_roads_6
def rm_X6_moves : Room := { frames := 0, cells := 0, slots := 0, locals := 0 }
abbrev wz_X6_moves : List Cond := Cond.code yX6_moves cX6_moves 1 (some .int) :: wsA
theorem hd_X6_moves : yX6_moves.cls = RX6 ∧ yX6_moves.cls ≠ "java/lang/invoke/MethodHandle" ∧ yX6_moves.cls ≠ "java/lang/invoke/VarHandle" ∧ (parseMethodDescriptor yX6_moves.desc).map (fun d => d.parameters.length) = some 0 := by decide +kernel
def wp_X6_moves (σ : Sg) (Q : Int32 → Sg → Prop) : Prop := vp_in (2 : Int32) 256 ∧ (Q (σ 31 ((2 : Int32)).toNatClampNeg) σ)
set_option maxHeartbeats 4000000 in
set_option maxRecDepth 100000 in
theorem c_X6_moves (l : Launch) (G : Gw) (σ : Sg) (Q : Int32 → Sg → Prop) (hw : wp_X6_moves σ  Q) : MetI l yX6_moves wz_X6_moves rm_X6_moves G σ [.ref (G.1 30)] Q := by
  refine MetI.of cX6_moves 1 (some .int) (by decide) rfl (Nat.le_of_ble_eq_true rfl) ?_
  intro p e s m below meth c X hk ls hl
  have X : KC p m meth c cX6_moves 1 s _ wz_X6_moves RX6 (some .int) G := X
  have hl : lv_has ls 1 [(0, .ref (G.1 30))] := hl
  unfold wp_X6_moves at hw
  have hx := X.1.1
  have hb := X.1.2.1
  refine lv_aload_n hx hb dX6_moves_0 rfl (lv_at hl 0 rfl) ?_
  refine k_get 1 X hk (wg_30 G _) rfl (hz_wsX60 _) (Nat.le_of_ble_eq_true rfl) (List.mem_cons_of_mem _ (aw_r4 _ (List.mem_of_getElem? (i := 16) rfl))) rfl dX6_moves_1 ?_
  refine lv_iconst (v := (2 : Int32)) hx hb dX6_moves_4 (by decide) ?_
  refine k_iald X hk (wg_31 G _) hw.1 dX6_moves_5 ?_
  replace hw := hw.2
  exact k_iret X hk hw dX6_moves_6
def rm_X6_ofPlace : Room := { frames := 0, cells := 0, slots := 0, locals := 0 }
abbrev wz_X6_ofPlace : List Cond := Cond.code yX6_ofPlace cX6_ofPlace 3 (some .int) :: wsA
theorem hd_X6_ofPlace : yX6_ofPlace.cls = RX6 ∧ yX6_ofPlace.cls ≠ "java/lang/invoke/MethodHandle" ∧ yX6_ofPlace.cls ≠ "java/lang/invoke/VarHandle" ∧ (parseMethodDescriptor yX6_ofPlace.desc).map (fun d => d.parameters.length) = some 2 := by decide +kernel
def wp_X6_ofPlace (σ : Sg) (p1 p2 : Int32) (Q : Int32 → Sg → Prop) : Prop := vp_in (((3 : Int32) + ((4 : Int32) * p1)) + p2) 256 ∧ (Q (σ 31 ((((3 : Int32) + ((4 : Int32) * p1)) + p2)).toNatClampNeg) σ)
set_option maxHeartbeats 4000000 in
set_option maxRecDepth 100000 in
theorem c_X6_ofPlace (l : Launch) (G : Gw) (σ : Sg) (p1 p2 : Int32) (Q : Int32 → Sg → Prop) (hw : wp_X6_ofPlace σ p1 p2 Q) : MetI l yX6_ofPlace wz_X6_ofPlace rm_X6_ofPlace G σ [.ref (G.1 30), .int p1, .int p2] Q := by
  refine MetI.of cX6_ofPlace 3 (some .int) (by decide) rfl (Nat.le_of_ble_eq_true rfl) ?_
  intro p e s m below meth c X hk ls hl
  have X : KC p m meth c cX6_ofPlace 3 s _ wz_X6_ofPlace RX6 (some .int) G := X
  have hl : lv_has ls 3 [(0, .ref (G.1 30)), (1, .int p1), (2, .int p2)] := hl
  unfold wp_X6_ofPlace at hw
  have hx := X.1.1
  have hb := X.1.2.1
  refine lv_aload_n hx hb dX6_ofPlace_0 rfl (lv_at hl 0 rfl) ?_
  refine k_get 1 X hk (wg_30 G _) rfl (hz_wsX60 _) (Nat.le_of_ble_eq_true rfl) (List.mem_cons_of_mem _ (aw_r4 _ (List.mem_of_getElem? (i := 16) rfl))) rfl dX6_ofPlace_1 ?_
  refine lv_iconst (v := (3 : Int32)) hx hb dX6_ofPlace_4 (by decide) ?_
  refine lv_iconst (v := (4 : Int32)) hx hb dX6_ofPlace_5 (by decide) ?_
  refine lv_iload_n hx hb dX6_ofPlace_6 rfl (lv_at hl 1 rfl) ?_
  refine lv_imul hx hb dX6_ofPlace_7 ?_
  refine lv_iadd hx hb dX6_ofPlace_8 ?_
  refine lv_iload_n hx hb dX6_ofPlace_9 rfl (lv_at hl 2 rfl) ?_
  refine lv_iadd hx hb dX6_ofPlace_10 ?_
  refine k_iald X hk (wg_31 G _) hw.1 dX6_ofPlace_11 ?_
  replace hw := hw.2
  exact k_iret X hk hw dX6_ofPlace_12
def rm_X6_ofRoad : Room := { frames := 0, cells := 0, slots := 0, locals := 0 }
abbrev wz_X6_ofRoad : List Cond := Cond.code yX6_ofRoad cX6_ofRoad 3 (some .int) :: wsA
theorem hd_X6_ofRoad : yX6_ofRoad.cls = RX6 ∧ yX6_ofRoad.cls ≠ "java/lang/invoke/MethodHandle" ∧ yX6_ofRoad.cls ≠ "java/lang/invoke/VarHandle" ∧ (parseMethodDescriptor yX6_ofRoad.desc).map (fun d => d.parameters.length) = some 2 := by decide +kernel
def wp_X6_ofRoad (σ : Sg) (p1 p2 : Int32) (Q : Int32 → Sg → Prop) : Prop := vp_in (((35 : Int32) + ((5 : Int32) * p1)) + p2) 256 ∧ (Q (σ 31 ((((35 : Int32) + ((5 : Int32) * p1)) + p2)).toNatClampNeg) σ)
set_option maxHeartbeats 4000000 in
set_option maxRecDepth 100000 in
theorem c_X6_ofRoad (l : Launch) (G : Gw) (σ : Sg) (p1 p2 : Int32) (Q : Int32 → Sg → Prop) (hw : wp_X6_ofRoad σ p1 p2 Q) : MetI l yX6_ofRoad wz_X6_ofRoad rm_X6_ofRoad G σ [.ref (G.1 30), .int p1, .int p2] Q := by
  refine MetI.of cX6_ofRoad 3 (some .int) (by decide) rfl (Nat.le_of_ble_eq_true rfl) ?_
  intro p e s m below meth c X hk ls hl
  have X : KC p m meth c cX6_ofRoad 3 s _ wz_X6_ofRoad RX6 (some .int) G := X
  have hl : lv_has ls 3 [(0, .ref (G.1 30)), (1, .int p1), (2, .int p2)] := hl
  unfold wp_X6_ofRoad at hw
  have hx := X.1.1
  have hb := X.1.2.1
  refine lv_aload_n hx hb dX6_ofRoad_0 rfl (lv_at hl 0 rfl) ?_
  refine k_get 1 X hk (wg_30 G _) rfl (hz_wsX60 _) (Nat.le_of_ble_eq_true rfl) (List.mem_cons_of_mem _ (aw_r4 _ (List.mem_of_getElem? (i := 16) rfl))) rfl dX6_ofRoad_1 ?_
  refine lv_bipush (v := (35 : Int32)) hx hb dX6_ofRoad_4 (by decide) ?_
  refine lv_iconst (v := (5 : Int32)) hx hb dX6_ofRoad_6 (by decide) ?_
  refine lv_iload_n hx hb dX6_ofRoad_7 rfl (lv_at hl 1 rfl) ?_
  refine lv_imul hx hb dX6_ofRoad_8 ?_
  refine lv_iadd hx hb dX6_ofRoad_9 ?_
  refine lv_iload_n hx hb dX6_ofRoad_10 rfl (lv_at hl 2 rfl) ?_
  refine lv_iadd hx hb dX6_ofRoad_11 ?_
  refine k_iald X hk (wg_31 G _) hw.1 dX6_ofRoad_12 ?_
  replace hw := hw.2
  exact k_iret X hk hw dX6_ofRoad_13
def rm_X6_ofMove : Room := { frames := 0, cells := 0, slots := 0, locals := 0 }
abbrev wz_X6_ofMove : List Cond := Cond.code yX6_ofMove cX6_ofMove 3 (some .int) :: wsA
theorem hd_X6_ofMove : yX6_ofMove.cls = RX6 ∧ yX6_ofMove.cls ≠ "java/lang/invoke/MethodHandle" ∧ yX6_ofMove.cls ≠ "java/lang/invoke/VarHandle" ∧ (parseMethodDescriptor yX6_ofMove.desc).map (fun d => d.parameters.length) = some 2 := by decide +kernel
def wp_X6_ofMove (σ : Sg) (p1 p2 : Int32) (Q : Int32 → Sg → Prop) : Prop := vp_in (((95 : Int32) + ((4 : Int32) * p1)) + p2) 256 ∧ (Q (σ 31 ((((95 : Int32) + ((4 : Int32) * p1)) + p2)).toNatClampNeg) σ)
set_option maxHeartbeats 4000000 in
set_option maxRecDepth 100000 in
theorem c_X6_ofMove (l : Launch) (G : Gw) (σ : Sg) (p1 p2 : Int32) (Q : Int32 → Sg → Prop) (hw : wp_X6_ofMove σ p1 p2 Q) : MetI l yX6_ofMove wz_X6_ofMove rm_X6_ofMove G σ [.ref (G.1 30), .int p1, .int p2] Q := by
  refine MetI.of cX6_ofMove 3 (some .int) (by decide) rfl (Nat.le_of_ble_eq_true rfl) ?_
  intro p e s m below meth c X hk ls hl
  have X : KC p m meth c cX6_ofMove 3 s _ wz_X6_ofMove RX6 (some .int) G := X
  have hl : lv_has ls 3 [(0, .ref (G.1 30)), (1, .int p1), (2, .int p2)] := hl
  unfold wp_X6_ofMove at hw
  have hx := X.1.1
  have hb := X.1.2.1
  refine lv_aload_n hx hb dX6_ofMove_0 rfl (lv_at hl 0 rfl) ?_
  refine k_get 1 X hk (wg_30 G _) rfl (hz_wsX60 _) (Nat.le_of_ble_eq_true rfl) (List.mem_cons_of_mem _ (aw_r4 _ (List.mem_of_getElem? (i := 16) rfl))) rfl dX6_ofMove_1 ?_
  refine lv_bipush (v := (95 : Int32)) hx hb dX6_ofMove_4 (by decide) ?_
  refine lv_iconst (v := (4 : Int32)) hx hb dX6_ofMove_6 (by decide) ?_
  refine lv_iload_n hx hb dX6_ofMove_7 rfl (lv_at hl 1 rfl) ?_
  refine lv_imul hx hb dX6_ofMove_8 ?_
  refine lv_iadd hx hb dX6_ofMove_9 ?_
  refine lv_iload_n hx hb dX6_ofMove_10 rfl (lv_at hl 2 rfl) ?_
  refine lv_iadd hx hb dX6_ofMove_11 ?_
  refine k_iald X hk (wg_31 G _) hw.1 dX6_ofMove_12 ?_
  replace hw := hw.2
  exact k_iret X hk hw dX6_ofMove_13
def rm_X6_isPlace : Room := { frames := 1, cells := 0, slots := 0, locals := 22 }
abbrev wz_X6_isPlace : List Cond := Cond.code yX6_isPlace cX6_isPlace 2 (some .boolean) :: wsA
theorem hd_X6_isPlace : yX6_isPlace.cls = RX6 ∧ yX6_isPlace.cls ≠ "java/lang/invoke/MethodHandle" ∧ yX6_isPlace.cls ≠ "java/lang/invoke/VarHandle" ∧ (parseMethodDescriptor yX6_isPlace.desc).map (fun d => d.parameters.length) = some 1 := by decide +kernel
def wp_X6_isPlace (σ : Sg) (p1 : Int32) (Q : Int32 → Sg → Prop) : Prop := wp_X6_places σ  (fun r2 σ1 => wp_X6_isIn σ1 p1 (0 : Int32) (r2 - (1 : Int32)) (fun r4 σ3 => bz r4 ∧ Q r4 σ3))
set_option maxHeartbeats 4000000 in
set_option maxRecDepth 100000 in
theorem c_X6_isPlace (l : Launch) (G : Gw) (σ : Sg) (p1 : Int32) (Q : Int32 → Sg → Prop) (hw : wp_X6_isPlace σ p1 Q) : MetI l yX6_isPlace wz_X6_isPlace rm_X6_isPlace G σ [.ref (G.1 30), .int p1] Q := by
  refine MetI.of cX6_isPlace 2 (some .boolean) (by decide) rfl (Nat.le_of_ble_eq_true rfl) ?_
  intro p e s m below meth c X hk ls hl
  have X : KC p m meth c cX6_isPlace 2 s _ wz_X6_isPlace RX6 (some .boolean) G := X
  have hl : lv_has ls 2 [(0, .ref (G.1 30)), (1, .int p1)] := hl
  unfold wp_X6_isPlace at hw
  have hx := X.1.1
  have hb := X.1.2.1
  refine lv_iload_n hx hb dX6_isPlace_0 rfl (lv_at hl 1 rfl) ?_
  refine lv_iconst (v := (0 : Int32)) hx hb dX6_isPlace_1 (by decide) ?_
  refine lv_aload_n hx hb dX6_isPlace_2 rfl (lv_at hl 0 rfl) ?_
  refine k_callVi (rest := [.int (0 : Int32), .int p1]) X hk (c_X6_places l G _  _ hw) (cwV 0 X.1.2.2.2.2 (gzV (aw_r15 _ (List.mem_of_getElem? (i := 14) rfl)) (aw_r15 _ (List.mem_of_getElem? (i := 15) rfl)) (aw_r15 _ (List.mem_of_getElem? (i := 16) rfl)) (aw_r1 _ (List.mem_of_getElem? (i := 5) rfl)) (aw_r15 _ (List.mem_of_getElem? (i := 17) rfl))) rfl rfl rfl hd_X6_places ⟨(Nat.le_of_ble_eq_true rfl), (Nat.le_of_ble_eq_true rfl)⟩) (wg_30 G _) rfl rfl hl.1 rfl (Nat.le_of_ble_eq_true rfl) dX6_isPlace_3 ⟨Nat.zero_le _, Nat.zero_le _⟩ (fun r2 σ1 H locs hw hk => ?_)
  refine lv_iconst (v := (1 : Int32)) hx hb dX6_isPlace_6 (by decide) ?_
  refine lv_isub hx hb dX6_isPlace_7 ?_
  refine k_callSi (rest := []) X hk (c_X6_isIn l G _ _ _ _ _ hw) (va_cwS 3 X.1.2.2.2.2 (gzS (aw_r6 _ (List.mem_of_getElem? (i := 17) rfl)) (aw_r6 _ (List.mem_of_getElem? (i := 18) rfl)) (aw_r1 _ (List.mem_of_getElem? (i := 5) rfl)) (aw_r6 _ (List.mem_of_getElem? (i := 19) rfl))) rfl rfl rfl hds_X6_isIn ⟨(Nat.le_of_ble_eq_true rfl), (Nat.le_of_ble_eq_true rfl)⟩) rfl hl.1 rfl (Nat.le_of_ble_eq_true rfl) dX6_isPlace_8 ⟨Nat.zero_le _, Nat.zero_le _⟩ (fun r4 σ3 H locs hw hk => ?_)
  exact k_zret X hk hw dX6_isPlace_11
def rm_X6_isRoad : Room := { frames := 1, cells := 0, slots := 0, locals := 22 }
abbrev wz_X6_isRoad : List Cond := Cond.code yX6_isRoad cX6_isRoad 2 (some .boolean) :: wsA
theorem hd_X6_isRoad : yX6_isRoad.cls = RX6 ∧ yX6_isRoad.cls ≠ "java/lang/invoke/MethodHandle" ∧ yX6_isRoad.cls ≠ "java/lang/invoke/VarHandle" ∧ (parseMethodDescriptor yX6_isRoad.desc).map (fun d => d.parameters.length) = some 1 := by decide +kernel
def wp_X6_isRoad (σ : Sg) (p1 : Int32) (Q : Int32 → Sg → Prop) : Prop := wp_X6_roads σ  (fun r2 σ1 => wp_X6_isIn σ1 p1 (0 : Int32) (r2 - (1 : Int32)) (fun r4 σ3 => bz r4 ∧ Q r4 σ3))
set_option maxHeartbeats 4000000 in
set_option maxRecDepth 100000 in
theorem c_X6_isRoad (l : Launch) (G : Gw) (σ : Sg) (p1 : Int32) (Q : Int32 → Sg → Prop) (hw : wp_X6_isRoad σ p1 Q) : MetI l yX6_isRoad wz_X6_isRoad rm_X6_isRoad G σ [.ref (G.1 30), .int p1] Q := by
  refine MetI.of cX6_isRoad 2 (some .boolean) (by decide) rfl (Nat.le_of_ble_eq_true rfl) ?_
  intro p e s m below meth c X hk ls hl
  have X : KC p m meth c cX6_isRoad 2 s _ wz_X6_isRoad RX6 (some .boolean) G := X
  have hl : lv_has ls 2 [(0, .ref (G.1 30)), (1, .int p1)] := hl
  unfold wp_X6_isRoad at hw
  have hx := X.1.1
  have hb := X.1.2.1
  refine lv_iload_n hx hb dX6_isRoad_0 rfl (lv_at hl 1 rfl) ?_
  refine lv_iconst (v := (0 : Int32)) hx hb dX6_isRoad_1 (by decide) ?_
  refine lv_aload_n hx hb dX6_isRoad_2 rfl (lv_at hl 0 rfl) ?_
  refine k_callVi (rest := [.int (0 : Int32), .int p1]) X hk (c_X6_roads l G _  _ hw) (cwV 0 X.1.2.2.2.2 (gzV (aw_r16 _ (List.mem_of_getElem? (i := 18) rfl)) (aw_r16 _ (List.mem_of_getElem? (i := 19) rfl)) (aw_r16 _ (List.mem_of_getElem? (i := 20) rfl)) (aw_r1 _ (List.mem_of_getElem? (i := 5) rfl)) (aw_r16 _ (List.mem_of_getElem? (i := 21) rfl))) rfl rfl rfl hd_X6_roads ⟨(Nat.le_of_ble_eq_true rfl), (Nat.le_of_ble_eq_true rfl)⟩) (wg_30 G _) rfl rfl hl.1 rfl (Nat.le_of_ble_eq_true rfl) dX6_isRoad_3 ⟨Nat.zero_le _, Nat.zero_le _⟩ (fun r2 σ1 H locs hw hk => ?_)
  refine lv_iconst (v := (1 : Int32)) hx hb dX6_isRoad_6 (by decide) ?_
  refine lv_isub hx hb dX6_isRoad_7 ?_
  refine k_callSi (rest := []) X hk (c_X6_isIn l G _ _ _ _ _ hw) (va_cwS 3 X.1.2.2.2.2 (gzS (aw_r6 _ (List.mem_of_getElem? (i := 17) rfl)) (aw_r6 _ (List.mem_of_getElem? (i := 18) rfl)) (aw_r1 _ (List.mem_of_getElem? (i := 5) rfl)) (aw_r6 _ (List.mem_of_getElem? (i := 19) rfl))) rfl rfl rfl hds_X6_isIn ⟨(Nat.le_of_ble_eq_true rfl), (Nat.le_of_ble_eq_true rfl)⟩) rfl hl.1 rfl (Nat.le_of_ble_eq_true rfl) dX6_isRoad_8 ⟨Nat.zero_le _, Nat.zero_le _⟩ (fun r4 σ3 H locs hw hk => ?_)
  exact k_zret X hk hw dX6_isRoad_11
def rm_X6_mayBe : Room := { frames := 1, cells := 0, slots := 0, locals := 22 }
abbrev wz_X6_mayBe : List Cond := Cond.code yX6_mayBe cX6_mayBe 2 (some .boolean) :: wsA
theorem hds_X6_mayBe : yX6_mayBe.cls ≠ "java/lang/invoke/MethodHandle" ∧ yX6_mayBe.cls ≠ "java/lang/invoke/VarHandle" ∧ (parseMethodDescriptor yX6_mayBe.desc).map (fun d => d.parameters.length) = some 2 := by decide +kernel
def wp_X6_mayBe (σ : Sg) (p0 p1 : Int32) (Q : Int32 → Sg → Prop) : Prop := (p0 = (0 : Int32) → (wp_X6_isIn σ p1 (0 : Int32) (60 : Int32) (fun r3 σ2 => bz r3 ∧ Q r3 σ2))) ∧ (p0 = (1 : Int32) → (wp_X6_isIn σ p1 (0 : Int32) (300 : Int32) (fun r6 σ5 => bz r6 ∧ Q r6 σ5))) ∧ (p0 = (2 : Int32) → (wp_X6_isIn σ p1 (0 : Int32) (20 : Int32) (fun r9 σ8 => bz r9 ∧ Q r9 σ8))) ∧ (¬ p0 = (0 : Int32) → ¬ p0 = (1 : Int32) → ¬ p0 = (2 : Int32) → ((p0 = (3 : Int32) → (wp_X6_isIn σ p1 (0 : Int32) (300 : Int32) (fun r12 σ11 => (r12 = 0 → (bz (0 : Int32) ∧ Q (0 : Int32) σ11)) ∧ (¬ (r12 = 0) → (bz (1 : Int32) ∧ Q (1 : Int32) σ11))))) ∧ (¬ (p0 = (3 : Int32)) → (bz (0 : Int32) ∧ Q (0 : Int32) σ))))
set_option maxHeartbeats 4000000 in
set_option maxRecDepth 100000 in
theorem c_X6_mayBe (l : Launch) (G : Gw) (σ : Sg) (p0 p1 : Int32) (Q : Int32 → Sg → Prop) (hw : wp_X6_mayBe σ p0 p1 Q) : MetI l yX6_mayBe wz_X6_mayBe rm_X6_mayBe G σ [.int p0, .int p1] Q := by
  refine MetI.of cX6_mayBe 2 (some .boolean) (by decide) rfl (Nat.le_of_ble_eq_true rfl) ?_
  intro p e s m below meth c X hk ls hl
  have X : KC p m meth c cX6_mayBe 2 s _ wz_X6_mayBe RX6 (some .boolean) G := X
  have hl : lv_has ls 2 [(0, .int p0), (1, .int p1)] := hl
  unfold wp_X6_mayBe at hw
  have hx := X.1.1
  have hb := X.1.2.1
  refine lv_iload_n hx hb dX6_mayBe_0 rfl (lv_at hl 0 rfl) ?_
  by_cases c1 : p0 = (0 : Int32)
  · have ec1 : (p0).toInt = 0 := by rw [c1]; rfl
    refine lv_tableIn (tgt := 28) hx hb dX6_mayBe_1 (by rw [ec1]; decide) (by rw [ec1]; decide) (by rw [ec1]; rfl) (by decide) ?_
    replace hw := hw.1 c1
    refine lv_iload_n hx hb dX6_mayBe_28 rfl (lv_at hl 1 rfl) ?_
    refine lv_iconst (v := (0 : Int32)) hx hb dX6_mayBe_29 (by decide) ?_
    refine lv_bipush (v := (60 : Int32)) hx hb dX6_mayBe_30 (by decide) ?_
    refine k_callSi (rest := []) X hk (c_X6_isIn l G _ _ _ _ _ hw) (va_cwS 3 X.1.2.2.2.2 (gzS (aw_r6 _ (List.mem_of_getElem? (i := 17) rfl)) (aw_r6 _ (List.mem_of_getElem? (i := 18) rfl)) (aw_r1 _ (List.mem_of_getElem? (i := 5) rfl)) (aw_r6 _ (List.mem_of_getElem? (i := 19) rfl))) rfl rfl rfl hds_X6_isIn ⟨(Nat.le_of_ble_eq_true rfl), (Nat.le_of_ble_eq_true rfl)⟩) rfl hl.1 rfl (Nat.le_of_ble_eq_true rfl) dX6_mayBe_32 ⟨Nat.zero_le _, Nat.zero_le _⟩ (fun r3 σ2 H locs hw hk => ?_)
    exact k_zret X hk hw dX6_mayBe_35
  replace hw := hw.2
  by_cases c4 : p0 = (1 : Int32)
  · have ec4 : (p0).toInt = 1 := by rw [c4]; rfl
    refine lv_tableIn (tgt := 36) hx hb dX6_mayBe_1 (by rw [ec4]; decide) (by rw [ec4]; decide) (by rw [ec4]; rfl) (by decide) ?_
    replace hw := hw.1 c4
    refine lv_iload_n hx hb dX6_mayBe_36 rfl (lv_at hl 1 rfl) ?_
    refine lv_iconst (v := (0 : Int32)) hx hb dX6_mayBe_37 (by decide) ?_
    refine lv_sipush (v := (300 : Int32)) hx hb dX6_mayBe_38 (by decide) ?_
    refine k_callSi (rest := []) X hk (c_X6_isIn l G _ _ _ _ _ hw) (va_cwS 3 X.1.2.2.2.2 (gzS (aw_r6 _ (List.mem_of_getElem? (i := 17) rfl)) (aw_r6 _ (List.mem_of_getElem? (i := 18) rfl)) (aw_r1 _ (List.mem_of_getElem? (i := 5) rfl)) (aw_r6 _ (List.mem_of_getElem? (i := 19) rfl))) rfl rfl rfl hds_X6_isIn ⟨(Nat.le_of_ble_eq_true rfl), (Nat.le_of_ble_eq_true rfl)⟩) rfl hl.1 rfl (Nat.le_of_ble_eq_true rfl) dX6_mayBe_41 ⟨Nat.zero_le _, Nat.zero_le _⟩ (fun r6 σ5 H locs hw hk => ?_)
    exact k_zret X hk hw dX6_mayBe_44
  replace hw := hw.2
  by_cases c7 : p0 = (2 : Int32)
  · have ec7 : (p0).toInt = 2 := by rw [c7]; rfl
    refine lv_tableIn (tgt := 45) hx hb dX6_mayBe_1 (by rw [ec7]; decide) (by rw [ec7]; decide) (by rw [ec7]; rfl) (by decide) ?_
    replace hw := hw.1 c7
    refine lv_iload_n hx hb dX6_mayBe_45 rfl (lv_at hl 1 rfl) ?_
    refine lv_iconst (v := (0 : Int32)) hx hb dX6_mayBe_46 (by decide) ?_
    refine lv_bipush (v := (20 : Int32)) hx hb dX6_mayBe_47 (by decide) ?_
    refine k_callSi (rest := []) X hk (c_X6_isIn l G _ _ _ _ _ hw) (va_cwS 3 X.1.2.2.2.2 (gzS (aw_r6 _ (List.mem_of_getElem? (i := 17) rfl)) (aw_r6 _ (List.mem_of_getElem? (i := 18) rfl)) (aw_r1 _ (List.mem_of_getElem? (i := 5) rfl)) (aw_r6 _ (List.mem_of_getElem? (i := 19) rfl))) rfl rfl rfl hds_X6_isIn ⟨(Nat.le_of_ble_eq_true rfl), (Nat.le_of_ble_eq_true rfl)⟩) rfl hl.1 rfl (Nat.le_of_ble_eq_true rfl) dX6_mayBe_49 ⟨Nat.zero_le _, Nat.zero_le _⟩ (fun r9 σ8 H locs hw hk => ?_)
    exact k_zret X hk hw dX6_mayBe_52
  replace hw := hw.2
  have ec1 := lv_neT (a := 0) c1 rfl
  have ec4 := lv_neT (a := 1) c4 rfl
  have ec7 := lv_neT (a := 2) c7 rfl
  refine lv_tableOut (tgt := 53) hx hb dX6_mayBe_1 (by omega) (by decide) ?_
  replace hw := hw c1 c4 c7
  refine lv_iload_n hx hb dX6_mayBe_53 rfl (lv_at hl 0 rfl) ?_
  refine lv_iconst (v := (3 : Int32)) hx hb dX6_mayBe_54 (by decide) ?_
  refine lv_icmp_ne (tgt := 73) hx hb dX6_mayBe_55 (by decide) (fun c10 => ?_) (fun c10 => ?_)
  · replace hw := hw.2 c10
    refine lv_iconst (v := (0 : Int32)) hx hb dX6_mayBe_73 (by decide) ?_
    exact k_zret X hk hw dX6_mayBe_74
  · replace hw := hw.1 c10
    refine lv_iload_n hx hb dX6_mayBe_58 rfl (lv_at hl 1 rfl) ?_
    refine lv_iconst (v := (0 : Int32)) hx hb dX6_mayBe_59 (by decide) ?_
    refine lv_sipush (v := (300 : Int32)) hx hb dX6_mayBe_60 (by decide) ?_
    refine k_callSi (rest := []) X hk (c_X6_isIn l G _ _ _ _ _ hw) (va_cwS 3 X.1.2.2.2.2 (gzS (aw_r6 _ (List.mem_of_getElem? (i := 17) rfl)) (aw_r6 _ (List.mem_of_getElem? (i := 18) rfl)) (aw_r1 _ (List.mem_of_getElem? (i := 5) rfl)) (aw_r6 _ (List.mem_of_getElem? (i := 19) rfl))) rfl rfl rfl hds_X6_isIn ⟨(Nat.le_of_ble_eq_true rfl), (Nat.le_of_ble_eq_true rfl)⟩) rfl hl.1 rfl (Nat.le_of_ble_eq_true rfl) dX6_mayBe_63 ⟨Nat.zero_le _, Nat.zero_le _⟩ (fun r12 σ11 H locs hw hk => ?_)
    refine lv_if_eq (tgt := 73) hx hb dX6_mayBe_66 (by decide) (fun c13 => ?_) (fun c13 => ?_)
    · replace hw := hw.1 c13
      refine lv_iconst (v := (0 : Int32)) hx hb dX6_mayBe_73 (by decide) ?_
      exact k_zret X hk hw dX6_mayBe_74
    · replace hw := hw.2 c13
      refine lv_iconst (v := (1 : Int32)) hx hb dX6_mayBe_69 (by decide) ?_
      refine lv_goto (tgt := 74) hx hb dX6_mayBe_70 (by decide) ?_
      exact k_zret X hk hw dX6_mayBe_74
def rm_X6_placeMore : Room := { frames := 1, cells := 0, slots := 0, locals := 20 }
abbrev wz_X6_placeMore : List Cond := Cond.code yX6_placeMore cX6_placeMore 6 none :: wsA
theorem hd_X6_placeMore : yX6_placeMore.cls = RX6 ∧ yX6_placeMore.cls ≠ "java/lang/invoke/MethodHandle" ∧ yX6_placeMore.cls ≠ "java/lang/invoke/VarHandle" ∧ (parseMethodDescriptor yX6_placeMore.desc).map (fun d => d.parameters.length) = some 4 := by decide +kernel
def wp_X6_placeMore (σ : Sg) (p1 p2 p3 p4 : Int32) (Q : Sg → Prop) : Prop := wp_X6_places σ  (fun r2 σ1 => ∀ x5_3 : Int32, x5_3 = ((3 : Int32) + ((4 : Int32) * r2)) → (vp_in x5_3 256 ∧ (∀ σ4 : Sg, σ4 = (put σ1 31 (x5_3).toNatClampNeg p1) → (vp_in (x5_3 + (1 : Int32)) 256 ∧ (∀ σ5 : Sg, σ5 = (put σ4 31 ((x5_3 + (1 : Int32))).toNatClampNeg p2) → (vp_in (x5_3 + (2 : Int32)) 256 ∧ (∀ σ6 : Sg, σ6 = (put σ5 31 ((x5_3 + (2 : Int32))).toNatClampNeg p3) → (vp_in (x5_3 + (3 : Int32)) 256 ∧ (∀ σ7 : Sg, σ7 = (put σ6 31 ((x5_3 + (3 : Int32))).toNatClampNeg p4) → (vp_in (0 : Int32) 256 ∧ (vp_in (0 : Int32) 256 ∧ (∀ σ8 : Sg, σ8 = (put σ7 31 ((0 : Int32)).toNatClampNeg ((σ7 31 ((0 : Int32)).toNatClampNeg) + (1 : Int32))) → (Q σ8)))))))))))))
set_option maxHeartbeats 4000000 in
set_option maxRecDepth 100000 in
theorem c_X6_placeMore (l : Launch) (G : Gw) (σ : Sg) (p1 p2 p3 p4 : Int32) (Q : Sg → Prop) (hw : wp_X6_placeMore σ p1 p2 p3 p4 Q) : MetV l yX6_placeMore wz_X6_placeMore rm_X6_placeMore G σ [.ref (G.1 30), .int p1, .int p2, .int p3, .int p4] Q := by
  refine MetV.of cX6_placeMore 6 none (by decide) rfl (Nat.le_of_ble_eq_true rfl) ?_
  intro p e s m below meth c X hk ls hl
  have X : KC p m meth c cX6_placeMore 6 s _ wz_X6_placeMore RX6 none G := X
  have hl : lv_has ls 6 [(0, .ref (G.1 30)), (1, .int p1), (2, .int p2), (3, .int p3), (4, .int p4)] := hl
  unfold wp_X6_placeMore at hw
  have hx := X.1.1
  have hb := X.1.2.1
  refine lv_iconst (v := (3 : Int32)) hx hb dX6_placeMore_0 (by decide) ?_
  refine lv_iconst (v := (4 : Int32)) hx hb dX6_placeMore_1 (by decide) ?_
  refine lv_aload_n hx hb dX6_placeMore_2 rfl (lv_at hl 0 rfl) ?_
  refine k_callVi (rest := [.int (4 : Int32), .int (3 : Int32)]) X hk (c_X6_places l G _  _ hw) (cwV 0 X.1.2.2.2.2 (gzV (aw_r15 _ (List.mem_of_getElem? (i := 14) rfl)) (aw_r15 _ (List.mem_of_getElem? (i := 15) rfl)) (aw_r15 _ (List.mem_of_getElem? (i := 16) rfl)) (aw_r1 _ (List.mem_of_getElem? (i := 5) rfl)) (aw_r15 _ (List.mem_of_getElem? (i := 17) rfl))) rfl rfl rfl hd_X6_places ⟨(Nat.le_of_ble_eq_true rfl), (Nat.le_of_ble_eq_true rfl)⟩) (wg_30 G _) rfl rfl hl.1 rfl (Nat.le_of_ble_eq_true rfl) dX6_placeMore_3 ⟨Nat.zero_le _, Nat.zero_le _⟩ (fun r2 σ1 H locs hw hk => ?_)
  refine lv_imul hx hb dX6_placeMore_6 ?_
  refine lv_iadd hx hb dX6_placeMore_7 ?_
  refine lv_topi (fun x5_3 ex5_3 => ?_)
  replace hw := hw x5_3 ex5_3
  refine lv_istore (lv' := [(5, .int x5_3), (0, .ref (G.1 30)), (1, .int p1), (2, .int p2), (3, .int p3), (4, .int p4)]) hx hb dX6_placeMore_8 hl (Nat.le_of_ble_eq_true rfl) rfl (fun ls hl => ?_)
  refine lv_aload_n hx hb dX6_placeMore_10 rfl (lv_at hl 1 rfl) ?_
  refine k_get 1 X hk (wg_30 G _) rfl (hz_wsX60 _) (Nat.le_of_ble_eq_true rfl) (List.mem_cons_of_mem _ (aw_r4 _ (List.mem_of_getElem? (i := 16) rfl))) rfl dX6_placeMore_11 ?_
  refine lv_iload hx hb dX6_placeMore_14 (lv_at hl 0 rfl) ?_
  refine lv_iload_n hx hb dX6_placeMore_16 rfl (lv_at hl 2 rfl) ?_
  refine k_iast X hk (wg_31 G _) (ws_31 G _) rfl hw.1 dX6_placeMore_17 (fun H locs hk => ?_)
  replace hw := hw.2
  obtain ⟨σ4, eσ4⟩ : ∃ y : Sg, y = (put σ1 31 (x5_3).toNatClampNeg p1) := ⟨_, rfl⟩
  rw [← eσ4] at hk
  replace hw := hw σ4 eσ4
  refine lv_aload_n hx hb dX6_placeMore_18 rfl (lv_at hl 1 rfl) ?_
  refine k_get 1 X hk (wg_30 G _) rfl (hz_wsX60 _) (Nat.le_of_ble_eq_true rfl) (List.mem_cons_of_mem _ (aw_r4 _ (List.mem_of_getElem? (i := 16) rfl))) rfl dX6_placeMore_19 ?_
  refine lv_iload hx hb dX6_placeMore_22 (lv_at hl 0 rfl) ?_
  refine lv_iconst (v := (1 : Int32)) hx hb dX6_placeMore_24 (by decide) ?_
  refine lv_iadd hx hb dX6_placeMore_25 ?_
  refine lv_iload_n hx hb dX6_placeMore_26 rfl (lv_at hl 3 rfl) ?_
  refine k_iast X hk (wg_31 G _) (ws_31 G _) rfl hw.1 dX6_placeMore_27 (fun H locs hk => ?_)
  replace hw := hw.2
  obtain ⟨σ5, eσ5⟩ : ∃ y : Sg, y = (put σ4 31 ((x5_3 + (1 : Int32))).toNatClampNeg p2) := ⟨_, rfl⟩
  rw [← eσ5] at hk
  replace hw := hw σ5 eσ5
  refine lv_aload_n hx hb dX6_placeMore_28 rfl (lv_at hl 1 rfl) ?_
  refine k_get 1 X hk (wg_30 G _) rfl (hz_wsX60 _) (Nat.le_of_ble_eq_true rfl) (List.mem_cons_of_mem _ (aw_r4 _ (List.mem_of_getElem? (i := 16) rfl))) rfl dX6_placeMore_29 ?_
  refine lv_iload hx hb dX6_placeMore_32 (lv_at hl 0 rfl) ?_
  refine lv_iconst (v := (2 : Int32)) hx hb dX6_placeMore_34 (by decide) ?_
  refine lv_iadd hx hb dX6_placeMore_35 ?_
  refine lv_iload_n hx hb dX6_placeMore_36 rfl (lv_at hl 4 rfl) ?_
  refine k_iast X hk (wg_31 G _) (ws_31 G _) rfl hw.1 dX6_placeMore_37 (fun H locs hk => ?_)
  replace hw := hw.2
  obtain ⟨σ6, eσ6⟩ : ∃ y : Sg, y = (put σ5 31 ((x5_3 + (2 : Int32))).toNatClampNeg p3) := ⟨_, rfl⟩
  rw [← eσ6] at hk
  replace hw := hw σ6 eσ6
  refine lv_aload_n hx hb dX6_placeMore_38 rfl (lv_at hl 1 rfl) ?_
  refine k_get 1 X hk (wg_30 G _) rfl (hz_wsX60 _) (Nat.le_of_ble_eq_true rfl) (List.mem_cons_of_mem _ (aw_r4 _ (List.mem_of_getElem? (i := 16) rfl))) rfl dX6_placeMore_39 ?_
  refine lv_iload hx hb dX6_placeMore_42 (lv_at hl 0 rfl) ?_
  refine lv_iconst (v := (3 : Int32)) hx hb dX6_placeMore_44 (by decide) ?_
  refine lv_iadd hx hb dX6_placeMore_45 ?_
  refine lv_iload hx hb dX6_placeMore_46 (lv_at hl 5 rfl) ?_
  refine k_iast X hk (wg_31 G _) (ws_31 G _) rfl hw.1 dX6_placeMore_48 (fun H locs hk => ?_)
  replace hw := hw.2
  obtain ⟨σ7, eσ7⟩ : ∃ y : Sg, y = (put σ6 31 ((x5_3 + (3 : Int32))).toNatClampNeg p4) := ⟨_, rfl⟩
  rw [← eσ7] at hk
  replace hw := hw σ7 eσ7
  refine lv_aload_n hx hb dX6_placeMore_49 rfl (lv_at hl 1 rfl) ?_
  refine k_get 1 X hk (wg_30 G _) rfl (hz_wsX60 _) (Nat.le_of_ble_eq_true rfl) (List.mem_cons_of_mem _ (aw_r4 _ (List.mem_of_getElem? (i := 16) rfl))) rfl dX6_placeMore_50 ?_
  refine lv_iconst (v := (0 : Int32)) hx hb dX6_placeMore_53 (by decide) ?_
  refine lv_dup2_11 hx hb dX6_placeMore_54 rfl rfl ?_
  refine k_iald X hk (wg_31 G _) hw.1 dX6_placeMore_55 ?_
  replace hw := hw.2
  refine lv_iconst (v := (1 : Int32)) hx hb dX6_placeMore_56 (by decide) ?_
  refine lv_iadd hx hb dX6_placeMore_57 ?_
  refine k_iast X hk (wg_31 G _) (ws_31 G _) rfl hw.1 dX6_placeMore_58 (fun H locs hk => ?_)
  replace hw := hw.2
  obtain ⟨σ8, eσ8⟩ : ∃ y : Sg, y = (put σ7 31 ((0 : Int32)).toNatClampNeg ((σ7 31 ((0 : Int32)).toNatClampNeg) + (1 : Int32))) := ⟨_, rfl⟩
  rw [← eσ8] at hk
  replace hw := hw σ8 eσ8
  exact k_vret X hk hw dX6_placeMore_59
def rm_X6_roadMore : Room := { frames := 1, cells := 0, slots := 0, locals := 20 }
abbrev wz_X6_roadMore : List Cond := Cond.code yX6_roadMore cX6_roadMore 7 none :: wsA
theorem hd_X6_roadMore : yX6_roadMore.cls = RX6 ∧ yX6_roadMore.cls ≠ "java/lang/invoke/MethodHandle" ∧ yX6_roadMore.cls ≠ "java/lang/invoke/VarHandle" ∧ (parseMethodDescriptor yX6_roadMore.desc).map (fun d => d.parameters.length) = some 5 := by decide +kernel
def wp_X6_roadMore (σ : Sg) (p1 p2 p3 p4 p5 : Int32) (Q : Sg → Prop) : Prop := wp_X6_roads σ  (fun r2 σ1 => ∀ x6_3 : Int32, x6_3 = ((35 : Int32) + ((5 : Int32) * r2)) → (vp_in x6_3 256 ∧ (∀ σ4 : Sg, σ4 = (put σ1 31 (x6_3).toNatClampNeg p1) → (vp_in (x6_3 + (1 : Int32)) 256 ∧ (∀ σ5 : Sg, σ5 = (put σ4 31 ((x6_3 + (1 : Int32))).toNatClampNeg p2) → (vp_in (x6_3 + (2 : Int32)) 256 ∧ (∀ σ6 : Sg, σ6 = (put σ5 31 ((x6_3 + (2 : Int32))).toNatClampNeg p3) → (vp_in (x6_3 + (3 : Int32)) 256 ∧ (∀ σ7 : Sg, σ7 = (put σ6 31 ((x6_3 + (3 : Int32))).toNatClampNeg p4) → (vp_in (x6_3 + (4 : Int32)) 256 ∧ (∀ σ8 : Sg, σ8 = (put σ7 31 ((x6_3 + (4 : Int32))).toNatClampNeg p5) → (vp_in (1 : Int32) 256 ∧ (vp_in (1 : Int32) 256 ∧ (∀ σ9 : Sg, σ9 = (put σ8 31 ((1 : Int32)).toNatClampNeg ((σ8 31 ((1 : Int32)).toNatClampNeg) + (1 : Int32))) → (Q σ9)))))))))))))))
set_option maxHeartbeats 4000000 in
set_option maxRecDepth 100000 in
theorem c_X6_roadMore (l : Launch) (G : Gw) (σ : Sg) (p1 p2 p3 p4 p5 : Int32) (Q : Sg → Prop) (hw : wp_X6_roadMore σ p1 p2 p3 p4 p5 Q) : MetV l yX6_roadMore wz_X6_roadMore rm_X6_roadMore G σ [.ref (G.1 30), .int p1, .int p2, .int p3, .int p4, .int p5] Q := by
  refine MetV.of cX6_roadMore 7 none (by decide) rfl (Nat.le_of_ble_eq_true rfl) ?_
  intro p e s m below meth c X hk ls hl
  have X : KC p m meth c cX6_roadMore 7 s _ wz_X6_roadMore RX6 none G := X
  have hl : lv_has ls 7 [(0, .ref (G.1 30)), (1, .int p1), (2, .int p2), (3, .int p3), (4, .int p4), (5, .int p5)] := hl
  unfold wp_X6_roadMore at hw
  have hx := X.1.1
  have hb := X.1.2.1
  refine lv_bipush (v := (35 : Int32)) hx hb dX6_roadMore_0 (by decide) ?_
  refine lv_iconst (v := (5 : Int32)) hx hb dX6_roadMore_2 (by decide) ?_
  refine lv_aload_n hx hb dX6_roadMore_3 rfl (lv_at hl 0 rfl) ?_
  refine k_callVi (rest := [.int (5 : Int32), .int (35 : Int32)]) X hk (c_X6_roads l G _  _ hw) (cwV 0 X.1.2.2.2.2 (gzV (aw_r16 _ (List.mem_of_getElem? (i := 18) rfl)) (aw_r16 _ (List.mem_of_getElem? (i := 19) rfl)) (aw_r16 _ (List.mem_of_getElem? (i := 20) rfl)) (aw_r1 _ (List.mem_of_getElem? (i := 5) rfl)) (aw_r16 _ (List.mem_of_getElem? (i := 21) rfl))) rfl rfl rfl hd_X6_roads ⟨(Nat.le_of_ble_eq_true rfl), (Nat.le_of_ble_eq_true rfl)⟩) (wg_30 G _) rfl rfl hl.1 rfl (Nat.le_of_ble_eq_true rfl) dX6_roadMore_4 ⟨Nat.zero_le _, Nat.zero_le _⟩ (fun r2 σ1 H locs hw hk => ?_)
  refine lv_imul hx hb dX6_roadMore_7 ?_
  refine lv_iadd hx hb dX6_roadMore_8 ?_
  refine lv_topi (fun x6_3 ex6_3 => ?_)
  replace hw := hw x6_3 ex6_3
  refine lv_istore (lv' := [(6, .int x6_3), (0, .ref (G.1 30)), (1, .int p1), (2, .int p2), (3, .int p3), (4, .int p4), (5, .int p5)]) hx hb dX6_roadMore_9 hl (Nat.le_of_ble_eq_true rfl) rfl (fun ls hl => ?_)
  refine lv_aload_n hx hb dX6_roadMore_11 rfl (lv_at hl 1 rfl) ?_
  refine k_get 1 X hk (wg_30 G _) rfl (hz_wsX60 _) (Nat.le_of_ble_eq_true rfl) (List.mem_cons_of_mem _ (aw_r4 _ (List.mem_of_getElem? (i := 16) rfl))) rfl dX6_roadMore_12 ?_
  refine lv_iload hx hb dX6_roadMore_15 (lv_at hl 0 rfl) ?_
  refine lv_iload_n hx hb dX6_roadMore_17 rfl (lv_at hl 2 rfl) ?_
  refine k_iast X hk (wg_31 G _) (ws_31 G _) rfl hw.1 dX6_roadMore_18 (fun H locs hk => ?_)
  replace hw := hw.2
  obtain ⟨σ4, eσ4⟩ : ∃ y : Sg, y = (put σ1 31 (x6_3).toNatClampNeg p1) := ⟨_, rfl⟩
  rw [← eσ4] at hk
  replace hw := hw σ4 eσ4
  refine lv_aload_n hx hb dX6_roadMore_19 rfl (lv_at hl 1 rfl) ?_
  refine k_get 1 X hk (wg_30 G _) rfl (hz_wsX60 _) (Nat.le_of_ble_eq_true rfl) (List.mem_cons_of_mem _ (aw_r4 _ (List.mem_of_getElem? (i := 16) rfl))) rfl dX6_roadMore_20 ?_
  refine lv_iload hx hb dX6_roadMore_23 (lv_at hl 0 rfl) ?_
  refine lv_iconst (v := (1 : Int32)) hx hb dX6_roadMore_25 (by decide) ?_
  refine lv_iadd hx hb dX6_roadMore_26 ?_
  refine lv_iload_n hx hb dX6_roadMore_27 rfl (lv_at hl 3 rfl) ?_
  refine k_iast X hk (wg_31 G _) (ws_31 G _) rfl hw.1 dX6_roadMore_28 (fun H locs hk => ?_)
  replace hw := hw.2
  obtain ⟨σ5, eσ5⟩ : ∃ y : Sg, y = (put σ4 31 ((x6_3 + (1 : Int32))).toNatClampNeg p2) := ⟨_, rfl⟩
  rw [← eσ5] at hk
  replace hw := hw σ5 eσ5
  refine lv_aload_n hx hb dX6_roadMore_29 rfl (lv_at hl 1 rfl) ?_
  refine k_get 1 X hk (wg_30 G _) rfl (hz_wsX60 _) (Nat.le_of_ble_eq_true rfl) (List.mem_cons_of_mem _ (aw_r4 _ (List.mem_of_getElem? (i := 16) rfl))) rfl dX6_roadMore_30 ?_
  refine lv_iload hx hb dX6_roadMore_33 (lv_at hl 0 rfl) ?_
  refine lv_iconst (v := (2 : Int32)) hx hb dX6_roadMore_35 (by decide) ?_
  refine lv_iadd hx hb dX6_roadMore_36 ?_
  refine lv_iload_n hx hb dX6_roadMore_37 rfl (lv_at hl 4 rfl) ?_
  refine k_iast X hk (wg_31 G _) (ws_31 G _) rfl hw.1 dX6_roadMore_38 (fun H locs hk => ?_)
  replace hw := hw.2
  obtain ⟨σ6, eσ6⟩ : ∃ y : Sg, y = (put σ5 31 ((x6_3 + (2 : Int32))).toNatClampNeg p3) := ⟨_, rfl⟩
  rw [← eσ6] at hk
  replace hw := hw σ6 eσ6
  refine lv_aload_n hx hb dX6_roadMore_39 rfl (lv_at hl 1 rfl) ?_
  refine k_get 1 X hk (wg_30 G _) rfl (hz_wsX60 _) (Nat.le_of_ble_eq_true rfl) (List.mem_cons_of_mem _ (aw_r4 _ (List.mem_of_getElem? (i := 16) rfl))) rfl dX6_roadMore_40 ?_
  refine lv_iload hx hb dX6_roadMore_43 (lv_at hl 0 rfl) ?_
  refine lv_iconst (v := (3 : Int32)) hx hb dX6_roadMore_45 (by decide) ?_
  refine lv_iadd hx hb dX6_roadMore_46 ?_
  refine lv_iload hx hb dX6_roadMore_47 (lv_at hl 5 rfl) ?_
  refine k_iast X hk (wg_31 G _) (ws_31 G _) rfl hw.1 dX6_roadMore_49 (fun H locs hk => ?_)
  replace hw := hw.2
  obtain ⟨σ7, eσ7⟩ : ∃ y : Sg, y = (put σ6 31 ((x6_3 + (3 : Int32))).toNatClampNeg p4) := ⟨_, rfl⟩
  rw [← eσ7] at hk
  replace hw := hw σ7 eσ7
  refine lv_aload_n hx hb dX6_roadMore_50 rfl (lv_at hl 1 rfl) ?_
  refine k_get 1 X hk (wg_30 G _) rfl (hz_wsX60 _) (Nat.le_of_ble_eq_true rfl) (List.mem_cons_of_mem _ (aw_r4 _ (List.mem_of_getElem? (i := 16) rfl))) rfl dX6_roadMore_51 ?_
  refine lv_iload hx hb dX6_roadMore_54 (lv_at hl 0 rfl) ?_
  refine lv_iconst (v := (4 : Int32)) hx hb dX6_roadMore_56 (by decide) ?_
  refine lv_iadd hx hb dX6_roadMore_57 ?_
  refine lv_iload hx hb dX6_roadMore_58 (lv_at hl 6 rfl) ?_
  refine k_iast X hk (wg_31 G _) (ws_31 G _) rfl hw.1 dX6_roadMore_60 (fun H locs hk => ?_)
  replace hw := hw.2
  obtain ⟨σ8, eσ8⟩ : ∃ y : Sg, y = (put σ7 31 ((x6_3 + (4 : Int32))).toNatClampNeg p5) := ⟨_, rfl⟩
  rw [← eσ8] at hk
  replace hw := hw σ8 eσ8
  refine lv_aload_n hx hb dX6_roadMore_61 rfl (lv_at hl 1 rfl) ?_
  refine k_get 1 X hk (wg_30 G _) rfl (hz_wsX60 _) (Nat.le_of_ble_eq_true rfl) (List.mem_cons_of_mem _ (aw_r4 _ (List.mem_of_getElem? (i := 16) rfl))) rfl dX6_roadMore_62 ?_
  refine lv_iconst (v := (1 : Int32)) hx hb dX6_roadMore_65 (by decide) ?_
  refine lv_dup2_11 hx hb dX6_roadMore_66 rfl rfl ?_
  refine k_iald X hk (wg_31 G _) hw.1 dX6_roadMore_67 ?_
  replace hw := hw.2
  refine lv_iconst (v := (1 : Int32)) hx hb dX6_roadMore_68 (by decide) ?_
  refine lv_iadd hx hb dX6_roadMore_69 ?_
  refine k_iast X hk (wg_31 G _) (ws_31 G _) rfl hw.1 dX6_roadMore_70 (fun H locs hk => ?_)
  replace hw := hw.2
  obtain ⟨σ9, eσ9⟩ : ∃ y : Sg, y = (put σ8 31 ((1 : Int32)).toNatClampNeg ((σ8 31 ((1 : Int32)).toNatClampNeg) + (1 : Int32))) := ⟨_, rfl⟩
  rw [← eσ9] at hk
  replace hw := hw σ9 eσ9
  exact k_vret X hk hw dX6_roadMore_71
def rm_X6_moveMore : Room := { frames := 1, cells := 0, slots := 0, locals := 20 }
abbrev wz_X6_moveMore : List Cond := Cond.code yX6_moveMore cX6_moveMore 6 none :: wsA
theorem hd_X6_moveMore : yX6_moveMore.cls = RX6 ∧ yX6_moveMore.cls ≠ "java/lang/invoke/MethodHandle" ∧ yX6_moveMore.cls ≠ "java/lang/invoke/VarHandle" ∧ (parseMethodDescriptor yX6_moveMore.desc).map (fun d => d.parameters.length) = some 4 := by decide +kernel
def wp_X6_moveMore (σ : Sg) (p1 p2 p3 p4 : Int32) (Q : Sg → Prop) : Prop := wp_X6_moves σ  (fun r2 σ1 => ∀ x5_3 : Int32, x5_3 = ((95 : Int32) + ((4 : Int32) * r2)) → (vp_in x5_3 256 ∧ (∀ σ4 : Sg, σ4 = (put σ1 31 (x5_3).toNatClampNeg p1) → (vp_in (x5_3 + (1 : Int32)) 256 ∧ (∀ σ5 : Sg, σ5 = (put σ4 31 ((x5_3 + (1 : Int32))).toNatClampNeg p2) → (vp_in (x5_3 + (2 : Int32)) 256 ∧ (∀ σ6 : Sg, σ6 = (put σ5 31 ((x5_3 + (2 : Int32))).toNatClampNeg p3) → (vp_in (x5_3 + (3 : Int32)) 256 ∧ (∀ σ7 : Sg, σ7 = (put σ6 31 ((x5_3 + (3 : Int32))).toNatClampNeg p4) → (vp_in (2 : Int32) 256 ∧ (vp_in (2 : Int32) 256 ∧ (∀ σ8 : Sg, σ8 = (put σ7 31 ((2 : Int32)).toNatClampNeg ((σ7 31 ((2 : Int32)).toNatClampNeg) + (1 : Int32))) → (Q σ8)))))))))))))
set_option maxHeartbeats 4000000 in
set_option maxRecDepth 100000 in
theorem c_X6_moveMore (l : Launch) (G : Gw) (σ : Sg) (p1 p2 p3 p4 : Int32) (Q : Sg → Prop) (hw : wp_X6_moveMore σ p1 p2 p3 p4 Q) : MetV l yX6_moveMore wz_X6_moveMore rm_X6_moveMore G σ [.ref (G.1 30), .int p1, .int p2, .int p3, .int p4] Q := by
  refine MetV.of cX6_moveMore 6 none (by decide) rfl (Nat.le_of_ble_eq_true rfl) ?_
  intro p e s m below meth c X hk ls hl
  have X : KC p m meth c cX6_moveMore 6 s _ wz_X6_moveMore RX6 none G := X
  have hl : lv_has ls 6 [(0, .ref (G.1 30)), (1, .int p1), (2, .int p2), (3, .int p3), (4, .int p4)] := hl
  unfold wp_X6_moveMore at hw
  have hx := X.1.1
  have hb := X.1.2.1
  refine lv_bipush (v := (95 : Int32)) hx hb dX6_moveMore_0 (by decide) ?_
  refine lv_iconst (v := (4 : Int32)) hx hb dX6_moveMore_2 (by decide) ?_
  refine lv_aload_n hx hb dX6_moveMore_3 rfl (lv_at hl 0 rfl) ?_
  refine k_callVi (rest := [.int (4 : Int32), .int (95 : Int32)]) X hk (c_X6_moves l G _  _ hw) (cwV 0 X.1.2.2.2.2 (gzV (aw_r18 _ (List.mem_of_getElem? (i := 2) rfl)) (aw_r18 _ (List.mem_of_getElem? (i := 3) rfl)) (aw_r18 _ (List.mem_of_getElem? (i := 4) rfl)) (aw_r1 _ (List.mem_of_getElem? (i := 5) rfl)) (aw_r18 _ (List.mem_of_getElem? (i := 5) rfl))) rfl rfl rfl hd_X6_moves ⟨(Nat.le_of_ble_eq_true rfl), (Nat.le_of_ble_eq_true rfl)⟩) (wg_30 G _) rfl rfl hl.1 rfl (Nat.le_of_ble_eq_true rfl) dX6_moveMore_4 ⟨Nat.zero_le _, Nat.zero_le _⟩ (fun r2 σ1 H locs hw hk => ?_)
  refine lv_imul hx hb dX6_moveMore_7 ?_
  refine lv_iadd hx hb dX6_moveMore_8 ?_
  refine lv_topi (fun x5_3 ex5_3 => ?_)
  replace hw := hw x5_3 ex5_3
  refine lv_istore (lv' := [(5, .int x5_3), (0, .ref (G.1 30)), (1, .int p1), (2, .int p2), (3, .int p3), (4, .int p4)]) hx hb dX6_moveMore_9 hl (Nat.le_of_ble_eq_true rfl) rfl (fun ls hl => ?_)
  refine lv_aload_n hx hb dX6_moveMore_11 rfl (lv_at hl 1 rfl) ?_
  refine k_get 1 X hk (wg_30 G _) rfl (hz_wsX60 _) (Nat.le_of_ble_eq_true rfl) (List.mem_cons_of_mem _ (aw_r4 _ (List.mem_of_getElem? (i := 16) rfl))) rfl dX6_moveMore_12 ?_
  refine lv_iload hx hb dX6_moveMore_15 (lv_at hl 0 rfl) ?_
  refine lv_iload_n hx hb dX6_moveMore_17 rfl (lv_at hl 2 rfl) ?_
  refine k_iast X hk (wg_31 G _) (ws_31 G _) rfl hw.1 dX6_moveMore_18 (fun H locs hk => ?_)
  replace hw := hw.2
  obtain ⟨σ4, eσ4⟩ : ∃ y : Sg, y = (put σ1 31 (x5_3).toNatClampNeg p1) := ⟨_, rfl⟩
  rw [← eσ4] at hk
  replace hw := hw σ4 eσ4
  refine lv_aload_n hx hb dX6_moveMore_19 rfl (lv_at hl 1 rfl) ?_
  refine k_get 1 X hk (wg_30 G _) rfl (hz_wsX60 _) (Nat.le_of_ble_eq_true rfl) (List.mem_cons_of_mem _ (aw_r4 _ (List.mem_of_getElem? (i := 16) rfl))) rfl dX6_moveMore_20 ?_
  refine lv_iload hx hb dX6_moveMore_23 (lv_at hl 0 rfl) ?_
  refine lv_iconst (v := (1 : Int32)) hx hb dX6_moveMore_25 (by decide) ?_
  refine lv_iadd hx hb dX6_moveMore_26 ?_
  refine lv_iload_n hx hb dX6_moveMore_27 rfl (lv_at hl 3 rfl) ?_
  refine k_iast X hk (wg_31 G _) (ws_31 G _) rfl hw.1 dX6_moveMore_28 (fun H locs hk => ?_)
  replace hw := hw.2
  obtain ⟨σ5, eσ5⟩ : ∃ y : Sg, y = (put σ4 31 ((x5_3 + (1 : Int32))).toNatClampNeg p2) := ⟨_, rfl⟩
  rw [← eσ5] at hk
  replace hw := hw σ5 eσ5
  refine lv_aload_n hx hb dX6_moveMore_29 rfl (lv_at hl 1 rfl) ?_
  refine k_get 1 X hk (wg_30 G _) rfl (hz_wsX60 _) (Nat.le_of_ble_eq_true rfl) (List.mem_cons_of_mem _ (aw_r4 _ (List.mem_of_getElem? (i := 16) rfl))) rfl dX6_moveMore_30 ?_
  refine lv_iload hx hb dX6_moveMore_33 (lv_at hl 0 rfl) ?_
  refine lv_iconst (v := (2 : Int32)) hx hb dX6_moveMore_35 (by decide) ?_
  refine lv_iadd hx hb dX6_moveMore_36 ?_
  refine lv_iload_n hx hb dX6_moveMore_37 rfl (lv_at hl 4 rfl) ?_
  refine k_iast X hk (wg_31 G _) (ws_31 G _) rfl hw.1 dX6_moveMore_38 (fun H locs hk => ?_)
  replace hw := hw.2
  obtain ⟨σ6, eσ6⟩ : ∃ y : Sg, y = (put σ5 31 ((x5_3 + (2 : Int32))).toNatClampNeg p3) := ⟨_, rfl⟩
  rw [← eσ6] at hk
  replace hw := hw σ6 eσ6
  refine lv_aload_n hx hb dX6_moveMore_39 rfl (lv_at hl 1 rfl) ?_
  refine k_get 1 X hk (wg_30 G _) rfl (hz_wsX60 _) (Nat.le_of_ble_eq_true rfl) (List.mem_cons_of_mem _ (aw_r4 _ (List.mem_of_getElem? (i := 16) rfl))) rfl dX6_moveMore_40 ?_
  refine lv_iload hx hb dX6_moveMore_43 (lv_at hl 0 rfl) ?_
  refine lv_iconst (v := (3 : Int32)) hx hb dX6_moveMore_45 (by decide) ?_
  refine lv_iadd hx hb dX6_moveMore_46 ?_
  refine lv_iload hx hb dX6_moveMore_47 (lv_at hl 5 rfl) ?_
  refine k_iast X hk (wg_31 G _) (ws_31 G _) rfl hw.1 dX6_moveMore_49 (fun H locs hk => ?_)
  replace hw := hw.2
  obtain ⟨σ7, eσ7⟩ : ∃ y : Sg, y = (put σ6 31 ((x5_3 + (3 : Int32))).toNatClampNeg p4) := ⟨_, rfl⟩
  rw [← eσ7] at hk
  replace hw := hw σ7 eσ7
  refine lv_aload_n hx hb dX6_moveMore_50 rfl (lv_at hl 1 rfl) ?_
  refine k_get 1 X hk (wg_30 G _) rfl (hz_wsX60 _) (Nat.le_of_ble_eq_true rfl) (List.mem_cons_of_mem _ (aw_r4 _ (List.mem_of_getElem? (i := 16) rfl))) rfl dX6_moveMore_51 ?_
  refine lv_iconst (v := (2 : Int32)) hx hb dX6_moveMore_54 (by decide) ?_
  refine lv_dup2_11 hx hb dX6_moveMore_55 rfl rfl ?_
  refine k_iald X hk (wg_31 G _) hw.1 dX6_moveMore_56 ?_
  replace hw := hw.2
  refine lv_iconst (v := (1 : Int32)) hx hb dX6_moveMore_57 (by decide) ?_
  refine lv_iadd hx hb dX6_moveMore_58 ?_
  refine k_iast X hk (wg_31 G _) (ws_31 G _) rfl hw.1 dX6_moveMore_59 (fun H locs hk => ?_)
  replace hw := hw.2
  obtain ⟨σ8, eσ8⟩ : ∃ y : Sg, y = (put σ7 31 ((2 : Int32)).toNatClampNeg ((σ7 31 ((2 : Int32)).toNatClampNeg) + (1 : Int32))) := ⟨_, rfl⟩
  rw [← eσ8] at hk
  replace hw := hw σ8 eσ8
  exact k_vret X hk hw dX6_moveMore_60
def rm_X6_place : Room := { frames := 2, cells := 0, slots := 0, locals := 45 }
abbrev wz_X6_place : List Cond := Cond.code yX6_place cX6_place 5 (some .int) :: wsA
theorem hd_X6_place : yX6_place.cls = RX6 ∧ yX6_place.cls ≠ "java/lang/invoke/MethodHandle" ∧ yX6_place.cls ≠ "java/lang/invoke/VarHandle" ∧ (parseMethodDescriptor yX6_place.desc).map (fun d => d.parameters.length) = some 4 := by decide +kernel
def wp_X6_place (σ : Sg) (p1 p2 p3 p4 : Int32) (Q : Int32 → Sg → Prop) : Prop := ∀ σ1 : Sg, σ1 = (put σ 30 0 (0 : Int32)) → (wp_X6_mayBe σ1 (0 : Int32) p1 (fun r3 σ2 => (r3 = 0 → (Q (-1 : Int32) σ2)) ∧ (¬ (r3 = 0) → (wp_X6_mayBe σ2 (1 : Int32) p2 (fun r6 σ5 => (r6 = 0 → (Q (-1 : Int32) σ5)) ∧ (¬ (r6 = 0) → (wp_X6_mayBe σ5 (2 : Int32) p3 (fun r9 σ8 => (r9 = 0 → (Q (-1 : Int32) σ8)) ∧ (¬ (r9 = 0) → (wp_X6_mayBe σ8 (3 : Int32) p4 (fun r12 σ11 => (r12 = 0 → (Q (-1 : Int32) σ11)) ∧ (¬ (r12 = 0) → (wp_X6_places σ11  (fun r15 σ14 => (r15 = (8 : Int32) → (Q (-2 : Int32) σ14)) ∧ (¬ (r15 = (8 : Int32)) → (wp_X6_placeMore σ14 p1 p2 p3 p4 (fun σ17 => wp_X6_places σ17  (fun r20 σ19 => Q (r20 - (1 : Int32)) σ19))))))))))))))))))
set_option maxHeartbeats 4000000 in
set_option maxRecDepth 100000 in
theorem c_X6_place (l : Launch) (G : Gw) (σ : Sg) (p1 p2 p3 p4 : Int32) (Q : Int32 → Sg → Prop) (hw : wp_X6_place σ p1 p2 p3 p4 Q) : MetI l yX6_place wz_X6_place rm_X6_place G σ [.ref (G.1 30), .int p1, .int p2, .int p3, .int p4] Q := by
  refine MetI.of cX6_place 5 (some .int) (by decide) rfl (Nat.le_of_ble_eq_true rfl) ?_
  intro p e s m below meth c X hk ls hl
  have X : KC p m meth c cX6_place 5 s _ wz_X6_place RX6 (some .int) G := X
  have hl : lv_has ls 5 [(0, .ref (G.1 30)), (1, .int p1), (2, .int p2), (3, .int p3), (4, .int p4)] := hl
  unfold wp_X6_place at hw
  have hx := X.1.1
  have hb := X.1.2.1
  refine lv_aload_n hx hb dX6_place_0 rfl (lv_at hl 0 rfl) ?_
  refine lv_iconst (v := (0 : Int32)) hx hb dX6_place_1 (by decide) ?_
  refine k_put 0 X hk (wg_30 G _) rfl (hz_wsX60 _) tyX6_ok nmX6 (Nat.le_of_ble_eq_true rfl) (List.mem_cons_of_mem _ (aw_r6 _ (List.mem_of_getElem? (i := 3) rfl))) rfl rfl (Nat.le_of_ble_eq_true rfl) (ws_30_0 G _ _) dX6_place_2 (fun H locs hk => ?_)
  obtain ⟨σ1, eσ1⟩ : ∃ y : Sg, y = (put σ 30 0 (0 : Int32)) := ⟨_, rfl⟩
  rw [← eσ1] at hk
  replace hw := hw σ1 eσ1
  refine lv_iconst (v := (0 : Int32)) hx hb dX6_place_5 (by decide) ?_
  refine lv_iload_n hx hb dX6_place_6 rfl (lv_at hl 1 rfl) ?_
  refine k_callSi (rest := []) X hk (c_X6_mayBe l G _ _ _ _ hw) (va_cwS 2 X.1.2.2.2.2 (gzS (aw_r19 _ (List.mem_of_getElem? (i := 10) rfl)) (aw_r19 _ (List.mem_of_getElem? (i := 11) rfl)) (aw_r1 _ (List.mem_of_getElem? (i := 5) rfl)) (aw_r19 _ (List.mem_of_getElem? (i := 12) rfl))) rfl rfl rfl hds_X6_mayBe ⟨(Nat.le_of_ble_eq_true rfl), (Nat.le_of_ble_eq_true rfl)⟩) rfl hl.1 rfl (Nat.le_of_ble_eq_true rfl) dX6_place_7 ⟨Nat.zero_le _, Nat.zero_le _⟩ (fun r3 σ2 H locs hw hk => ?_)
  refine lv_if_eq (tgt := 38) hx hb dX6_place_10 (by decide) (fun c4 => ?_) (fun c4 => ?_)
  · replace hw := hw.1 c4
    refine lv_iconst (v := (-1 : Int32)) hx hb dX6_place_38 (by decide) ?_
    exact k_iret X hk hw dX6_place_39
  · replace hw := hw.2 c4
    refine lv_iconst (v := (1 : Int32)) hx hb dX6_place_13 (by decide) ?_
    refine lv_iload_n hx hb dX6_place_14 rfl (lv_at hl 2 rfl) ?_
    refine k_callSi (rest := []) X hk (c_X6_mayBe l G _ _ _ _ hw) (va_cwS 2 X.1.2.2.2.2 (gzS (aw_r19 _ (List.mem_of_getElem? (i := 10) rfl)) (aw_r19 _ (List.mem_of_getElem? (i := 11) rfl)) (aw_r1 _ (List.mem_of_getElem? (i := 5) rfl)) (aw_r19 _ (List.mem_of_getElem? (i := 12) rfl))) rfl rfl rfl hds_X6_mayBe ⟨(Nat.le_of_ble_eq_true rfl), (Nat.le_of_ble_eq_true rfl)⟩) rfl hl.1 rfl (Nat.le_of_ble_eq_true rfl) dX6_place_15 ⟨Nat.zero_le _, Nat.zero_le _⟩ (fun r6 σ5 H locs hw hk => ?_)
    refine lv_if_eq (tgt := 38) hx hb dX6_place_18 (by decide) (fun c7 => ?_) (fun c7 => ?_)
    · replace hw := hw.1 c7
      refine lv_iconst (v := (-1 : Int32)) hx hb dX6_place_38 (by decide) ?_
      exact k_iret X hk hw dX6_place_39
    · replace hw := hw.2 c7
      refine lv_iconst (v := (2 : Int32)) hx hb dX6_place_21 (by decide) ?_
      refine lv_iload_n hx hb dX6_place_22 rfl (lv_at hl 3 rfl) ?_
      refine k_callSi (rest := []) X hk (c_X6_mayBe l G _ _ _ _ hw) (va_cwS 2 X.1.2.2.2.2 (gzS (aw_r19 _ (List.mem_of_getElem? (i := 10) rfl)) (aw_r19 _ (List.mem_of_getElem? (i := 11) rfl)) (aw_r1 _ (List.mem_of_getElem? (i := 5) rfl)) (aw_r19 _ (List.mem_of_getElem? (i := 12) rfl))) rfl rfl rfl hds_X6_mayBe ⟨(Nat.le_of_ble_eq_true rfl), (Nat.le_of_ble_eq_true rfl)⟩) rfl hl.1 rfl (Nat.le_of_ble_eq_true rfl) dX6_place_23 ⟨Nat.zero_le _, Nat.zero_le _⟩ (fun r9 σ8 H locs hw hk => ?_)
      refine lv_if_eq (tgt := 38) hx hb dX6_place_26 (by decide) (fun c10 => ?_) (fun c10 => ?_)
      · replace hw := hw.1 c10
        refine lv_iconst (v := (-1 : Int32)) hx hb dX6_place_38 (by decide) ?_
        exact k_iret X hk hw dX6_place_39
      · replace hw := hw.2 c10
        refine lv_iconst (v := (3 : Int32)) hx hb dX6_place_29 (by decide) ?_
        refine lv_iload hx hb dX6_place_30 (lv_at hl 4 rfl) ?_
        refine k_callSi (rest := []) X hk (c_X6_mayBe l G _ _ _ _ hw) (va_cwS 2 X.1.2.2.2.2 (gzS (aw_r19 _ (List.mem_of_getElem? (i := 10) rfl)) (aw_r19 _ (List.mem_of_getElem? (i := 11) rfl)) (aw_r1 _ (List.mem_of_getElem? (i := 5) rfl)) (aw_r19 _ (List.mem_of_getElem? (i := 12) rfl))) rfl rfl rfl hds_X6_mayBe ⟨(Nat.le_of_ble_eq_true rfl), (Nat.le_of_ble_eq_true rfl)⟩) rfl hl.1 rfl (Nat.le_of_ble_eq_true rfl) dX6_place_32 ⟨Nat.zero_le _, Nat.zero_le _⟩ (fun r12 σ11 H locs hw hk => ?_)
        refine lv_if_ne (tgt := 40) hx hb dX6_place_35 (by decide) (fun c13 => ?_) (fun c13 => ?_)
        · replace hw := hw.2 c13
          refine lv_aload_n hx hb dX6_place_40 rfl (lv_at hl 0 rfl) ?_
          refine k_callVi (rest := []) X hk (c_X6_places l G _  _ hw) (cwV 0 X.1.2.2.2.2 (gzV (aw_r15 _ (List.mem_of_getElem? (i := 14) rfl)) (aw_r15 _ (List.mem_of_getElem? (i := 15) rfl)) (aw_r15 _ (List.mem_of_getElem? (i := 16) rfl)) (aw_r1 _ (List.mem_of_getElem? (i := 5) rfl)) (aw_r15 _ (List.mem_of_getElem? (i := 17) rfl))) rfl rfl rfl hd_X6_places ⟨(Nat.le_of_ble_eq_true rfl), (Nat.le_of_ble_eq_true rfl)⟩) (wg_30 G _) rfl rfl hl.1 rfl (Nat.le_of_ble_eq_true rfl) dX6_place_41 ⟨Nat.zero_le _, Nat.zero_le _⟩ (fun r15 σ14 H locs hw hk => ?_)
          refine lv_bipush (v := (8 : Int32)) hx hb dX6_place_44 (by decide) ?_
          refine lv_icmp_ne (tgt := 52) hx hb dX6_place_46 (by decide) (fun c16 => ?_) (fun c16 => ?_)
          · replace hw := hw.2 c16
            refine lv_aload_n hx hb dX6_place_52 rfl (lv_at hl 0 rfl) ?_
            refine lv_iload_n hx hb dX6_place_53 rfl (lv_at hl 1 rfl) ?_
            refine lv_iload_n hx hb dX6_place_54 rfl (lv_at hl 2 rfl) ?_
            refine lv_iload_n hx hb dX6_place_55 rfl (lv_at hl 3 rfl) ?_
            refine lv_iload hx hb dX6_place_56 (lv_at hl 4 rfl) ?_
            refine k_callVv (rest := []) X hk (c_X6_placeMore l G _ _ _ _ _ _ hw) (cwV 4 X.1.2.2.2.2 (gzV (aw_r16 _ (List.mem_of_getElem? (i := 10) rfl)) (aw_r16 _ (List.mem_of_getElem? (i := 11) rfl)) (aw_r16 _ (List.mem_of_getElem? (i := 12) rfl)) (aw_r1 _ (List.mem_of_getElem? (i := 5) rfl)) (aw_r16 _ (List.mem_of_getElem? (i := 13) rfl))) rfl rfl rfl hd_X6_placeMore ⟨(Nat.le_of_ble_eq_true rfl), (Nat.le_of_ble_eq_true rfl)⟩) (wg_30 G _) rfl rfl hl.1 rfl (Nat.le_of_ble_eq_true rfl) dX6_place_58 ⟨Nat.zero_le _, Nat.zero_le _⟩ (fun σ17 H locs hw hk => ?_)
            refine lv_aload_n hx hb dX6_place_61 rfl (lv_at hl 0 rfl) ?_
            refine k_callVi (rest := []) X hk (c_X6_places l G _  _ hw) (cwV 0 X.1.2.2.2.2 (gzV (aw_r15 _ (List.mem_of_getElem? (i := 14) rfl)) (aw_r15 _ (List.mem_of_getElem? (i := 15) rfl)) (aw_r15 _ (List.mem_of_getElem? (i := 16) rfl)) (aw_r1 _ (List.mem_of_getElem? (i := 5) rfl)) (aw_r15 _ (List.mem_of_getElem? (i := 17) rfl))) rfl rfl rfl hd_X6_places ⟨(Nat.le_of_ble_eq_true rfl), (Nat.le_of_ble_eq_true rfl)⟩) (wg_30 G _) rfl rfl hl.1 rfl (Nat.le_of_ble_eq_true rfl) dX6_place_62 ⟨Nat.zero_le _, Nat.zero_le _⟩ (fun r20 σ19 H locs hw hk => ?_)
            refine lv_iconst (v := (1 : Int32)) hx hb dX6_place_65 (by decide) ?_
            refine lv_isub hx hb dX6_place_66 ?_
            exact k_iret X hk hw dX6_place_67
          · replace hw := hw.1 c16
            refine lv_bipush (v := (-2 : Int32)) hx hb dX6_place_49 (by decide) ?_
            exact k_iret X hk hw dX6_place_51
        · replace hw := hw.1 c13
          refine lv_iconst (v := (-1 : Int32)) hx hb dX6_place_38 (by decide) ?_
          exact k_iret X hk hw dX6_place_39
def rm_X6_road : Room := { frames := 2, cells := 0, slots := 0, locals := 46 }
abbrev wz_X6_road : List Cond := Cond.code yX6_road cX6_road 6 (some .int) :: wsA
theorem hd_X6_road : yX6_road.cls = RX6 ∧ yX6_road.cls ≠ "java/lang/invoke/MethodHandle" ∧ yX6_road.cls ≠ "java/lang/invoke/VarHandle" ∧ (parseMethodDescriptor yX6_road.desc).map (fun d => d.parameters.length) = some 5 := by decide +kernel
def wp_X6_road (σ : Sg) (p1 p2 p3 p4 p5 : Int32) (Q : Int32 → Sg → Prop) : Prop := ∀ σ1 : Sg, σ1 = (put σ 30 0 (0 : Int32)) → (wp_X6_isPlace σ1 p1 (fun r3 σ2 => (r3 = 0 → (Q (-1 : Int32) σ2)) ∧ (¬ (r3 = 0) → (wp_X6_isPlace σ2 p2 (fun r6 σ5 => (r6 = 0 → (Q (-1 : Int32) σ5)) ∧ (¬ (r6 = 0) → ((p1 = p2 → (Q (-1 : Int32) σ5)) ∧ (¬ (p1 = p2) → (wp_X6_isIn σ5 p3 (1 : Int32) (9 : Int32) (fun r10 σ9 => (r10 = 0 → (Q (-1 : Int32) σ9)) ∧ (¬ (r10 = 0) → (wp_X6_isIn σ9 p4 (0 : Int32) (9 : Int32) (fun r13 σ12 => (r13 = 0 → (Q (-1 : Int32) σ12)) ∧ (¬ (r13 = 0) → (wp_X6_isIn σ12 p5 (0 : Int32) (9 : Int32) (fun r16 σ15 => (r16 = 0 → (Q (-1 : Int32) σ15)) ∧ (¬ (r16 = 0) → (((p4 + p5) = 0 → (Q (-1 : Int32) σ15)) ∧ (¬ ((p4 + p5) = 0) → (wp_X6_roads σ15  (fun r20 σ19 => (r20 = (12 : Int32) → (Q (-2 : Int32) σ19)) ∧ (¬ (r20 = (12 : Int32)) → (wp_X6_roadMore σ19 p1 p2 p3 p4 p5 (fun σ22 => wp_X6_roads σ22  (fun r25 σ24 => Q (r25 - (1 : Int32)) σ24)))))))))))))))))))))))))
set_option maxHeartbeats 4000000 in
set_option maxRecDepth 100000 in
theorem c_X6_road (l : Launch) (G : Gw) (σ : Sg) (p1 p2 p3 p4 p5 : Int32) (Q : Int32 → Sg → Prop) (hw : wp_X6_road σ p1 p2 p3 p4 p5 Q) : MetI l yX6_road wz_X6_road rm_X6_road G σ [.ref (G.1 30), .int p1, .int p2, .int p3, .int p4, .int p5] Q := by
  refine MetI.of cX6_road 6 (some .int) (by decide) rfl (Nat.le_of_ble_eq_true rfl) ?_
  intro p e s m below meth c X hk ls hl
  have X : KC p m meth c cX6_road 6 s _ wz_X6_road RX6 (some .int) G := X
  have hl : lv_has ls 6 [(0, .ref (G.1 30)), (1, .int p1), (2, .int p2), (3, .int p3), (4, .int p4), (5, .int p5)] := hl
  unfold wp_X6_road at hw
  have hx := X.1.1
  have hb := X.1.2.1
  refine lv_aload_n hx hb dX6_road_0 rfl (lv_at hl 0 rfl) ?_
  refine lv_iconst (v := (0 : Int32)) hx hb dX6_road_1 (by decide) ?_
  refine k_put 0 X hk (wg_30 G _) rfl (hz_wsX60 _) tyX6_ok nmX6 (Nat.le_of_ble_eq_true rfl) (List.mem_cons_of_mem _ (aw_r6 _ (List.mem_of_getElem? (i := 3) rfl))) rfl rfl (Nat.le_of_ble_eq_true rfl) (ws_30_0 G _ _) dX6_road_2 (fun H locs hk => ?_)
  obtain ⟨σ1, eσ1⟩ : ∃ y : Sg, y = (put σ 30 0 (0 : Int32)) := ⟨_, rfl⟩
  rw [← eσ1] at hk
  replace hw := hw σ1 eσ1
  refine lv_aload_n hx hb dX6_road_5 rfl (lv_at hl 0 rfl) ?_
  refine lv_iload_n hx hb dX6_road_6 rfl (lv_at hl 1 rfl) ?_
  refine k_callVi (rest := []) X hk (c_X6_isPlace l G _ _ _ hw) (cwV 1 X.1.2.2.2.2 (gzV (aw_r20 _ (List.mem_of_getElem? (i := 0) rfl)) (aw_r20 _ (List.mem_of_getElem? (i := 1) rfl)) (aw_r20 _ (List.mem_of_getElem? (i := 2) rfl)) (aw_r1 _ (List.mem_of_getElem? (i := 5) rfl)) (aw_r20 _ (List.mem_of_getElem? (i := 3) rfl))) rfl rfl rfl hd_X6_isPlace ⟨(Nat.le_of_ble_eq_true rfl), (Nat.le_of_ble_eq_true rfl)⟩) (wg_30 G _) rfl rfl hl.1 rfl (Nat.le_of_ble_eq_true rfl) dX6_road_7 ⟨Nat.zero_le _, Nat.zero_le _⟩ (fun r3 σ2 H locs hw hk => ?_)
  refine lv_if_eq (tgt := 66) hx hb dX6_road_10 (by decide) (fun c4 => ?_) (fun c4 => ?_)
  · replace hw := hw.1 c4
    refine lv_iconst (v := (-1 : Int32)) hx hb dX6_road_66 (by decide) ?_
    exact k_iret X hk hw dX6_road_67
  · replace hw := hw.2 c4
    refine lv_aload_n hx hb dX6_road_13 rfl (lv_at hl 0 rfl) ?_
    refine lv_iload_n hx hb dX6_road_14 rfl (lv_at hl 2 rfl) ?_
    refine k_callVi (rest := []) X hk (c_X6_isPlace l G _ _ _ hw) (cwV 1 X.1.2.2.2.2 (gzV (aw_r20 _ (List.mem_of_getElem? (i := 0) rfl)) (aw_r20 _ (List.mem_of_getElem? (i := 1) rfl)) (aw_r20 _ (List.mem_of_getElem? (i := 2) rfl)) (aw_r1 _ (List.mem_of_getElem? (i := 5) rfl)) (aw_r20 _ (List.mem_of_getElem? (i := 3) rfl))) rfl rfl rfl hd_X6_isPlace ⟨(Nat.le_of_ble_eq_true rfl), (Nat.le_of_ble_eq_true rfl)⟩) (wg_30 G _) rfl rfl hl.1 rfl (Nat.le_of_ble_eq_true rfl) dX6_road_15 ⟨Nat.zero_le _, Nat.zero_le _⟩ (fun r6 σ5 H locs hw hk => ?_)
    refine lv_if_eq (tgt := 66) hx hb dX6_road_18 (by decide) (fun c7 => ?_) (fun c7 => ?_)
    · replace hw := hw.1 c7
      refine lv_iconst (v := (-1 : Int32)) hx hb dX6_road_66 (by decide) ?_
      exact k_iret X hk hw dX6_road_67
    · replace hw := hw.2 c7
      refine lv_iload_n hx hb dX6_road_21 rfl (lv_at hl 1 rfl) ?_
      refine lv_iload_n hx hb dX6_road_22 rfl (lv_at hl 2 rfl) ?_
      refine lv_icmp_eq (tgt := 66) hx hb dX6_road_23 (by decide) (fun c8 => ?_) (fun c8 => ?_)
      · replace hw := hw.1 c8
        refine lv_iconst (v := (-1 : Int32)) hx hb dX6_road_66 (by decide) ?_
        exact k_iret X hk hw dX6_road_67
      · replace hw := hw.2 c8
        refine lv_iload_n hx hb dX6_road_26 rfl (lv_at hl 3 rfl) ?_
        refine lv_iconst (v := (1 : Int32)) hx hb dX6_road_27 (by decide) ?_
        refine lv_bipush (v := (9 : Int32)) hx hb dX6_road_28 (by decide) ?_
        refine k_callSi (rest := []) X hk (c_X6_isIn l G _ _ _ _ _ hw) (va_cwS 3 X.1.2.2.2.2 (gzS (aw_r6 _ (List.mem_of_getElem? (i := 17) rfl)) (aw_r6 _ (List.mem_of_getElem? (i := 18) rfl)) (aw_r1 _ (List.mem_of_getElem? (i := 5) rfl)) (aw_r6 _ (List.mem_of_getElem? (i := 19) rfl))) rfl rfl rfl hds_X6_isIn ⟨(Nat.le_of_ble_eq_true rfl), (Nat.le_of_ble_eq_true rfl)⟩) rfl hl.1 rfl (Nat.le_of_ble_eq_true rfl) dX6_road_30 ⟨Nat.zero_le _, Nat.zero_le _⟩ (fun r10 σ9 H locs hw hk => ?_)
        refine lv_if_eq (tgt := 66) hx hb dX6_road_33 (by decide) (fun c11 => ?_) (fun c11 => ?_)
        · replace hw := hw.1 c11
          refine lv_iconst (v := (-1 : Int32)) hx hb dX6_road_66 (by decide) ?_
          exact k_iret X hk hw dX6_road_67
        · replace hw := hw.2 c11
          refine lv_iload hx hb dX6_road_36 (lv_at hl 4 rfl) ?_
          refine lv_iconst (v := (0 : Int32)) hx hb dX6_road_38 (by decide) ?_
          refine lv_bipush (v := (9 : Int32)) hx hb dX6_road_39 (by decide) ?_
          refine k_callSi (rest := []) X hk (c_X6_isIn l G _ _ _ _ _ hw) (va_cwS 3 X.1.2.2.2.2 (gzS (aw_r6 _ (List.mem_of_getElem? (i := 17) rfl)) (aw_r6 _ (List.mem_of_getElem? (i := 18) rfl)) (aw_r1 _ (List.mem_of_getElem? (i := 5) rfl)) (aw_r6 _ (List.mem_of_getElem? (i := 19) rfl))) rfl rfl rfl hds_X6_isIn ⟨(Nat.le_of_ble_eq_true rfl), (Nat.le_of_ble_eq_true rfl)⟩) rfl hl.1 rfl (Nat.le_of_ble_eq_true rfl) dX6_road_41 ⟨Nat.zero_le _, Nat.zero_le _⟩ (fun r13 σ12 H locs hw hk => ?_)
          refine lv_if_eq (tgt := 66) hx hb dX6_road_44 (by decide) (fun c14 => ?_) (fun c14 => ?_)
          · replace hw := hw.1 c14
            refine lv_iconst (v := (-1 : Int32)) hx hb dX6_road_66 (by decide) ?_
            exact k_iret X hk hw dX6_road_67
          · replace hw := hw.2 c14
            refine lv_iload hx hb dX6_road_47 (lv_at hl 5 rfl) ?_
            refine lv_iconst (v := (0 : Int32)) hx hb dX6_road_49 (by decide) ?_
            refine lv_bipush (v := (9 : Int32)) hx hb dX6_road_50 (by decide) ?_
            refine k_callSi (rest := []) X hk (c_X6_isIn l G _ _ _ _ _ hw) (va_cwS 3 X.1.2.2.2.2 (gzS (aw_r6 _ (List.mem_of_getElem? (i := 17) rfl)) (aw_r6 _ (List.mem_of_getElem? (i := 18) rfl)) (aw_r1 _ (List.mem_of_getElem? (i := 5) rfl)) (aw_r6 _ (List.mem_of_getElem? (i := 19) rfl))) rfl rfl rfl hds_X6_isIn ⟨(Nat.le_of_ble_eq_true rfl), (Nat.le_of_ble_eq_true rfl)⟩) rfl hl.1 rfl (Nat.le_of_ble_eq_true rfl) dX6_road_52 ⟨Nat.zero_le _, Nat.zero_le _⟩ (fun r16 σ15 H locs hw hk => ?_)
            refine lv_if_eq (tgt := 66) hx hb dX6_road_55 (by decide) (fun c17 => ?_) (fun c17 => ?_)
            · replace hw := hw.1 c17
              refine lv_iconst (v := (-1 : Int32)) hx hb dX6_road_66 (by decide) ?_
              exact k_iret X hk hw dX6_road_67
            · replace hw := hw.2 c17
              refine lv_iload hx hb dX6_road_58 (lv_at hl 4 rfl) ?_
              refine lv_iload hx hb dX6_road_60 (lv_at hl 5 rfl) ?_
              refine lv_iadd hx hb dX6_road_62 ?_
              refine lv_if_ne (tgt := 68) hx hb dX6_road_63 (by decide) (fun c18 => ?_) (fun c18 => ?_)
              · replace hw := hw.2 c18
                refine lv_aload_n hx hb dX6_road_68 rfl (lv_at hl 0 rfl) ?_
                refine k_callVi (rest := []) X hk (c_X6_roads l G _  _ hw) (cwV 0 X.1.2.2.2.2 (gzV (aw_r16 _ (List.mem_of_getElem? (i := 18) rfl)) (aw_r16 _ (List.mem_of_getElem? (i := 19) rfl)) (aw_r16 _ (List.mem_of_getElem? (i := 20) rfl)) (aw_r1 _ (List.mem_of_getElem? (i := 5) rfl)) (aw_r16 _ (List.mem_of_getElem? (i := 21) rfl))) rfl rfl rfl hd_X6_roads ⟨(Nat.le_of_ble_eq_true rfl), (Nat.le_of_ble_eq_true rfl)⟩) (wg_30 G _) rfl rfl hl.1 rfl (Nat.le_of_ble_eq_true rfl) dX6_road_69 ⟨Nat.zero_le _, Nat.zero_le _⟩ (fun r20 σ19 H locs hw hk => ?_)
                refine lv_bipush (v := (12 : Int32)) hx hb dX6_road_72 (by decide) ?_
                refine lv_icmp_ne (tgt := 80) hx hb dX6_road_74 (by decide) (fun c21 => ?_) (fun c21 => ?_)
                · replace hw := hw.2 c21
                  refine lv_aload_n hx hb dX6_road_80 rfl (lv_at hl 0 rfl) ?_
                  refine lv_iload_n hx hb dX6_road_81 rfl (lv_at hl 1 rfl) ?_
                  refine lv_iload_n hx hb dX6_road_82 rfl (lv_at hl 2 rfl) ?_
                  refine lv_iload_n hx hb dX6_road_83 rfl (lv_at hl 3 rfl) ?_
                  refine lv_iload hx hb dX6_road_84 (lv_at hl 4 rfl) ?_
                  refine lv_iload hx hb dX6_road_86 (lv_at hl 5 rfl) ?_
                  refine k_callVv (rest := []) X hk (c_X6_roadMore l G _ _ _ _ _ _ _ hw) (cwV 5 X.1.2.2.2.2 (gzV (aw_r16 _ (List.mem_of_getElem? (i := 22) rfl)) (aw_r16 _ (List.mem_of_getElem? (i := 23) rfl)) (aw_r17 _ (List.mem_of_getElem? (i := 0) rfl)) (aw_r1 _ (List.mem_of_getElem? (i := 5) rfl)) (aw_r17 _ (List.mem_of_getElem? (i := 1) rfl))) rfl rfl rfl hd_X6_roadMore ⟨(Nat.le_of_ble_eq_true rfl), (Nat.le_of_ble_eq_true rfl)⟩) (wg_30 G _) rfl rfl hl.1 rfl (Nat.le_of_ble_eq_true rfl) dX6_road_88 ⟨Nat.zero_le _, Nat.zero_le _⟩ (fun σ22 H locs hw hk => ?_)
                  refine lv_aload_n hx hb dX6_road_91 rfl (lv_at hl 0 rfl) ?_
                  refine k_callVi (rest := []) X hk (c_X6_roads l G _  _ hw) (cwV 0 X.1.2.2.2.2 (gzV (aw_r16 _ (List.mem_of_getElem? (i := 18) rfl)) (aw_r16 _ (List.mem_of_getElem? (i := 19) rfl)) (aw_r16 _ (List.mem_of_getElem? (i := 20) rfl)) (aw_r1 _ (List.mem_of_getElem? (i := 5) rfl)) (aw_r16 _ (List.mem_of_getElem? (i := 21) rfl))) rfl rfl rfl hd_X6_roads ⟨(Nat.le_of_ble_eq_true rfl), (Nat.le_of_ble_eq_true rfl)⟩) (wg_30 G _) rfl rfl hl.1 rfl (Nat.le_of_ble_eq_true rfl) dX6_road_92 ⟨Nat.zero_le _, Nat.zero_le _⟩ (fun r25 σ24 H locs hw hk => ?_)
                  refine lv_iconst (v := (1 : Int32)) hx hb dX6_road_95 (by decide) ?_
                  refine lv_isub hx hb dX6_road_96 ?_
                  exact k_iret X hk hw dX6_road_97
                · replace hw := hw.1 c21
                  refine lv_bipush (v := (-2 : Int32)) hx hb dX6_road_77 (by decide) ?_
                  exact k_iret X hk hw dX6_road_79
              · replace hw := hw.1 c18
                refine lv_iconst (v := (-1 : Int32)) hx hb dX6_road_66 (by decide) ?_
                exact k_iret X hk hw dX6_road_67
def rm_X6_mayTurn : Room := { frames := 2, cells := 0, slots := 0, locals := 43 }
abbrev wz_X6_mayTurn : List Cond := Cond.code yX6_mayTurn cX6_mayTurn 3 (some .boolean) :: wsA
theorem hd_X6_mayTurn : yX6_mayTurn.cls = RX6 ∧ yX6_mayTurn.cls ≠ "java/lang/invoke/MethodHandle" ∧ yX6_mayTurn.cls ≠ "java/lang/invoke/VarHandle" ∧ (parseMethodDescriptor yX6_mayTurn.desc).map (fun d => d.parameters.length) = some 2 := by decide +kernel
def wp_X6_mayTurn (σ : Sg) (p1 p2 : Int32) (Q : Int32 → Sg → Prop) : Prop := wp_X6_isRoad σ p1 (fun r2 σ1 => (r2 = 0 → (bz (0 : Int32) ∧ Q (0 : Int32) σ1)) ∧ (¬ (r2 = 0) → (wp_X6_isIn σ1 p2 (-200 : Int32) (200 : Int32) (fun r5 σ4 => (r5 = 0 → (bz (0 : Int32) ∧ Q (0 : Int32) σ4)) ∧ (¬ (r5 = 0) → ((p2 = 0 → (bz (0 : Int32) ∧ Q (0 : Int32) σ4)) ∧ (¬ (p2 = 0) → (wp_X6_ofRoad σ4 p1 (3 : Int32) (fun r9 σ8 => ((r9 + p2) < 0 → (bz (0 : Int32) ∧ Q (0 : Int32) σ8)) ∧ (¬ ((r9 + p2) < 0) → (wp_X6_ofRoad σ8 p1 (4 : Int32) (fun r12 σ11 => ((r12 - p2) < 0 → (bz (0 : Int32) ∧ Q (0 : Int32) σ11)) ∧ (¬ ((r12 - p2) < 0) → (bz (1 : Int32) ∧ Q (1 : Int32) σ11))))))))))))))
set_option maxHeartbeats 4000000 in
set_option maxRecDepth 100000 in
theorem c_X6_mayTurn (l : Launch) (G : Gw) (σ : Sg) (p1 p2 : Int32) (Q : Int32 → Sg → Prop) (hw : wp_X6_mayTurn σ p1 p2 Q) : MetI l yX6_mayTurn wz_X6_mayTurn rm_X6_mayTurn G σ [.ref (G.1 30), .int p1, .int p2] Q := by
  refine MetI.of cX6_mayTurn 3 (some .boolean) (by decide) rfl (Nat.le_of_ble_eq_true rfl) ?_
  intro p e s m below meth c X hk ls hl
  have X : KC p m meth c cX6_mayTurn 3 s _ wz_X6_mayTurn RX6 (some .boolean) G := X
  have hl : lv_has ls 3 [(0, .ref (G.1 30)), (1, .int p1), (2, .int p2)] := hl
  unfold wp_X6_mayTurn at hw
  have hx := X.1.1
  have hb := X.1.2.1
  refine lv_aload_n hx hb dX6_mayTurn_0 rfl (lv_at hl 0 rfl) ?_
  refine lv_iload_n hx hb dX6_mayTurn_1 rfl (lv_at hl 1 rfl) ?_
  refine k_callVi (rest := []) X hk (c_X6_isRoad l G _ _ _ hw) (cwV 1 X.1.2.2.2.2 (gzV (aw_r17 _ (List.mem_of_getElem? (i := 10) rfl)) (aw_r17 _ (List.mem_of_getElem? (i := 11) rfl)) (aw_r17 _ (List.mem_of_getElem? (i := 12) rfl)) (aw_r1 _ (List.mem_of_getElem? (i := 5) rfl)) (aw_r17 _ (List.mem_of_getElem? (i := 13) rfl))) rfl rfl rfl hd_X6_isRoad ⟨(Nat.le_of_ble_eq_true rfl), (Nat.le_of_ble_eq_true rfl)⟩) (wg_30 G _) rfl rfl hl.1 rfl (Nat.le_of_ble_eq_true rfl) dX6_mayTurn_2 ⟨Nat.zero_le _, Nat.zero_le _⟩ (fun r2 σ1 H locs hw hk => ?_)
  refine lv_if_eq (tgt := 51) hx hb dX6_mayTurn_5 (by decide) (fun c3 => ?_) (fun c3 => ?_)
  · replace hw := hw.1 c3
    refine lv_iconst (v := (0 : Int32)) hx hb dX6_mayTurn_51 (by decide) ?_
    exact k_zret X hk hw dX6_mayTurn_52
  · replace hw := hw.2 c3
    refine lv_iload_n hx hb dX6_mayTurn_8 rfl (lv_at hl 2 rfl) ?_
    refine lv_sipush (v := (-200 : Int32)) hx hb dX6_mayTurn_9 (by decide) ?_
    refine lv_sipush (v := (200 : Int32)) hx hb dX6_mayTurn_12 (by decide) ?_
    refine k_callSi (rest := []) X hk (c_X6_isIn l G _ _ _ _ _ hw) (va_cwS 3 X.1.2.2.2.2 (gzS (aw_r6 _ (List.mem_of_getElem? (i := 17) rfl)) (aw_r6 _ (List.mem_of_getElem? (i := 18) rfl)) (aw_r1 _ (List.mem_of_getElem? (i := 5) rfl)) (aw_r6 _ (List.mem_of_getElem? (i := 19) rfl))) rfl rfl rfl hds_X6_isIn ⟨(Nat.le_of_ble_eq_true rfl), (Nat.le_of_ble_eq_true rfl)⟩) rfl hl.1 rfl (Nat.le_of_ble_eq_true rfl) dX6_mayTurn_15 ⟨Nat.zero_le _, Nat.zero_le _⟩ (fun r5 σ4 H locs hw hk => ?_)
    refine lv_if_eq (tgt := 51) hx hb dX6_mayTurn_18 (by decide) (fun c6 => ?_) (fun c6 => ?_)
    · replace hw := hw.1 c6
      refine lv_iconst (v := (0 : Int32)) hx hb dX6_mayTurn_51 (by decide) ?_
      exact k_zret X hk hw dX6_mayTurn_52
    · replace hw := hw.2 c6
      refine lv_iload_n hx hb dX6_mayTurn_21 rfl (lv_at hl 2 rfl) ?_
      refine lv_if_eq (tgt := 51) hx hb dX6_mayTurn_22 (by decide) (fun c7 => ?_) (fun c7 => ?_)
      · replace hw := hw.1 c7
        refine lv_iconst (v := (0 : Int32)) hx hb dX6_mayTurn_51 (by decide) ?_
        exact k_zret X hk hw dX6_mayTurn_52
      · replace hw := hw.2 c7
        refine lv_aload_n hx hb dX6_mayTurn_25 rfl (lv_at hl 0 rfl) ?_
        refine lv_iload_n hx hb dX6_mayTurn_26 rfl (lv_at hl 1 rfl) ?_
        refine lv_iconst (v := (3 : Int32)) hx hb dX6_mayTurn_27 (by decide) ?_
        refine k_callVi (rest := []) X hk (c_X6_ofRoad l G _ _ _ _ hw) (cwV 2 X.1.2.2.2.2 (gzV (aw_r17 _ (List.mem_of_getElem? (i := 14) rfl)) (aw_r17 _ (List.mem_of_getElem? (i := 15) rfl)) (aw_r17 _ (List.mem_of_getElem? (i := 16) rfl)) (aw_r1 _ (List.mem_of_getElem? (i := 5) rfl)) (aw_r17 _ (List.mem_of_getElem? (i := 17) rfl))) rfl rfl rfl hd_X6_ofRoad ⟨(Nat.le_of_ble_eq_true rfl), (Nat.le_of_ble_eq_true rfl)⟩) (wg_30 G _) rfl rfl hl.1 rfl (Nat.le_of_ble_eq_true rfl) dX6_mayTurn_28 ⟨Nat.zero_le _, Nat.zero_le _⟩ (fun r9 σ8 H locs hw hk => ?_)
        refine lv_iload_n hx hb dX6_mayTurn_31 rfl (lv_at hl 2 rfl) ?_
        refine lv_iadd hx hb dX6_mayTurn_32 ?_
        refine lv_if_lt (tgt := 51) hx hb dX6_mayTurn_33 (by decide) (fun c10 => ?_) (fun c10 => ?_)
        · replace hw := hw.1 c10
          refine lv_iconst (v := (0 : Int32)) hx hb dX6_mayTurn_51 (by decide) ?_
          exact k_zret X hk hw dX6_mayTurn_52
        · replace hw := hw.2 c10
          refine lv_aload_n hx hb dX6_mayTurn_36 rfl (lv_at hl 0 rfl) ?_
          refine lv_iload_n hx hb dX6_mayTurn_37 rfl (lv_at hl 1 rfl) ?_
          refine lv_iconst (v := (4 : Int32)) hx hb dX6_mayTurn_38 (by decide) ?_
          refine k_callVi (rest := []) X hk (c_X6_ofRoad l G _ _ _ _ hw) (cwV 2 X.1.2.2.2.2 (gzV (aw_r17 _ (List.mem_of_getElem? (i := 14) rfl)) (aw_r17 _ (List.mem_of_getElem? (i := 15) rfl)) (aw_r17 _ (List.mem_of_getElem? (i := 16) rfl)) (aw_r1 _ (List.mem_of_getElem? (i := 5) rfl)) (aw_r17 _ (List.mem_of_getElem? (i := 17) rfl))) rfl rfl rfl hd_X6_ofRoad ⟨(Nat.le_of_ble_eq_true rfl), (Nat.le_of_ble_eq_true rfl)⟩) (wg_30 G _) rfl rfl hl.1 rfl (Nat.le_of_ble_eq_true rfl) dX6_mayTurn_39 ⟨Nat.zero_le _, Nat.zero_le _⟩ (fun r12 σ11 H locs hw hk => ?_)
          refine lv_iload_n hx hb dX6_mayTurn_42 rfl (lv_at hl 2 rfl) ?_
          refine lv_isub hx hb dX6_mayTurn_43 ?_
          refine lv_if_lt (tgt := 51) hx hb dX6_mayTurn_44 (by decide) (fun c13 => ?_) (fun c13 => ?_)
          · replace hw := hw.1 c13
            refine lv_iconst (v := (0 : Int32)) hx hb dX6_mayTurn_51 (by decide) ?_
            exact k_zret X hk hw dX6_mayTurn_52
          · replace hw := hw.2 c13
            refine lv_iconst (v := (1 : Int32)) hx hb dX6_mayTurn_47 (by decide) ?_
            refine lv_goto (tgt := 52) hx hb dX6_mayTurn_48 (by decide) ?_
            exact k_zret X hk hw dX6_mayTurn_52
def rm_X6_turnsRoad : Room := { frames := 0, cells := 0, slots := 0, locals := 0 }
abbrev wz_X6_turnsRoad : List Cond := Cond.code yX6_turnsRoad cX6_turnsRoad 3 none :: wsA
theorem hd_X6_turnsRoad : yX6_turnsRoad.cls = RX6 ∧ yX6_turnsRoad.cls ≠ "java/lang/invoke/MethodHandle" ∧ yX6_turnsRoad.cls ≠ "java/lang/invoke/VarHandle" ∧ (parseMethodDescriptor yX6_turnsRoad.desc).map (fun d => d.parameters.length) = some 2 := by decide +kernel
def wp_X6_turnsRoad (σ : Sg) (p1 p2 : Int32) (Q : Sg → Prop) : Prop := vp_in (((35 : Int32) + ((5 : Int32) * p1)) + (3 : Int32)) 256 ∧ (vp_in (((35 : Int32) + ((5 : Int32) * p1)) + (3 : Int32)) 256 ∧ (∀ σ1 : Sg, σ1 = (put σ 31 ((((35 : Int32) + ((5 : Int32) * p1)) + (3 : Int32))).toNatClampNeg ((σ 31 ((((35 : Int32) + ((5 : Int32) * p1)) + (3 : Int32))).toNatClampNeg) + p2)) → (vp_in (((35 : Int32) + ((5 : Int32) * p1)) + (4 : Int32)) 256 ∧ (vp_in (((35 : Int32) + ((5 : Int32) * p1)) + (4 : Int32)) 256 ∧ (∀ σ2 : Sg, σ2 = (put σ1 31 ((((35 : Int32) + ((5 : Int32) * p1)) + (4 : Int32))).toNatClampNeg ((σ1 31 ((((35 : Int32) + ((5 : Int32) * p1)) + (4 : Int32))).toNatClampNeg) - p2)) → (Q σ2))))))
set_option maxHeartbeats 4000000 in
set_option maxRecDepth 100000 in
theorem c_X6_turnsRoad (l : Launch) (G : Gw) (σ : Sg) (p1 p2 : Int32) (Q : Sg → Prop) (hw : wp_X6_turnsRoad σ p1 p2 Q) : MetV l yX6_turnsRoad wz_X6_turnsRoad rm_X6_turnsRoad G σ [.ref (G.1 30), .int p1, .int p2] Q := by
  refine MetV.of cX6_turnsRoad 3 none (by decide) rfl (Nat.le_of_ble_eq_true rfl) ?_
  intro p e s m below meth c X hk ls hl
  have X : KC p m meth c cX6_turnsRoad 3 s _ wz_X6_turnsRoad RX6 none G := X
  have hl : lv_has ls 3 [(0, .ref (G.1 30)), (1, .int p1), (2, .int p2)] := hl
  unfold wp_X6_turnsRoad at hw
  have hx := X.1.1
  have hb := X.1.2.1
  refine lv_aload_n hx hb dX6_turnsRoad_0 rfl (lv_at hl 0 rfl) ?_
  refine k_get 1 X hk (wg_30 G _) rfl (hz_wsX60 _) (Nat.le_of_ble_eq_true rfl) (List.mem_cons_of_mem _ (aw_r4 _ (List.mem_of_getElem? (i := 16) rfl))) rfl dX6_turnsRoad_1 ?_
  refine lv_bipush (v := (35 : Int32)) hx hb dX6_turnsRoad_4 (by decide) ?_
  refine lv_iconst (v := (5 : Int32)) hx hb dX6_turnsRoad_6 (by decide) ?_
  refine lv_iload_n hx hb dX6_turnsRoad_7 rfl (lv_at hl 1 rfl) ?_
  refine lv_imul hx hb dX6_turnsRoad_8 ?_
  refine lv_iadd hx hb dX6_turnsRoad_9 ?_
  refine lv_iconst (v := (3 : Int32)) hx hb dX6_turnsRoad_10 (by decide) ?_
  refine lv_iadd hx hb dX6_turnsRoad_11 ?_
  refine lv_dup2_11 hx hb dX6_turnsRoad_12 rfl rfl ?_
  refine k_iald X hk (wg_31 G _) hw.1 dX6_turnsRoad_13 ?_
  replace hw := hw.2
  refine lv_iload_n hx hb dX6_turnsRoad_14 rfl (lv_at hl 2 rfl) ?_
  refine lv_iadd hx hb dX6_turnsRoad_15 ?_
  refine k_iast X hk (wg_31 G _) (ws_31 G _) rfl hw.1 dX6_turnsRoad_16 (fun H locs hk => ?_)
  replace hw := hw.2
  obtain ⟨σ1, eσ1⟩ : ∃ y : Sg, y = (put σ 31 ((((35 : Int32) + ((5 : Int32) * p1)) + (3 : Int32))).toNatClampNeg ((σ 31 ((((35 : Int32) + ((5 : Int32) * p1)) + (3 : Int32))).toNatClampNeg) + p2)) := ⟨_, rfl⟩
  rw [← eσ1] at hk
  replace hw := hw σ1 eσ1
  refine lv_aload_n hx hb dX6_turnsRoad_17 rfl (lv_at hl 0 rfl) ?_
  refine k_get 1 X hk (wg_30 G _) rfl (hz_wsX60 _) (Nat.le_of_ble_eq_true rfl) (List.mem_cons_of_mem _ (aw_r4 _ (List.mem_of_getElem? (i := 16) rfl))) rfl dX6_turnsRoad_18 ?_
  refine lv_bipush (v := (35 : Int32)) hx hb dX6_turnsRoad_21 (by decide) ?_
  refine lv_iconst (v := (5 : Int32)) hx hb dX6_turnsRoad_23 (by decide) ?_
  refine lv_iload_n hx hb dX6_turnsRoad_24 rfl (lv_at hl 1 rfl) ?_
  refine lv_imul hx hb dX6_turnsRoad_25 ?_
  refine lv_iadd hx hb dX6_turnsRoad_26 ?_
  refine lv_iconst (v := (4 : Int32)) hx hb dX6_turnsRoad_27 (by decide) ?_
  refine lv_iadd hx hb dX6_turnsRoad_28 ?_
  refine lv_dup2_11 hx hb dX6_turnsRoad_29 rfl rfl ?_
  refine k_iald X hk (wg_31 G _) hw.1 dX6_turnsRoad_30 ?_
  replace hw := hw.2
  refine lv_iload_n hx hb dX6_turnsRoad_31 rfl (lv_at hl 2 rfl) ?_
  refine lv_isub hx hb dX6_turnsRoad_32 ?_
  refine k_iast X hk (wg_31 G _) (ws_31 G _) rfl hw.1 dX6_turnsRoad_33 (fun H locs hk => ?_)
  replace hw := hw.2
  obtain ⟨σ2, eσ2⟩ : ∃ y : Sg, y = (put σ1 31 ((((35 : Int32) + ((5 : Int32) * p1)) + (4 : Int32))).toNatClampNeg ((σ1 31 ((((35 : Int32) + ((5 : Int32) * p1)) + (4 : Int32))).toNatClampNeg) - p2)) := ⟨_, rfl⟩
  rw [← eσ2] at hk
  replace hw := hw σ2 eσ2
  exact k_vret X hk hw dX6_turnsRoad_34
def rm_X6_turn : Room := { frames := 3, cells := 0, slots := 0, locals := 65 }
abbrev wz_X6_turn : List Cond := Cond.code yX6_turn cX6_turn 3 (some .boolean) :: wsA
theorem hd_X6_turn : yX6_turn.cls = RX6 ∧ yX6_turn.cls ≠ "java/lang/invoke/MethodHandle" ∧ yX6_turn.cls ≠ "java/lang/invoke/VarHandle" ∧ (parseMethodDescriptor yX6_turn.desc).map (fun d => d.parameters.length) = some 2 := by decide +kernel
def wp_X6_turn (σ : Sg) (p1 p2 : Int32) (Q : Int32 → Sg → Prop) : Prop := ∀ σ1 : Sg, σ1 = (put σ 30 0 (0 : Int32)) → (wp_X6_mayTurn σ1 p1 p2 (fun r3 σ2 => (r3 = 0 → (bz (0 : Int32) ∧ Q (0 : Int32) σ2)) ∧ (¬ (r3 = 0) → (wp_X6_turnsRoad σ2 p1 p2 (fun σ5 => bz (1 : Int32) ∧ Q (1 : Int32) σ5)))))
set_option maxHeartbeats 4000000 in
set_option maxRecDepth 100000 in
theorem c_X6_turn (l : Launch) (G : Gw) (σ : Sg) (p1 p2 : Int32) (Q : Int32 → Sg → Prop) (hw : wp_X6_turn σ p1 p2 Q) : MetI l yX6_turn wz_X6_turn rm_X6_turn G σ [.ref (G.1 30), .int p1, .int p2] Q := by
  refine MetI.of cX6_turn 3 (some .boolean) (by decide) rfl (Nat.le_of_ble_eq_true rfl) ?_
  intro p e s m below meth c X hk ls hl
  have X : KC p m meth c cX6_turn 3 s _ wz_X6_turn RX6 (some .boolean) G := X
  have hl : lv_has ls 3 [(0, .ref (G.1 30)), (1, .int p1), (2, .int p2)] := hl
  unfold wp_X6_turn at hw
  have hx := X.1.1
  have hb := X.1.2.1
  refine lv_aload_n hx hb dX6_turn_0 rfl (lv_at hl 0 rfl) ?_
  refine lv_iconst (v := (0 : Int32)) hx hb dX6_turn_1 (by decide) ?_
  refine k_put 0 X hk (wg_30 G _) rfl (hz_wsX60 _) tyX6_ok nmX6 (Nat.le_of_ble_eq_true rfl) (List.mem_cons_of_mem _ (aw_r6 _ (List.mem_of_getElem? (i := 3) rfl))) rfl rfl (Nat.le_of_ble_eq_true rfl) (ws_30_0 G _ _) dX6_turn_2 (fun H locs hk => ?_)
  obtain ⟨σ1, eσ1⟩ : ∃ y : Sg, y = (put σ 30 0 (0 : Int32)) := ⟨_, rfl⟩
  rw [← eσ1] at hk
  replace hw := hw σ1 eσ1
  refine lv_aload_n hx hb dX6_turn_5 rfl (lv_at hl 0 rfl) ?_
  refine lv_iload_n hx hb dX6_turn_6 rfl (lv_at hl 1 rfl) ?_
  refine lv_iload_n hx hb dX6_turn_7 rfl (lv_at hl 2 rfl) ?_
  refine k_callVi (rest := []) X hk (c_X6_mayTurn l G _ _ _ _ hw) (cwV 2 X.1.2.2.2.2 (gzV (aw_r17 _ (List.mem_of_getElem? (i := 6) rfl)) (aw_r17 _ (List.mem_of_getElem? (i := 7) rfl)) (aw_r17 _ (List.mem_of_getElem? (i := 8) rfl)) (aw_r1 _ (List.mem_of_getElem? (i := 5) rfl)) (aw_r17 _ (List.mem_of_getElem? (i := 9) rfl))) rfl rfl rfl hd_X6_mayTurn ⟨(Nat.le_of_ble_eq_true rfl), (Nat.le_of_ble_eq_true rfl)⟩) (wg_30 G _) rfl rfl hl.1 rfl (Nat.le_of_ble_eq_true rfl) dX6_turn_8 ⟨Nat.zero_le _, Nat.zero_le _⟩ (fun r3 σ2 H locs hw hk => ?_)
  refine lv_if_ne (tgt := 16) hx hb dX6_turn_11 (by decide) (fun c4 => ?_) (fun c4 => ?_)
  · replace hw := hw.2 c4
    refine lv_aload_n hx hb dX6_turn_16 rfl (lv_at hl 0 rfl) ?_
    refine lv_iload_n hx hb dX6_turn_17 rfl (lv_at hl 1 rfl) ?_
    refine lv_iload_n hx hb dX6_turn_18 rfl (lv_at hl 2 rfl) ?_
    refine k_callVv (rest := []) X hk (c_X6_turnsRoad l G _ _ _ _ hw) (cwV 2 X.1.2.2.2.2 (gzV (aw_r17 _ (List.mem_of_getElem? (i := 18) rfl)) (aw_r17 _ (List.mem_of_getElem? (i := 19) rfl)) (aw_r17 _ (List.mem_of_getElem? (i := 20) rfl)) (aw_r1 _ (List.mem_of_getElem? (i := 5) rfl)) (aw_r17 _ (List.mem_of_getElem? (i := 21) rfl))) rfl rfl rfl hd_X6_turnsRoad ⟨(Nat.le_of_ble_eq_true rfl), (Nat.le_of_ble_eq_true rfl)⟩) (wg_30 G _) rfl rfl hl.1 rfl (Nat.le_of_ble_eq_true rfl) dX6_turn_19 ⟨Nat.zero_le _, Nat.zero_le _⟩ (fun σ5 H locs hw hk => ?_)
    refine lv_iconst (v := (1 : Int32)) hx hb dX6_turn_22 (by decide) ?_
    exact k_zret X hk hw dX6_turn_23
  · replace hw := hw.1 c4
    refine lv_iconst (v := (0 : Int32)) hx hb dX6_turn_14 (by decide) ?_
    exact k_zret X hk hw dX6_turn_15
def rm_X6_set : Room := { frames := 2, cells := 0, slots := 0, locals := 43 }
abbrev wz_X6_set : List Cond := Cond.code yX6_set cX6_set 4 (some .boolean) :: wsA
theorem hd_X6_set : yX6_set.cls = RX6 ∧ yX6_set.cls ≠ "java/lang/invoke/MethodHandle" ∧ yX6_set.cls ≠ "java/lang/invoke/VarHandle" ∧ (parseMethodDescriptor yX6_set.desc).map (fun d => d.parameters.length) = some 3 := by decide +kernel
def wp_X6_set (σ : Sg) (p1 p2 p3 : Int32) (Q : Int32 → Sg → Prop) : Prop := ∀ σ1 : Sg, σ1 = (put σ 30 0 (0 : Int32)) → (wp_X6_isPlace σ1 p1 (fun r3 σ2 => (r3 = 0 → (bz (0 : Int32) ∧ Q (0 : Int32) σ2)) ∧ (¬ (r3 = 0) → (wp_X6_mayBe σ2 p2 p3 (fun r6 σ5 => (r6 = 0 → (bz (0 : Int32) ∧ Q (0 : Int32) σ5)) ∧ (¬ (r6 = 0) → (wp_X6_ofPlace σ5 p1 p2 (fun r9 σ8 => (r9 = p3 → (bz (0 : Int32) ∧ Q (0 : Int32) σ8)) ∧ (¬ (r9 = p3) → (vp_in (((3 : Int32) + ((4 : Int32) * p1)) + p2) 256 ∧ (∀ σ11 : Sg, σ11 = (put σ8 31 ((((3 : Int32) + ((4 : Int32) * p1)) + p2)).toNatClampNeg p3) → (bz (1 : Int32) ∧ Q (1 : Int32) σ11))))))))))))
set_option maxHeartbeats 4000000 in
set_option maxRecDepth 100000 in
theorem c_X6_set (l : Launch) (G : Gw) (σ : Sg) (p1 p2 p3 : Int32) (Q : Int32 → Sg → Prop) (hw : wp_X6_set σ p1 p2 p3 Q) : MetI l yX6_set wz_X6_set rm_X6_set G σ [.ref (G.1 30), .int p1, .int p2, .int p3] Q := by
  refine MetI.of cX6_set 4 (some .boolean) (by decide) rfl (Nat.le_of_ble_eq_true rfl) ?_
  intro p e s m below meth c X hk ls hl
  have X : KC p m meth c cX6_set 4 s _ wz_X6_set RX6 (some .boolean) G := X
  have hl : lv_has ls 4 [(0, .ref (G.1 30)), (1, .int p1), (2, .int p2), (3, .int p3)] := hl
  unfold wp_X6_set at hw
  have hx := X.1.1
  have hb := X.1.2.1
  refine lv_aload_n hx hb dX6_set_0 rfl (lv_at hl 0 rfl) ?_
  refine lv_iconst (v := (0 : Int32)) hx hb dX6_set_1 (by decide) ?_
  refine k_put 0 X hk (wg_30 G _) rfl (hz_wsX60 _) tyX6_ok nmX6 (Nat.le_of_ble_eq_true rfl) (List.mem_cons_of_mem _ (aw_r6 _ (List.mem_of_getElem? (i := 3) rfl))) rfl rfl (Nat.le_of_ble_eq_true rfl) (ws_30_0 G _ _) dX6_set_2 (fun H locs hk => ?_)
  obtain ⟨σ1, eσ1⟩ : ∃ y : Sg, y = (put σ 30 0 (0 : Int32)) := ⟨_, rfl⟩
  rw [← eσ1] at hk
  replace hw := hw σ1 eσ1
  refine lv_aload_n hx hb dX6_set_5 rfl (lv_at hl 0 rfl) ?_
  refine lv_iload_n hx hb dX6_set_6 rfl (lv_at hl 1 rfl) ?_
  refine k_callVi (rest := []) X hk (c_X6_isPlace l G _ _ _ hw) (cwV 1 X.1.2.2.2.2 (gzV (aw_r20 _ (List.mem_of_getElem? (i := 0) rfl)) (aw_r20 _ (List.mem_of_getElem? (i := 1) rfl)) (aw_r20 _ (List.mem_of_getElem? (i := 2) rfl)) (aw_r1 _ (List.mem_of_getElem? (i := 5) rfl)) (aw_r20 _ (List.mem_of_getElem? (i := 3) rfl))) rfl rfl rfl hd_X6_isPlace ⟨(Nat.le_of_ble_eq_true rfl), (Nat.le_of_ble_eq_true rfl)⟩) (wg_30 G _) rfl rfl hl.1 rfl (Nat.le_of_ble_eq_true rfl) dX6_set_7 ⟨Nat.zero_le _, Nat.zero_le _⟩ (fun r3 σ2 H locs hw hk => ?_)
  refine lv_if_eq (tgt := 31) hx hb dX6_set_10 (by decide) (fun c4 => ?_) (fun c4 => ?_)
  · replace hw := hw.1 c4
    refine lv_iconst (v := (0 : Int32)) hx hb dX6_set_31 (by decide) ?_
    exact k_zret X hk hw dX6_set_32
  · replace hw := hw.2 c4
    refine lv_iload_n hx hb dX6_set_13 rfl (lv_at hl 2 rfl) ?_
    refine lv_iload_n hx hb dX6_set_14 rfl (lv_at hl 3 rfl) ?_
    refine k_callSi (rest := []) X hk (c_X6_mayBe l G _ _ _ _ hw) (va_cwS 2 X.1.2.2.2.2 (gzS (aw_r19 _ (List.mem_of_getElem? (i := 10) rfl)) (aw_r19 _ (List.mem_of_getElem? (i := 11) rfl)) (aw_r1 _ (List.mem_of_getElem? (i := 5) rfl)) (aw_r19 _ (List.mem_of_getElem? (i := 12) rfl))) rfl rfl rfl hds_X6_mayBe ⟨(Nat.le_of_ble_eq_true rfl), (Nat.le_of_ble_eq_true rfl)⟩) rfl hl.1 rfl (Nat.le_of_ble_eq_true rfl) dX6_set_15 ⟨Nat.zero_le _, Nat.zero_le _⟩ (fun r6 σ5 H locs hw hk => ?_)
    refine lv_if_eq (tgt := 31) hx hb dX6_set_18 (by decide) (fun c7 => ?_) (fun c7 => ?_)
    · replace hw := hw.1 c7
      refine lv_iconst (v := (0 : Int32)) hx hb dX6_set_31 (by decide) ?_
      exact k_zret X hk hw dX6_set_32
    · replace hw := hw.2 c7
      refine lv_aload_n hx hb dX6_set_21 rfl (lv_at hl 0 rfl) ?_
      refine lv_iload_n hx hb dX6_set_22 rfl (lv_at hl 1 rfl) ?_
      refine lv_iload_n hx hb dX6_set_23 rfl (lv_at hl 2 rfl) ?_
      refine k_callVi (rest := []) X hk (c_X6_ofPlace l G _ _ _ _ hw) (cwV 2 X.1.2.2.2.2 (gzV (aw_r21 _ (List.mem_of_getElem? (i := 4) rfl)) (aw_r21 _ (List.mem_of_getElem? (i := 5) rfl)) (aw_r21 _ (List.mem_of_getElem? (i := 6) rfl)) (aw_r1 _ (List.mem_of_getElem? (i := 5) rfl)) (aw_r21 _ (List.mem_of_getElem? (i := 7) rfl))) rfl rfl rfl hd_X6_ofPlace ⟨(Nat.le_of_ble_eq_true rfl), (Nat.le_of_ble_eq_true rfl)⟩) (wg_30 G _) rfl rfl hl.1 rfl (Nat.le_of_ble_eq_true rfl) dX6_set_24 ⟨Nat.zero_le _, Nat.zero_le _⟩ (fun r9 σ8 H locs hw hk => ?_)
      refine lv_iload_n hx hb dX6_set_27 rfl (lv_at hl 3 rfl) ?_
      refine lv_icmp_ne (tgt := 33) hx hb dX6_set_28 (by decide) (fun c10 => ?_) (fun c10 => ?_)
      · replace hw := hw.2 c10
        refine lv_aload_n hx hb dX6_set_33 rfl (lv_at hl 0 rfl) ?_
        refine k_get 1 X hk (wg_30 G _) rfl (hz_wsX60 _) (Nat.le_of_ble_eq_true rfl) (List.mem_cons_of_mem _ (aw_r4 _ (List.mem_of_getElem? (i := 16) rfl))) rfl dX6_set_34 ?_
        refine lv_iconst (v := (3 : Int32)) hx hb dX6_set_37 (by decide) ?_
        refine lv_iconst (v := (4 : Int32)) hx hb dX6_set_38 (by decide) ?_
        refine lv_iload_n hx hb dX6_set_39 rfl (lv_at hl 1 rfl) ?_
        refine lv_imul hx hb dX6_set_40 ?_
        refine lv_iadd hx hb dX6_set_41 ?_
        refine lv_iload_n hx hb dX6_set_42 rfl (lv_at hl 2 rfl) ?_
        refine lv_iadd hx hb dX6_set_43 ?_
        refine lv_iload_n hx hb dX6_set_44 rfl (lv_at hl 3 rfl) ?_
        refine k_iast X hk (wg_31 G _) (ws_31 G _) rfl hw.1 dX6_set_45 (fun H locs hk => ?_)
        replace hw := hw.2
        obtain ⟨σ11, eσ11⟩ : ∃ y : Sg, y = (put σ8 31 ((((3 : Int32) + ((4 : Int32) * p1)) + p2)).toNatClampNeg p3) := ⟨_, rfl⟩
        rw [← eσ11] at hk
        replace hw := hw σ11 eσ11
        refine lv_iconst (v := (1 : Int32)) hx hb dX6_set_46 (by decide) ?_
        exact k_zret X hk hw dX6_set_47
      · replace hw := hw.1 c10
        refine lv_iconst (v := (0 : Int32)) hx hb dX6_set_31 (by decide) ?_
        exact k_zret X hk hw dX6_set_32
def rm_X6_moveGoes : Room := { frames := 1, cells := 0, slots := 0, locals := 20 }
abbrev wz_X6_moveGoes : List Cond := Cond.code yX6_moveGoes cX6_moveGoes 3 none :: wsA
theorem hd_X6_moveGoes : yX6_moveGoes.cls = RX6 ∧ yX6_moveGoes.cls ≠ "java/lang/invoke/MethodHandle" ∧ yX6_moveGoes.cls ≠ "java/lang/invoke/VarHandle" ∧ (parseMethodDescriptor yX6_moveGoes.desc).map (fun d => d.parameters.length) = some 1 := by decide +kernel
def wp_X6_moveGoes_7 (Q : Sg → Prop)  : Nat → Int32 → Sg → Prop
  | 0, _, _ => False
  | n + 1, x2, σ => wp_X6_moves σ  (fun r3 σ2 => (((95 : Int32) + ((4 : Int32) * (r3 - (1 : Int32)))) ≤ x2 → (vp_in (2 : Int32) 256 ∧ (vp_in (2 : Int32) 256 ∧ (∀ σ5 : Sg, σ5 = (put σ2 31 ((2 : Int32)).toNatClampNeg ((σ2 31 ((2 : Int32)).toNatClampNeg) - (1 : Int32))) → (Q σ5))))) ∧ (¬ (((95 : Int32) + ((4 : Int32) * (r3 - (1 : Int32)))) ≤ x2) → (vp_in (x2 + (4 : Int32)) 256 ∧ (vp_in x2 256 ∧ (∀ σ6 : Sg, σ6 = (put σ2 31 (x2).toNatClampNeg (σ2 31 ((x2 + (4 : Int32))).toNatClampNeg)) → (∀ x2_7 : Int32, x2_7 = (x2 + (1 : Int32)) → (wp_X6_moveGoes_7 Q  n x2_7 σ6)))))))
set_option maxHeartbeats 4000000 in
set_option maxRecDepth 100000 in
theorem t_X6_moveGoes_7 {p : Program} {l : Launch} {e : Env} {s : State} {m : MethodId} {args : Array Value} {below : List Frame} {meth : Method} {c : Code} {G : Gw} (X : KC p m meth c cX6_moveGoes 3 s args wz_X6_moveGoes RX6 none G) (Q : Sg → Prop)  : ∀ (n : Nat) (σ : Sg) (x2 : Int32) (H : Heap) (locs : List Loc) (ls : Array Slot), wp_X6_moveGoes_7 Q  n x2 σ → WK G s H locs σ → lv_has ls 3 [(0, .ref (G.1 30)), (2, .int x2)] → W p l e rm_X6_moveGoes s m args below meth c H locs 0 0 (ZV below args s G Q) (F0 m 7 ls []) := by
  have hx := X.1.1
  have hb := X.1.2.1
  intro n
  induction n with
  | zero =>
    intro σ x2 H locs ls hw hk hl
    exact False.elim hw
  | succ n ih =>
    intro σ x2 H locs ls hw hk hl
    rw [wp_X6_moveGoes_7] at hw
    refine lv_iload_n hx hb dX6_moveGoes_7 rfl (lv_at hl 1 rfl) ?_
    refine lv_bipush (v := (95 : Int32)) hx hb dX6_moveGoes_8 (by decide) ?_
    refine lv_iconst (v := (4 : Int32)) hx hb dX6_moveGoes_10 (by decide) ?_
    refine lv_aload_n hx hb dX6_moveGoes_11 rfl (lv_at hl 0 rfl) ?_
    refine k_callVi (rest := [.int (4 : Int32), .int (95 : Int32), .int x2]) X hk (c_X6_moves l G _  _ hw) (cwV 0 X.1.2.2.2.2 (gzV (aw_r18 _ (List.mem_of_getElem? (i := 2) rfl)) (aw_r18 _ (List.mem_of_getElem? (i := 3) rfl)) (aw_r18 _ (List.mem_of_getElem? (i := 4) rfl)) (aw_r1 _ (List.mem_of_getElem? (i := 5) rfl)) (aw_r18 _ (List.mem_of_getElem? (i := 5) rfl))) rfl rfl rfl hd_X6_moves ⟨(Nat.le_of_ble_eq_true rfl), (Nat.le_of_ble_eq_true rfl)⟩) (wg_30 G _) rfl rfl hl.1 rfl (Nat.le_of_ble_eq_true rfl) dX6_moveGoes_12 ⟨Nat.zero_le _, Nat.zero_le _⟩ (fun r3 σ2 H locs hw hk => ?_)
    refine lv_iconst (v := (1 : Int32)) hx hb dX6_moveGoes_15 (by decide) ?_
    refine lv_isub hx hb dX6_moveGoes_16 ?_
    refine lv_imul hx hb dX6_moveGoes_17 ?_
    refine lv_iadd hx hb dX6_moveGoes_18 ?_
    refine lv_icmp_ge (tgt := 42) hx hb dX6_moveGoes_19 (by decide) (fun c4 => ?_) (fun c4 => ?_)
    · replace hw := hw.1 c4
      refine lv_aload_n hx hb dX6_moveGoes_42 rfl (lv_at hl 0 rfl) ?_
      refine k_get 1 X hk (wg_30 G _) rfl (hz_wsX60 _) (Nat.le_of_ble_eq_true rfl) (List.mem_cons_of_mem _ (aw_r4 _ (List.mem_of_getElem? (i := 16) rfl))) rfl dX6_moveGoes_43 ?_
      refine lv_iconst (v := (2 : Int32)) hx hb dX6_moveGoes_46 (by decide) ?_
      refine lv_dup2_11 hx hb dX6_moveGoes_47 rfl rfl ?_
      refine k_iald X hk (wg_31 G _) hw.1 dX6_moveGoes_48 ?_
      replace hw := hw.2
      refine lv_iconst (v := (1 : Int32)) hx hb dX6_moveGoes_49 (by decide) ?_
      refine lv_isub hx hb dX6_moveGoes_50 ?_
      refine k_iast X hk (wg_31 G _) (ws_31 G _) rfl hw.1 dX6_moveGoes_51 (fun H locs hk => ?_)
      replace hw := hw.2
      obtain ⟨σ5, eσ5⟩ : ∃ y : Sg, y = (put σ2 31 ((2 : Int32)).toNatClampNeg ((σ2 31 ((2 : Int32)).toNatClampNeg) - (1 : Int32))) := ⟨_, rfl⟩
      rw [← eσ5] at hk
      replace hw := hw σ5 eσ5
      exact k_vret X hk hw dX6_moveGoes_52
    · replace hw := hw.2 c4
      refine lv_aload_n hx hb dX6_moveGoes_22 rfl (lv_at hl 0 rfl) ?_
      refine k_get 1 X hk (wg_30 G _) rfl (hz_wsX60 _) (Nat.le_of_ble_eq_true rfl) (List.mem_cons_of_mem _ (aw_r4 _ (List.mem_of_getElem? (i := 16) rfl))) rfl dX6_moveGoes_23 ?_
      refine lv_iload_n hx hb dX6_moveGoes_26 rfl (lv_at hl 1 rfl) ?_
      refine lv_aload_n hx hb dX6_moveGoes_27 rfl (lv_at hl 0 rfl) ?_
      refine k_get 1 X hk (wg_30 G _) rfl (hz_wsX60 _) (Nat.le_of_ble_eq_true rfl) (List.mem_cons_of_mem _ (aw_r4 _ (List.mem_of_getElem? (i := 16) rfl))) rfl dX6_moveGoes_28 ?_
      refine lv_iload_n hx hb dX6_moveGoes_31 rfl (lv_at hl 1 rfl) ?_
      refine lv_iconst (v := (4 : Int32)) hx hb dX6_moveGoes_32 (by decide) ?_
      refine lv_iadd hx hb dX6_moveGoes_33 ?_
      refine k_iald X hk (wg_31 G _) hw.1 dX6_moveGoes_34 ?_
      replace hw := hw.2
      refine k_iast X hk (wg_31 G _) (ws_31 G _) rfl hw.1 dX6_moveGoes_35 (fun H locs hk => ?_)
      replace hw := hw.2
      obtain ⟨σ6, eσ6⟩ : ∃ y : Sg, y = (put σ2 31 (x2).toNatClampNeg (σ2 31 ((x2 + (4 : Int32))).toNatClampNeg)) := ⟨_, rfl⟩
      rw [← eσ6] at hk
      replace hw := hw σ6 eσ6
      obtain ⟨x2_7, ex2_7⟩ : ∃ y : Int32, y = (x2 + (1 : Int32)) := ⟨_, rfl⟩
      replace hw := hw x2_7 ex2_7
      refine lv_iinc (v := x2_7) (lv' := [(2, .int x2_7), (0, .ref (G.1 30))]) hx hb dX6_moveGoes_36 hl (k := 1) rfl (by rw [ex2_7]; rfl) (Nat.le_of_ble_eq_true rfl) rfl (fun ls hl => ?_)
      refine lv_goto (tgt := 7) hx hb dX6_moveGoes_39 (by decide) ?_
      exact ih _ _ _ _ _ hw hk (lv_sub hl [1, 0] rfl)
def wp_X6_moveGoes (σ : Sg) (p1 : Int32) (Q : Sg → Prop) : Prop := ∀ x2_1 : Int32, x2_1 = ((95 : Int32) + ((4 : Int32) * p1)) → (∃ n0, wp_X6_moveGoes_7 Q  n0 x2_1 σ)
set_option maxHeartbeats 4000000 in
set_option maxRecDepth 100000 in
theorem c_X6_moveGoes (l : Launch) (G : Gw) (σ : Sg) (p1 : Int32) (Q : Sg → Prop) (hw : wp_X6_moveGoes σ p1 Q) : MetV l yX6_moveGoes wz_X6_moveGoes rm_X6_moveGoes G σ [.ref (G.1 30), .int p1] Q := by
  refine MetV.of cX6_moveGoes 3 none (by decide) rfl (Nat.le_of_ble_eq_true rfl) ?_
  intro p e s m below meth c X hk ls hl
  have X : KC p m meth c cX6_moveGoes 3 s _ wz_X6_moveGoes RX6 none G := X
  have hl : lv_has ls 3 [(0, .ref (G.1 30)), (1, .int p1)] := hl
  unfold wp_X6_moveGoes at hw
  have hx := X.1.1
  have hb := X.1.2.1
  refine lv_bipush (v := (95 : Int32)) hx hb dX6_moveGoes_0 (by decide) ?_
  refine lv_iconst (v := (4 : Int32)) hx hb dX6_moveGoes_2 (by decide) ?_
  refine lv_iload_n hx hb dX6_moveGoes_3 rfl (lv_at hl 1 rfl) ?_
  refine lv_imul hx hb dX6_moveGoes_4 ?_
  refine lv_iadd hx hb dX6_moveGoes_5 ?_
  refine lv_topi (fun x2_1 ex2_1 => ?_)
  replace hw := hw x2_1 ex2_1
  refine lv_istore_n (lv' := [(2, .int x2_1), (0, .ref (G.1 30)), (1, .int p1)]) hx hb dX6_moveGoes_6 rfl hl (Nat.le_of_ble_eq_true rfl) rfl (fun ls hl => ?_)
  obtain ⟨n0, hw⟩ := hw
  exact t_X6_moveGoes_7 X Q   n0 _ _ _ _ _ hw hk (lv_sub hl [1, 0] rfl)
def rm_X6_drop : Room := { frames := 2, cells := 0, slots := 0, locals := 42 }
abbrev wz_X6_drop : List Cond := Cond.code yX6_drop cX6_drop 2 (some .int) :: wsA
theorem hd_X6_drop : yX6_drop.cls = RX6 ∧ yX6_drop.cls ≠ "java/lang/invoke/MethodHandle" ∧ yX6_drop.cls ≠ "java/lang/invoke/VarHandle" ∧ (parseMethodDescriptor yX6_drop.desc).map (fun d => d.parameters.length) = some 0 := by decide +kernel
def wp_X6_drop_53 (Q : Int32 → Sg → Prop) (K31 : Int32 → Sg → Prop) (x1 : Int32) (σ : Sg) : Prop := ∀ x1_17 : Int32, x1_17 = (x1 + (-1 : Int32)) → (K31 x1_17 σ)
set_option maxHeartbeats 4000000 in
set_option maxRecDepth 100000 in
theorem t_X6_drop_53 {p : Program} {l : Launch} {e : Env} {s : State} {m : MethodId} {args : Array Value} {below : List Frame} {meth : Method} {c : Code} {G : Gw} (X : KC p m meth c cX6_drop 2 s args wz_X6_drop RX6 (some .int) G) (Q : Int32 → Sg → Prop) (K31 : Int32 → Sg → Prop) (hK31 : ∀ (σ : Sg) (x1 : Int32) (H : Heap) (locs : List Loc) (ls : Array Slot), K31 x1 σ → WK G s H locs σ → lv_has ls 2 [(0, .ref (G.1 30)), (1, .int x1)] → W p l e rm_X6_drop s m args below meth c H locs 0 0 (ZI below args s G Q) (F0 m 31 ls [])) : ∀ (σ : Sg) (x1 : Int32) (H : Heap) (locs : List Loc) (ls : Array Slot), wp_X6_drop_53 Q K31 x1 σ → WK G s H locs σ → lv_has ls 2 [(0, .ref (G.1 30)), (1, .int x1)] → W p l e rm_X6_drop s m args below meth c H locs 0 0 (ZI below args s G Q) (F0 m 53 ls []) := by
  have hx := X.1.1
  have hb := X.1.2.1
  intro σ x1 H locs ls hw hk hl
  unfold wp_X6_drop_53 at hw
  obtain ⟨x1_17, ex1_17⟩ : ∃ y : Int32, y = (x1 + (-1 : Int32)) := ⟨_, rfl⟩
  replace hw := hw x1_17 ex1_17
  refine lv_iinc (v := x1_17) (lv' := [(1, .int x1_17), (0, .ref (G.1 30))]) hx hb dX6_drop_53 hl (k := 1) rfl (by rw [ex1_17]; rfl) (Nat.le_of_ble_eq_true rfl) rfl (fun ls hl => ?_)
  refine lv_goto (tgt := 31) hx hb dX6_drop_56 (by decide) ?_
  exact hK31 _ _ _ _ _ hw hk (lv_sub hl [1, 0] rfl)
def wp_X6_drop_31 (Q : Int32 → Sg → Prop)  : Nat → Int32 → Sg → Prop
  | 0, _, _ => False
  | n + 1, x1, σ => (x1 < 0 → (wp_X6_roads σ  (fun r11 σ10 => Q r11 σ10))) ∧ (¬ (x1 < 0) → (wp_X6_ofMove σ x1 (1 : Int32) (fun r13 σ12 => wp_X6_roads σ12  (fun r15 σ14 => (r13 = r15 → (wp_X6_moveGoes σ14 x1 (fun σ18 => wp_X6_drop_53 Q (fun z1 σ => wp_X6_drop_31 Q  n z1 σ) x1 σ18))) ∧ (¬ (r13 = r15) → (wp_X6_drop_53 Q (fun z1 σ => wp_X6_drop_31 Q  n z1 σ) x1 σ14))))))
set_option maxHeartbeats 4000000 in
set_option maxRecDepth 100000 in
theorem t_X6_drop_31 {p : Program} {l : Launch} {e : Env} {s : State} {m : MethodId} {args : Array Value} {below : List Frame} {meth : Method} {c : Code} {G : Gw} (X : KC p m meth c cX6_drop 2 s args wz_X6_drop RX6 (some .int) G) (Q : Int32 → Sg → Prop)  : ∀ (n : Nat) (σ : Sg) (x1 : Int32) (H : Heap) (locs : List Loc) (ls : Array Slot), wp_X6_drop_31 Q  n x1 σ → WK G s H locs σ → lv_has ls 2 [(0, .ref (G.1 30)), (1, .int x1)] → W p l e rm_X6_drop s m args below meth c H locs 0 0 (ZI below args s G Q) (F0 m 31 ls []) := by
  have hx := X.1.1
  have hb := X.1.2.1
  intro n
  induction n with
  | zero =>
    intro σ x1 H locs ls hw hk hl
    exact False.elim hw
  | succ n ih =>
    intro σ x1 H locs ls hw hk hl
    rw [wp_X6_drop_31] at hw
    refine lv_iload_n hx hb dX6_drop_31 rfl (lv_at hl 1 rfl) ?_
    refine lv_if_lt (tgt := 59) hx hb dX6_drop_32 (by decide) (fun c9 => ?_) (fun c9 => ?_)
    · replace hw := hw.1 c9
      refine lv_aload_n hx hb dX6_drop_59 rfl (lv_at hl 0 rfl) ?_
      refine k_callVi (rest := []) X hk (c_X6_roads l G _  _ hw) (cwV 0 X.1.2.2.2.2 (gzV (aw_r16 _ (List.mem_of_getElem? (i := 18) rfl)) (aw_r16 _ (List.mem_of_getElem? (i := 19) rfl)) (aw_r16 _ (List.mem_of_getElem? (i := 20) rfl)) (aw_r1 _ (List.mem_of_getElem? (i := 5) rfl)) (aw_r16 _ (List.mem_of_getElem? (i := 21) rfl))) rfl rfl rfl hd_X6_roads ⟨(Nat.le_of_ble_eq_true rfl), (Nat.le_of_ble_eq_true rfl)⟩) (wg_30 G _) rfl rfl hl.1 rfl (Nat.le_of_ble_eq_true rfl) dX6_drop_60 ⟨Nat.zero_le _, Nat.zero_le _⟩ (fun r11 σ10 H locs hw hk => ?_)
      exact k_iret X hk hw dX6_drop_63
    · replace hw := hw.2 c9
      refine lv_aload_n hx hb dX6_drop_35 rfl (lv_at hl 0 rfl) ?_
      refine lv_iload_n hx hb dX6_drop_36 rfl (lv_at hl 1 rfl) ?_
      refine lv_iconst (v := (1 : Int32)) hx hb dX6_drop_37 (by decide) ?_
      refine k_callVi (rest := []) X hk (c_X6_ofMove l G _ _ _ _ hw) (cwV 2 X.1.2.2.2.2 (gzV (aw_r22 _ (List.mem_of_getElem? (i := 1) rfl)) (aw_r22 _ (List.mem_of_getElem? (i := 2) rfl)) (aw_r22 _ (List.mem_of_getElem? (i := 3) rfl)) (aw_r1 _ (List.mem_of_getElem? (i := 5) rfl)) (aw_r22 _ (List.mem_of_getElem? (i := 4) rfl))) rfl rfl rfl hd_X6_ofMove ⟨(Nat.le_of_ble_eq_true rfl), (Nat.le_of_ble_eq_true rfl)⟩) (wg_30 G _) rfl rfl hl.1 rfl (Nat.le_of_ble_eq_true rfl) dX6_drop_38 ⟨Nat.zero_le _, Nat.zero_le _⟩ (fun r13 σ12 H locs hw hk => ?_)
      refine lv_aload_n hx hb dX6_drop_41 rfl (lv_at hl 0 rfl) ?_
      refine k_callVi (rest := [.int r13]) X hk (c_X6_roads l G _  _ hw) (cwV 0 X.1.2.2.2.2 (gzV (aw_r16 _ (List.mem_of_getElem? (i := 18) rfl)) (aw_r16 _ (List.mem_of_getElem? (i := 19) rfl)) (aw_r16 _ (List.mem_of_getElem? (i := 20) rfl)) (aw_r1 _ (List.mem_of_getElem? (i := 5) rfl)) (aw_r16 _ (List.mem_of_getElem? (i := 21) rfl))) rfl rfl rfl hd_X6_roads ⟨(Nat.le_of_ble_eq_true rfl), (Nat.le_of_ble_eq_true rfl)⟩) (wg_30 G _) rfl rfl hl.1 rfl (Nat.le_of_ble_eq_true rfl) dX6_drop_42 ⟨Nat.zero_le _, Nat.zero_le _⟩ (fun r15 σ14 H locs hw hk => ?_)
      refine lv_icmp_ne (tgt := 53) hx hb dX6_drop_45 (by decide) (fun c16 => ?_) (fun c16 => ?_)
      · replace hw := hw.2 c16
        exact t_X6_drop_53 X Q _ ih _ _ _ _ _ hw hk hl
      · replace hw := hw.1 c16
        refine lv_aload_n hx hb dX6_drop_48 rfl (lv_at hl 0 rfl) ?_
        refine lv_iload_n hx hb dX6_drop_49 rfl (lv_at hl 1 rfl) ?_
        refine k_callVv (rest := []) X hk (c_X6_moveGoes l G _ _ _ hw) (cwV 1 X.1.2.2.2.2 (gzV (aw_r22 _ (List.mem_of_getElem? (i := 5) rfl)) (aw_r22 _ (List.mem_of_getElem? (i := 6) rfl)) (aw_r22 _ (List.mem_of_getElem? (i := 7) rfl)) (aw_r1 _ (List.mem_of_getElem? (i := 5) rfl)) (aw_r22 _ (List.mem_of_getElem? (i := 8) rfl))) rfl rfl rfl hd_X6_moveGoes ⟨(Nat.le_of_ble_eq_true rfl), (Nat.le_of_ble_eq_true rfl)⟩) (wg_30 G _) rfl rfl hl.1 rfl (Nat.le_of_ble_eq_true rfl) dX6_drop_50 ⟨Nat.zero_le _, Nat.zero_le _⟩ (fun σ18 H locs hw hk => ?_)
        exact t_X6_drop_53 X Q _ ih _ _ _ _ _ hw hk hl
def wp_X6_drop (σ : Sg) (Q : Int32 → Sg → Prop) : Prop := ∀ σ1 : Sg, σ1 = (put σ 30 0 (0 : Int32)) → (wp_X6_roads σ1  (fun r3 σ2 => (r3 = 0 → (Q (-1 : Int32) σ2)) ∧ (¬ (r3 = 0) → (vp_in (1 : Int32) 256 ∧ (vp_in (1 : Int32) 256 ∧ (∀ σ5 : Sg, σ5 = (put σ2 31 ((1 : Int32)).toNatClampNeg ((σ2 31 ((1 : Int32)).toNatClampNeg) - (1 : Int32))) → (wp_X6_moves σ5  (fun r7 σ6 => ∀ x1_8 : Int32, x1_8 = (r7 - (1 : Int32)) → (∃ n0, wp_X6_drop_31 Q  n0 x1_8 σ6)))))))))
set_option maxHeartbeats 4000000 in
set_option maxRecDepth 100000 in
theorem c_X6_drop (l : Launch) (G : Gw) (σ : Sg) (Q : Int32 → Sg → Prop) (hw : wp_X6_drop σ  Q) : MetI l yX6_drop wz_X6_drop rm_X6_drop G σ [.ref (G.1 30)] Q := by
  refine MetI.of cX6_drop 2 (some .int) (by decide) rfl (Nat.le_of_ble_eq_true rfl) ?_
  intro p e s m below meth c X hk ls hl
  have X : KC p m meth c cX6_drop 2 s _ wz_X6_drop RX6 (some .int) G := X
  have hl : lv_has ls 2 [(0, .ref (G.1 30))] := hl
  unfold wp_X6_drop at hw
  have hx := X.1.1
  have hb := X.1.2.1
  refine lv_aload_n hx hb dX6_drop_0 rfl (lv_at hl 0 rfl) ?_
  refine lv_iconst (v := (0 : Int32)) hx hb dX6_drop_1 (by decide) ?_
  refine k_put 0 X hk (wg_30 G _) rfl (hz_wsX60 _) tyX6_ok nmX6 (Nat.le_of_ble_eq_true rfl) (List.mem_cons_of_mem _ (aw_r6 _ (List.mem_of_getElem? (i := 3) rfl))) rfl rfl (Nat.le_of_ble_eq_true rfl) (ws_30_0 G _ _) dX6_drop_2 (fun H locs hk => ?_)
  obtain ⟨σ1, eσ1⟩ : ∃ y : Sg, y = (put σ 30 0 (0 : Int32)) := ⟨_, rfl⟩
  rw [← eσ1] at hk
  replace hw := hw σ1 eσ1
  refine lv_aload_n hx hb dX6_drop_5 rfl (lv_at hl 0 rfl) ?_
  refine k_callVi (rest := []) X hk (c_X6_roads l G _  _ hw) (cwV 0 X.1.2.2.2.2 (gzV (aw_r16 _ (List.mem_of_getElem? (i := 18) rfl)) (aw_r16 _ (List.mem_of_getElem? (i := 19) rfl)) (aw_r16 _ (List.mem_of_getElem? (i := 20) rfl)) (aw_r1 _ (List.mem_of_getElem? (i := 5) rfl)) (aw_r16 _ (List.mem_of_getElem? (i := 21) rfl))) rfl rfl rfl hd_X6_roads ⟨(Nat.le_of_ble_eq_true rfl), (Nat.le_of_ble_eq_true rfl)⟩) (wg_30 G _) rfl rfl hl.1 rfl (Nat.le_of_ble_eq_true rfl) dX6_drop_6 ⟨Nat.zero_le _, Nat.zero_le _⟩ (fun r3 σ2 H locs hw hk => ?_)
  refine lv_if_ne (tgt := 14) hx hb dX6_drop_9 (by decide) (fun c4 => ?_) (fun c4 => ?_)
  · replace hw := hw.2 c4
    refine lv_aload_n hx hb dX6_drop_14 rfl (lv_at hl 0 rfl) ?_
    refine k_get 1 X hk (wg_30 G _) rfl (hz_wsX60 _) (Nat.le_of_ble_eq_true rfl) (List.mem_cons_of_mem _ (aw_r4 _ (List.mem_of_getElem? (i := 16) rfl))) rfl dX6_drop_15 ?_
    refine lv_iconst (v := (1 : Int32)) hx hb dX6_drop_18 (by decide) ?_
    refine lv_dup2_11 hx hb dX6_drop_19 rfl rfl ?_
    refine k_iald X hk (wg_31 G _) hw.1 dX6_drop_20 ?_
    replace hw := hw.2
    refine lv_iconst (v := (1 : Int32)) hx hb dX6_drop_21 (by decide) ?_
    refine lv_isub hx hb dX6_drop_22 ?_
    refine k_iast X hk (wg_31 G _) (ws_31 G _) rfl hw.1 dX6_drop_23 (fun H locs hk => ?_)
    replace hw := hw.2
    obtain ⟨σ5, eσ5⟩ : ∃ y : Sg, y = (put σ2 31 ((1 : Int32)).toNatClampNeg ((σ2 31 ((1 : Int32)).toNatClampNeg) - (1 : Int32))) := ⟨_, rfl⟩
    rw [← eσ5] at hk
    replace hw := hw σ5 eσ5
    refine lv_aload_n hx hb dX6_drop_24 rfl (lv_at hl 0 rfl) ?_
    refine k_callVi (rest := []) X hk (c_X6_moves l G _  _ hw) (cwV 0 X.1.2.2.2.2 (gzV (aw_r18 _ (List.mem_of_getElem? (i := 2) rfl)) (aw_r18 _ (List.mem_of_getElem? (i := 3) rfl)) (aw_r18 _ (List.mem_of_getElem? (i := 4) rfl)) (aw_r1 _ (List.mem_of_getElem? (i := 5) rfl)) (aw_r18 _ (List.mem_of_getElem? (i := 5) rfl))) rfl rfl rfl hd_X6_moves ⟨(Nat.le_of_ble_eq_true rfl), (Nat.le_of_ble_eq_true rfl)⟩) (wg_30 G _) rfl rfl hl.1 rfl (Nat.le_of_ble_eq_true rfl) dX6_drop_25 ⟨Nat.zero_le _, Nat.zero_le _⟩ (fun r7 σ6 H locs hw hk => ?_)
    refine lv_iconst (v := (1 : Int32)) hx hb dX6_drop_28 (by decide) ?_
    refine lv_isub hx hb dX6_drop_29 ?_
    refine lv_topi (fun x1_8 ex1_8 => ?_)
    replace hw := hw x1_8 ex1_8
    refine lv_istore_n (lv' := [(1, .int x1_8), (0, .ref (G.1 30))]) hx hb dX6_drop_30 rfl hl (Nat.le_of_ble_eq_true rfl) rfl (fun ls hl => ?_)
    obtain ⟨n0, hw⟩ := hw
    exact t_X6_drop_31 X Q   n0 _ _ _ _ _ hw hk (lv_sub hl [1, 0] rfl)
  · replace hw := hw.1 c4
    refine lv_iconst (v := (-1 : Int32)) hx hb dX6_drop_12 (by decide) ?_
    exact k_iret X hk hw dX6_drop_13
def rm_X6_mayMove : Room := { frames := 2, cells := 0, slots := 0, locals := 43 }
abbrev wz_X6_mayMove : List Cond := Cond.code yX6_mayMove cX6_mayMove 4 (some .boolean) :: wsA
theorem hd_X6_mayMove : yX6_mayMove.cls = RX6 ∧ yX6_mayMove.cls ≠ "java/lang/invoke/MethodHandle" ∧ yX6_mayMove.cls ≠ "java/lang/invoke/VarHandle" ∧ (parseMethodDescriptor yX6_mayMove.desc).map (fun d => d.parameters.length) = some 3 := by decide +kernel
def wp_X6_mayMove (σ : Sg) (p1 p2 p3 : Int32) (Q : Int32 → Sg → Prop) : Prop := wp_X6_isIn σ p1 (0 : Int32) (40 : Int32) (fun r2 σ1 => (r2 = 0 → (bz (0 : Int32) ∧ Q (0 : Int32) σ1)) ∧ (¬ (r2 = 0) → (wp_X6_isRoad σ1 p2 (fun r5 σ4 => (r5 = 0 → (bz (0 : Int32) ∧ Q (0 : Int32) σ4)) ∧ (¬ (r5 = 0) → (wp_X6_isIn σ4 p3 (1 : Int32) (60 : Int32) (fun r8 σ7 => (r8 = 0 → (bz (0 : Int32) ∧ Q (0 : Int32) σ7)) ∧ (¬ (r8 = 0) → (bz (1 : Int32) ∧ Q (1 : Int32) σ7)))))))))
set_option maxHeartbeats 4000000 in
set_option maxRecDepth 100000 in
theorem c_X6_mayMove (l : Launch) (G : Gw) (σ : Sg) (p1 p2 p3 : Int32) (Q : Int32 → Sg → Prop) (hw : wp_X6_mayMove σ p1 p2 p3 Q) : MetI l yX6_mayMove wz_X6_mayMove rm_X6_mayMove G σ [.ref (G.1 30), .int p1, .int p2, .int p3] Q := by
  refine MetI.of cX6_mayMove 4 (some .boolean) (by decide) rfl (Nat.le_of_ble_eq_true rfl) ?_
  intro p e s m below meth c X hk ls hl
  have X : KC p m meth c cX6_mayMove 4 s _ wz_X6_mayMove RX6 (some .boolean) G := X
  have hl : lv_has ls 4 [(0, .ref (G.1 30)), (1, .int p1), (2, .int p2), (3, .int p3)] := hl
  unfold wp_X6_mayMove at hw
  have hx := X.1.1
  have hb := X.1.2.1
  refine lv_iload_n hx hb dX6_mayMove_0 rfl (lv_at hl 1 rfl) ?_
  refine lv_iconst (v := (0 : Int32)) hx hb dX6_mayMove_1 (by decide) ?_
  refine lv_bipush (v := (40 : Int32)) hx hb dX6_mayMove_2 (by decide) ?_
  refine k_callSi (rest := []) X hk (c_X6_isIn l G _ _ _ _ _ hw) (va_cwS 3 X.1.2.2.2.2 (gzS (aw_r6 _ (List.mem_of_getElem? (i := 17) rfl)) (aw_r6 _ (List.mem_of_getElem? (i := 18) rfl)) (aw_r1 _ (List.mem_of_getElem? (i := 5) rfl)) (aw_r6 _ (List.mem_of_getElem? (i := 19) rfl))) rfl rfl rfl hds_X6_isIn ⟨(Nat.le_of_ble_eq_true rfl), (Nat.le_of_ble_eq_true rfl)⟩) rfl hl.1 rfl (Nat.le_of_ble_eq_true rfl) dX6_mayMove_4 ⟨Nat.zero_le _, Nat.zero_le _⟩ (fun r2 σ1 H locs hw hk => ?_)
  refine lv_if_eq (tgt := 32) hx hb dX6_mayMove_7 (by decide) (fun c3 => ?_) (fun c3 => ?_)
  · replace hw := hw.1 c3
    refine lv_iconst (v := (0 : Int32)) hx hb dX6_mayMove_32 (by decide) ?_
    exact k_zret X hk hw dX6_mayMove_33
  · replace hw := hw.2 c3
    refine lv_aload_n hx hb dX6_mayMove_10 rfl (lv_at hl 0 rfl) ?_
    refine lv_iload_n hx hb dX6_mayMove_11 rfl (lv_at hl 2 rfl) ?_
    refine k_callVi (rest := []) X hk (c_X6_isRoad l G _ _ _ hw) (cwV 1 X.1.2.2.2.2 (gzV (aw_r17 _ (List.mem_of_getElem? (i := 10) rfl)) (aw_r17 _ (List.mem_of_getElem? (i := 11) rfl)) (aw_r17 _ (List.mem_of_getElem? (i := 12) rfl)) (aw_r1 _ (List.mem_of_getElem? (i := 5) rfl)) (aw_r17 _ (List.mem_of_getElem? (i := 13) rfl))) rfl rfl rfl hd_X6_isRoad ⟨(Nat.le_of_ble_eq_true rfl), (Nat.le_of_ble_eq_true rfl)⟩) (wg_30 G _) rfl rfl hl.1 rfl (Nat.le_of_ble_eq_true rfl) dX6_mayMove_12 ⟨Nat.zero_le _, Nat.zero_le _⟩ (fun r5 σ4 H locs hw hk => ?_)
    refine lv_if_eq (tgt := 32) hx hb dX6_mayMove_15 (by decide) (fun c6 => ?_) (fun c6 => ?_)
    · replace hw := hw.1 c6
      refine lv_iconst (v := (0 : Int32)) hx hb dX6_mayMove_32 (by decide) ?_
      exact k_zret X hk hw dX6_mayMove_33
    · replace hw := hw.2 c6
      refine lv_iload_n hx hb dX6_mayMove_18 rfl (lv_at hl 3 rfl) ?_
      refine lv_iconst (v := (1 : Int32)) hx hb dX6_mayMove_19 (by decide) ?_
      refine lv_bipush (v := (60 : Int32)) hx hb dX6_mayMove_20 (by decide) ?_
      refine k_callSi (rest := []) X hk (c_X6_isIn l G _ _ _ _ _ hw) (va_cwS 3 X.1.2.2.2.2 (gzS (aw_r6 _ (List.mem_of_getElem? (i := 17) rfl)) (aw_r6 _ (List.mem_of_getElem? (i := 18) rfl)) (aw_r1 _ (List.mem_of_getElem? (i := 5) rfl)) (aw_r6 _ (List.mem_of_getElem? (i := 19) rfl))) rfl rfl rfl hds_X6_isIn ⟨(Nat.le_of_ble_eq_true rfl), (Nat.le_of_ble_eq_true rfl)⟩) rfl hl.1 rfl (Nat.le_of_ble_eq_true rfl) dX6_mayMove_22 ⟨Nat.zero_le _, Nat.zero_le _⟩ (fun r8 σ7 H locs hw hk => ?_)
      refine lv_if_eq (tgt := 32) hx hb dX6_mayMove_25 (by decide) (fun c9 => ?_) (fun c9 => ?_)
      · replace hw := hw.1 c9
        refine lv_iconst (v := (0 : Int32)) hx hb dX6_mayMove_32 (by decide) ?_
        exact k_zret X hk hw dX6_mayMove_33
      · replace hw := hw.2 c9
        refine lv_iconst (v := (1 : Int32)) hx hb dX6_mayMove_28 (by decide) ?_
        refine lv_goto (tgt := 33) hx hb dX6_mayMove_29 (by decide) ?_
        exact k_zret X hk hw dX6_mayMove_33
def rm_X6_move : Room := { frames := 3, cells := 0, slots := 0, locals := 66 }
abbrev wz_X6_move : List Cond := Cond.code yX6_move cX6_move 5 (some .int) :: wsA
theorem hd_X6_move : yX6_move.cls = RX6 ∧ yX6_move.cls ≠ "java/lang/invoke/MethodHandle" ∧ yX6_move.cls ≠ "java/lang/invoke/VarHandle" ∧ (parseMethodDescriptor yX6_move.desc).map (fun d => d.parameters.length) = some 4 := by decide +kernel
def wp_X6_move_42 (Q : Int32 → Sg → Prop)  (x4 y1 y2 y3 : Int32) (σ : Sg) : Prop := wp_X6_moveMore σ y1 y2 y3 x4 (fun σ9 => wp_X6_moves σ9  (fun r12 σ11 => Q (r12 - (1 : Int32)) σ11))
set_option maxHeartbeats 4000000 in
set_option maxRecDepth 100000 in
theorem t_X6_move_42 {p : Program} {l : Launch} {e : Env} {s : State} {m : MethodId} {args : Array Value} {below : List Frame} {meth : Method} {c : Code} {G : Gw} (X : KC p m meth c cX6_move 5 s args wz_X6_move RX6 (some .int) G) (Q : Int32 → Sg → Prop)  : ∀ (σ : Sg) (x4 y1 y2 y3 : Int32) (H : Heap) (locs : List Loc) (ls : Array Slot), wp_X6_move_42 Q  x4 y1 y2 y3 σ → WK G s H locs σ → lv_has ls 5 [(0, .ref (G.1 30)), (4, .int x4)] → W p l e rm_X6_move s m args below meth c H locs 0 0 (ZI below args s G Q) (F0 m 42 ls [.int y3, .int y2, .int y1, .ref (G.1 30)]) := by
  have hx := X.1.1
  have hb := X.1.2.1
  intro σ x4 y1 y2 y3 H locs ls hw hk hl
  unfold wp_X6_move_42 at hw
  refine lv_iload hx hb dX6_move_42 (lv_at hl 1 rfl) ?_
  refine k_callVv (rest := []) X hk (c_X6_moveMore l G _ _ _ _ _ _ hw) (cwV 4 X.1.2.2.2.2 (gzV (aw_r18 _ (List.mem_of_getElem? (i := 6) rfl)) (aw_r18 _ (List.mem_of_getElem? (i := 7) rfl)) (aw_r18 _ (List.mem_of_getElem? (i := 8) rfl)) (aw_r1 _ (List.mem_of_getElem? (i := 5) rfl)) (aw_r18 _ (List.mem_of_getElem? (i := 9) rfl))) rfl rfl rfl hd_X6_moveMore ⟨(Nat.le_of_ble_eq_true rfl), (Nat.le_of_ble_eq_true rfl)⟩) (wg_30 G _) rfl rfl hl.1 rfl (Nat.le_of_ble_eq_true rfl) dX6_move_44 ⟨Nat.zero_le _, Nat.zero_le _⟩ (fun σ9 H locs hw hk => ?_)
  refine lv_aload_n hx hb dX6_move_47 rfl (lv_at hl 0 rfl) ?_
  refine k_callVi (rest := []) X hk (c_X6_moves l G _  _ hw) (cwV 0 X.1.2.2.2.2 (gzV (aw_r18 _ (List.mem_of_getElem? (i := 2) rfl)) (aw_r18 _ (List.mem_of_getElem? (i := 3) rfl)) (aw_r18 _ (List.mem_of_getElem? (i := 4) rfl)) (aw_r1 _ (List.mem_of_getElem? (i := 5) rfl)) (aw_r18 _ (List.mem_of_getElem? (i := 5) rfl))) rfl rfl rfl hd_X6_moves ⟨(Nat.le_of_ble_eq_true rfl), (Nat.le_of_ble_eq_true rfl)⟩) (wg_30 G _) rfl rfl hl.1 rfl (Nat.le_of_ble_eq_true rfl) dX6_move_48 ⟨Nat.zero_le _, Nat.zero_le _⟩ (fun r12 σ11 H locs hw hk => ?_)
  refine lv_iconst (v := (1 : Int32)) hx hb dX6_move_51 (by decide) ?_
  refine lv_isub hx hb dX6_move_52 ?_
  exact k_iret X hk hw dX6_move_53
def wp_X6_move (σ : Sg) (p1 p2 p3 p4 : Int32) (Q : Int32 → Sg → Prop) : Prop := ∀ σ1 : Sg, σ1 = (put σ 30 0 (0 : Int32)) → (wp_X6_mayMove σ1 p1 p2 p4 (fun r3 σ2 => (r3 = 0 → (Q (-1 : Int32) σ2)) ∧ (¬ (r3 = 0) → (wp_X6_moves σ2  (fun r6 σ5 => (r6 = (40 : Int32) → (Q (-2 : Int32) σ5)) ∧ (¬ (r6 = (40 : Int32)) → ((p3 = 0 → (wp_X6_move_42 Q  p4 p1 p2 (0 : Int32) σ5)) ∧ (¬ (p3 = 0) → (wp_X6_move_42 Q  p4 p1 p2 (1 : Int32) σ5)))))))))
set_option maxHeartbeats 4000000 in
set_option maxRecDepth 100000 in
theorem c_X6_move (l : Launch) (G : Gw) (σ : Sg) (p1 p2 p3 p4 : Int32) (Q : Int32 → Sg → Prop) (hw : wp_X6_move σ p1 p2 p3 p4 Q) : MetI l yX6_move wz_X6_move rm_X6_move G σ [.ref (G.1 30), .int p1, .int p2, .int p3, .int p4] Q := by
  refine MetI.of cX6_move 5 (some .int) (by decide) rfl (Nat.le_of_ble_eq_true rfl) ?_
  intro p e s m below meth c X hk ls hl
  have X : KC p m meth c cX6_move 5 s _ wz_X6_move RX6 (some .int) G := X
  have hl : lv_has ls 5 [(0, .ref (G.1 30)), (1, .int p1), (2, .int p2), (3, .int p3), (4, .int p4)] := hl
  unfold wp_X6_move at hw
  have hx := X.1.1
  have hb := X.1.2.1
  refine lv_aload_n hx hb dX6_move_0 rfl (lv_at hl 0 rfl) ?_
  refine lv_iconst (v := (0 : Int32)) hx hb dX6_move_1 (by decide) ?_
  refine k_put 0 X hk (wg_30 G _) rfl (hz_wsX60 _) tyX6_ok nmX6 (Nat.le_of_ble_eq_true rfl) (List.mem_cons_of_mem _ (aw_r6 _ (List.mem_of_getElem? (i := 3) rfl))) rfl rfl (Nat.le_of_ble_eq_true rfl) (ws_30_0 G _ _) dX6_move_2 (fun H locs hk => ?_)
  obtain ⟨σ1, eσ1⟩ : ∃ y : Sg, y = (put σ 30 0 (0 : Int32)) := ⟨_, rfl⟩
  rw [← eσ1] at hk
  replace hw := hw σ1 eσ1
  refine lv_aload_n hx hb dX6_move_5 rfl (lv_at hl 0 rfl) ?_
  refine lv_iload_n hx hb dX6_move_6 rfl (lv_at hl 1 rfl) ?_
  refine lv_iload_n hx hb dX6_move_7 rfl (lv_at hl 2 rfl) ?_
  refine lv_iload hx hb dX6_move_8 (lv_at hl 4 rfl) ?_
  refine k_callVi (rest := []) X hk (c_X6_mayMove l G _ _ _ _ _ hw) (cwV 3 X.1.2.2.2.2 (gzV (aw_r22 _ (List.mem_of_getElem? (i := 20) rfl)) (aw_r22 _ (List.mem_of_getElem? (i := 21) rfl)) (aw_r22 _ (List.mem_of_getElem? (i := 22) rfl)) (aw_r1 _ (List.mem_of_getElem? (i := 5) rfl)) (aw_r22 _ (List.mem_of_getElem? (i := 23) rfl))) rfl rfl rfl hd_X6_mayMove ⟨(Nat.le_of_ble_eq_true rfl), (Nat.le_of_ble_eq_true rfl)⟩) (wg_30 G _) rfl rfl hl.1 rfl (Nat.le_of_ble_eq_true rfl) dX6_move_10 ⟨Nat.zero_le _, Nat.zero_le _⟩ (fun r3 σ2 H locs hw hk => ?_)
  refine lv_if_ne (tgt := 18) hx hb dX6_move_13 (by decide) (fun c4 => ?_) (fun c4 => ?_)
  · replace hw := hw.2 c4
    refine lv_aload_n hx hb dX6_move_18 rfl (lv_at hl 0 rfl) ?_
    refine k_callVi (rest := []) X hk (c_X6_moves l G _  _ hw) (cwV 0 X.1.2.2.2.2 (gzV (aw_r18 _ (List.mem_of_getElem? (i := 2) rfl)) (aw_r18 _ (List.mem_of_getElem? (i := 3) rfl)) (aw_r18 _ (List.mem_of_getElem? (i := 4) rfl)) (aw_r1 _ (List.mem_of_getElem? (i := 5) rfl)) (aw_r18 _ (List.mem_of_getElem? (i := 5) rfl))) rfl rfl rfl hd_X6_moves ⟨(Nat.le_of_ble_eq_true rfl), (Nat.le_of_ble_eq_true rfl)⟩) (wg_30 G _) rfl rfl hl.1 rfl (Nat.le_of_ble_eq_true rfl) dX6_move_19 ⟨Nat.zero_le _, Nat.zero_le _⟩ (fun r6 σ5 H locs hw hk => ?_)
    refine lv_bipush (v := (40 : Int32)) hx hb dX6_move_22 (by decide) ?_
    refine lv_icmp_ne (tgt := 30) hx hb dX6_move_24 (by decide) (fun c7 => ?_) (fun c7 => ?_)
    · replace hw := hw.2 c7
      refine lv_aload_n hx hb dX6_move_30 rfl (lv_at hl 0 rfl) ?_
      refine lv_iload_n hx hb dX6_move_31 rfl (lv_at hl 1 rfl) ?_
      refine lv_iload_n hx hb dX6_move_32 rfl (lv_at hl 2 rfl) ?_
      refine lv_iload_n hx hb dX6_move_33 rfl (lv_at hl 3 rfl) ?_
      refine lv_if_eq (tgt := 41) hx hb dX6_move_34 (by decide) (fun c8 => ?_) (fun c8 => ?_)
      · replace hw := hw.1 c8
        refine lv_iconst (v := (0 : Int32)) hx hb dX6_move_41 (by decide) ?_
        exact t_X6_move_42 X Q   _ _ _ _ _ _ _ _ hw hk (lv_sub hl [0, 4] rfl)
      · replace hw := hw.2 c8
        refine lv_iconst (v := (1 : Int32)) hx hb dX6_move_37 (by decide) ?_
        refine lv_goto (tgt := 42) hx hb dX6_move_38 (by decide) ?_
        exact t_X6_move_42 X Q   _ _ _ _ _ _ _ _ hw hk (lv_sub hl [0, 4] rfl)
    · replace hw := hw.1 c7
      refine lv_bipush (v := (-2 : Int32)) hx hb dX6_move_27 (by decide) ?_
      exact k_iret X hk hw dX6_move_29
  · replace hw := hw.1 c4
    refine lv_iconst (v := (-1 : Int32)) hx hb dX6_move_16 (by decide) ?_
    exact k_iret X hk hw dX6_move_17
def rm_X6_back : Room := { frames := 1, cells := 0, slots := 0, locals := 21 }
abbrev wz_X6_back : List Cond := Cond.code yX6_back cX6_back 2 (some .int) :: wsA
theorem hd_X6_back : yX6_back.cls = RX6 ∧ yX6_back.cls ≠ "java/lang/invoke/MethodHandle" ∧ yX6_back.cls ≠ "java/lang/invoke/VarHandle" ∧ (parseMethodDescriptor yX6_back.desc).map (fun d => d.parameters.length) = some 1 := by decide +kernel
def wp_X6_back (σ : Sg) (p1 : Int32) (Q : Int32 → Sg → Prop) : Prop := ∀ σ1 : Sg, σ1 = (put σ 30 0 (0 : Int32)) → (((1 : Int32) ≤ p1 → (vp_in (2 : Int32) 256 ∧ (wp_X6_moves σ1  (fun r4 σ3 => wp_X6_lesser σ3 p1 r4 (fun r6 σ5 => vp_in (2 : Int32) 256 ∧ (∀ σ7 : Sg, σ7 = (put σ5 31 ((2 : Int32)).toNatClampNeg ((σ1 31 ((2 : Int32)).toNatClampNeg) - r6)) → (wp_X6_moves σ7  (fun r9 σ8 => Q r9 σ8)))))))) ∧ (¬ ((1 : Int32) ≤ p1) → (Q (-1 : Int32) σ1)))
set_option maxHeartbeats 4000000 in
set_option maxRecDepth 100000 in
theorem c_X6_back (l : Launch) (G : Gw) (σ : Sg) (p1 : Int32) (Q : Int32 → Sg → Prop) (hw : wp_X6_back σ p1 Q) : MetI l yX6_back wz_X6_back rm_X6_back G σ [.ref (G.1 30), .int p1] Q := by
  refine MetI.of cX6_back 2 (some .int) (by decide) rfl (Nat.le_of_ble_eq_true rfl) ?_
  intro p e s m below meth c X hk ls hl
  have X : KC p m meth c cX6_back 2 s _ wz_X6_back RX6 (some .int) G := X
  have hl : lv_has ls 2 [(0, .ref (G.1 30)), (1, .int p1)] := hl
  unfold wp_X6_back at hw
  have hx := X.1.1
  have hb := X.1.2.1
  refine lv_aload_n hx hb dX6_back_0 rfl (lv_at hl 0 rfl) ?_
  refine lv_iconst (v := (0 : Int32)) hx hb dX6_back_1 (by decide) ?_
  refine k_put 0 X hk (wg_30 G _) rfl (hz_wsX60 _) tyX6_ok nmX6 (Nat.le_of_ble_eq_true rfl) (List.mem_cons_of_mem _ (aw_r6 _ (List.mem_of_getElem? (i := 3) rfl))) rfl rfl (Nat.le_of_ble_eq_true rfl) (ws_30_0 G _ _) dX6_back_2 (fun H locs hk => ?_)
  obtain ⟨σ1, eσ1⟩ : ∃ y : Sg, y = (put σ 30 0 (0 : Int32)) := ⟨_, rfl⟩
  rw [← eσ1] at hk
  replace hw := hw σ1 eσ1
  refine lv_iload_n hx hb dX6_back_5 rfl (lv_at hl 1 rfl) ?_
  refine lv_iconst (v := (1 : Int32)) hx hb dX6_back_6 (by decide) ?_
  refine lv_icmp_ge (tgt := 12) hx hb dX6_back_7 (by decide) (fun c2 => ?_) (fun c2 => ?_)
  · replace hw := hw.1 c2
    refine lv_aload_n hx hb dX6_back_12 rfl (lv_at hl 0 rfl) ?_
    refine k_get 1 X hk (wg_30 G _) rfl (hz_wsX60 _) (Nat.le_of_ble_eq_true rfl) (List.mem_cons_of_mem _ (aw_r4 _ (List.mem_of_getElem? (i := 16) rfl))) rfl dX6_back_13 ?_
    refine lv_iconst (v := (2 : Int32)) hx hb dX6_back_16 (by decide) ?_
    refine lv_dup2_11 hx hb dX6_back_17 rfl rfl ?_
    refine k_iald X hk (wg_31 G _) hw.1 dX6_back_18 ?_
    replace hw := hw.2
    refine lv_iload_n hx hb dX6_back_19 rfl (lv_at hl 1 rfl) ?_
    refine lv_aload_n hx hb dX6_back_20 rfl (lv_at hl 0 rfl) ?_
    refine k_callVi (rest := [.int p1, .int (σ1 31 ((2 : Int32)).toNatClampNeg), .int (2 : Int32), .ref (G.1 31)]) X hk (c_X6_moves l G _  _ hw) (cwV 0 X.1.2.2.2.2 (gzV (aw_r18 _ (List.mem_of_getElem? (i := 2) rfl)) (aw_r18 _ (List.mem_of_getElem? (i := 3) rfl)) (aw_r18 _ (List.mem_of_getElem? (i := 4) rfl)) (aw_r1 _ (List.mem_of_getElem? (i := 5) rfl)) (aw_r18 _ (List.mem_of_getElem? (i := 5) rfl))) rfl rfl rfl hd_X6_moves ⟨(Nat.le_of_ble_eq_true rfl), (Nat.le_of_ble_eq_true rfl)⟩) (wg_30 G _) rfl rfl hl.1 rfl (Nat.le_of_ble_eq_true rfl) dX6_back_21 ⟨Nat.zero_le _, Nat.zero_le _⟩ (fun r4 σ3 H locs hw hk => ?_)
    refine k_callSi (rest := [.int (σ1 31 ((2 : Int32)).toNatClampNeg), .int (2 : Int32), .ref (G.1 31)]) X hk (c_X6_lesser l G _ _ _ _ hw) (va_cwS 2 X.1.2.2.2.2 (gzS (aw_r23 _ (List.mem_of_getElem? (i := 8) rfl)) (aw_r23 _ (List.mem_of_getElem? (i := 9) rfl)) (aw_r1 _ (List.mem_of_getElem? (i := 5) rfl)) (aw_r23 _ (List.mem_of_getElem? (i := 10) rfl))) rfl rfl rfl hds_X6_lesser ⟨(Nat.le_of_ble_eq_true rfl), (Nat.le_of_ble_eq_true rfl)⟩) rfl hl.1 rfl (Nat.le_of_ble_eq_true rfl) dX6_back_24 ⟨Nat.zero_le _, Nat.zero_le _⟩ (fun r6 σ5 H locs hw hk => ?_)
    refine lv_isub hx hb dX6_back_27 ?_
    refine k_iast X hk (wg_31 G _) (ws_31 G _) rfl hw.1 dX6_back_28 (fun H locs hk => ?_)
    replace hw := hw.2
    obtain ⟨σ7, eσ7⟩ : ∃ y : Sg, y = (put σ5 31 ((2 : Int32)).toNatClampNeg ((σ1 31 ((2 : Int32)).toNatClampNeg) - r6)) := ⟨_, rfl⟩
    rw [← eσ7] at hk
    replace hw := hw σ7 eσ7
    refine lv_aload_n hx hb dX6_back_29 rfl (lv_at hl 0 rfl) ?_
    refine k_callVi (rest := []) X hk (c_X6_moves l G _  _ hw) (cwV 0 X.1.2.2.2.2 (gzV (aw_r18 _ (List.mem_of_getElem? (i := 2) rfl)) (aw_r18 _ (List.mem_of_getElem? (i := 3) rfl)) (aw_r18 _ (List.mem_of_getElem? (i := 4) rfl)) (aw_r1 _ (List.mem_of_getElem? (i := 5) rfl)) (aw_r18 _ (List.mem_of_getElem? (i := 5) rfl))) rfl rfl rfl hd_X6_moves ⟨(Nat.le_of_ble_eq_true rfl), (Nat.le_of_ble_eq_true rfl)⟩) (wg_30 G _) rfl rfl hl.1 rfl (Nat.le_of_ble_eq_true rfl) dX6_back_30 ⟨Nat.zero_le _, Nat.zero_le _⟩ (fun r9 σ8 H locs hw hk => ?_)
    exact k_iret X hk hw dX6_back_33
  · replace hw := hw.2 c2
    refine lv_iconst (v := (-1 : Int32)) hx hb dX6_back_10 (by decide) ?_
    exact k_iret X hk hw dX6_back_11
def rm_X6_sum : Room := { frames := 1, cells := 0, slots := 0, locals := 22 }
abbrev wz_X6_sum : List Cond := Cond.code yX6_sum cX6_sum 4 (some .int) :: wsA
theorem hd_X6_sum : yX6_sum.cls = RX6 ∧ yX6_sum.cls ≠ "java/lang/invoke/MethodHandle" ∧ yX6_sum.cls ≠ "java/lang/invoke/VarHandle" ∧ (parseMethodDescriptor yX6_sum.desc).map (fun d => d.parameters.length) = some 1 := by decide +kernel
def wp_X6_sum_4 (Q : Int32 → Sg → Prop)  : Nat → Int32 → Int32 → Int32 → Sg → Prop
  | 0, _, _, _, _ => False
  | n + 1, x1, x2, x3, σ => wp_X6_places σ  (fun r2 σ1 => (r2 ≤ x3 → (Q x2 σ1)) ∧ (¬ (r2 ≤ x3) → (wp_X6_ofPlace σ1 x3 x1 (fun r5 σ4 => ∀ x2_6 : Int32, x2_6 = (x2 + r5) → (∀ x3_7 : Int32, x3_7 = (x3 + (1 : Int32)) → (wp_X6_sum_4 Q  n x1 x2_6 x3_7 σ4))))))
set_option maxHeartbeats 4000000 in
set_option maxRecDepth 100000 in
theorem t_X6_sum_4 {p : Program} {l : Launch} {e : Env} {s : State} {m : MethodId} {args : Array Value} {below : List Frame} {meth : Method} {c : Code} {G : Gw} (X : KC p m meth c cX6_sum 4 s args wz_X6_sum RX6 (some .int) G) (Q : Int32 → Sg → Prop)  : ∀ (n : Nat) (σ : Sg) (x1 x2 x3 : Int32) (H : Heap) (locs : List Loc) (ls : Array Slot), wp_X6_sum_4 Q  n x1 x2 x3 σ → WK G s H locs σ → lv_has ls 4 [(0, .ref (G.1 30)), (1, .int x1), (2, .int x2), (3, .int x3)] → W p l e rm_X6_sum s m args below meth c H locs 0 0 (ZI below args s G Q) (F0 m 4 ls []) := by
  have hx := X.1.1
  have hb := X.1.2.1
  intro n
  induction n with
  | zero =>
    intro σ x1 x2 x3 H locs ls hw hk hl
    exact False.elim hw
  | succ n ih =>
    intro σ x1 x2 x3 H locs ls hw hk hl
    rw [wp_X6_sum_4] at hw
    refine lv_iload_n hx hb dX6_sum_4 rfl (lv_at hl 3 rfl) ?_
    refine lv_aload_n hx hb dX6_sum_5 rfl (lv_at hl 0 rfl) ?_
    refine k_callVi (rest := [.int x3]) X hk (c_X6_places l G _  _ hw) (cwV 0 X.1.2.2.2.2 (gzV (aw_r15 _ (List.mem_of_getElem? (i := 14) rfl)) (aw_r15 _ (List.mem_of_getElem? (i := 15) rfl)) (aw_r15 _ (List.mem_of_getElem? (i := 16) rfl)) (aw_r1 _ (List.mem_of_getElem? (i := 5) rfl)) (aw_r15 _ (List.mem_of_getElem? (i := 17) rfl))) rfl rfl rfl hd_X6_places ⟨(Nat.le_of_ble_eq_true rfl), (Nat.le_of_ble_eq_true rfl)⟩) (wg_30 G _) rfl rfl hl.1 rfl (Nat.le_of_ble_eq_true rfl) dX6_sum_6 ⟨Nat.zero_le _, Nat.zero_le _⟩ (fun r2 σ1 H locs hw hk => ?_)
    refine lv_icmp_ge (tgt := 27) hx hb dX6_sum_9 (by decide) (fun c3 => ?_) (fun c3 => ?_)
    · replace hw := hw.1 c3
      refine lv_iload_n hx hb dX6_sum_27 rfl (lv_at hl 2 rfl) ?_
      exact k_iret X hk hw dX6_sum_28
    · replace hw := hw.2 c3
      refine lv_iload_n hx hb dX6_sum_12 rfl (lv_at hl 2 rfl) ?_
      refine lv_aload_n hx hb dX6_sum_13 rfl (lv_at hl 0 rfl) ?_
      refine lv_iload_n hx hb dX6_sum_14 rfl (lv_at hl 3 rfl) ?_
      refine lv_iload_n hx hb dX6_sum_15 rfl (lv_at hl 1 rfl) ?_
      refine k_callVi (rest := [.int x2]) X hk (c_X6_ofPlace l G _ _ _ _ hw) (cwV 2 X.1.2.2.2.2 (gzV (aw_r21 _ (List.mem_of_getElem? (i := 4) rfl)) (aw_r21 _ (List.mem_of_getElem? (i := 5) rfl)) (aw_r21 _ (List.mem_of_getElem? (i := 6) rfl)) (aw_r1 _ (List.mem_of_getElem? (i := 5) rfl)) (aw_r21 _ (List.mem_of_getElem? (i := 7) rfl))) rfl rfl rfl hd_X6_ofPlace ⟨(Nat.le_of_ble_eq_true rfl), (Nat.le_of_ble_eq_true rfl)⟩) (wg_30 G _) rfl rfl hl.1 rfl (Nat.le_of_ble_eq_true rfl) dX6_sum_16 ⟨Nat.zero_le _, Nat.zero_le _⟩ (fun r5 σ4 H locs hw hk => ?_)
      refine lv_iadd hx hb dX6_sum_19 ?_
      refine lv_topi (fun x2_6 ex2_6 => ?_)
      replace hw := hw x2_6 ex2_6
      refine lv_istore_n (lv' := [(2, .int x2_6), (0, .ref (G.1 30)), (1, .int x1), (3, .int x3)]) hx hb dX6_sum_20 rfl hl (Nat.le_of_ble_eq_true rfl) rfl (fun ls hl => ?_)
      obtain ⟨x3_7, ex3_7⟩ : ∃ y : Int32, y = (x3 + (1 : Int32)) := ⟨_, rfl⟩
      replace hw := hw x3_7 ex3_7
      refine lv_iinc (v := x3_7) (lv' := [(3, .int x3_7), (2, .int x2_6), (0, .ref (G.1 30)), (1, .int x1)]) hx hb dX6_sum_21 hl (k := 3) rfl (by rw [ex3_7]; rfl) (Nat.le_of_ble_eq_true rfl) rfl (fun ls hl => ?_)
      refine lv_goto (tgt := 4) hx hb dX6_sum_24 (by decide) ?_
      exact ih _ _ _ _ _ _ _ hw hk (lv_sub hl [2, 3, 1, 0] rfl)
def wp_X6_sum (σ : Sg) (p1 : Int32) (Q : Int32 → Sg → Prop) : Prop := ∃ n0, wp_X6_sum_4 Q  n0 p1 (0 : Int32) (0 : Int32) σ
set_option maxHeartbeats 4000000 in
set_option maxRecDepth 100000 in
theorem c_X6_sum (l : Launch) (G : Gw) (σ : Sg) (p1 : Int32) (Q : Int32 → Sg → Prop) (hw : wp_X6_sum σ p1 Q) : MetI l yX6_sum wz_X6_sum rm_X6_sum G σ [.ref (G.1 30), .int p1] Q := by
  refine MetI.of cX6_sum 4 (some .int) (by decide) rfl (Nat.le_of_ble_eq_true rfl) ?_
  intro p e s m below meth c X hk ls hl
  have X : KC p m meth c cX6_sum 4 s _ wz_X6_sum RX6 (some .int) G := X
  have hl : lv_has ls 4 [(0, .ref (G.1 30)), (1, .int p1)] := hl
  unfold wp_X6_sum at hw
  have hx := X.1.1
  have hb := X.1.2.1
  refine lv_iconst (v := (0 : Int32)) hx hb dX6_sum_0 (by decide) ?_
  refine lv_istore_n (lv' := [(2, .int (0 : Int32)), (0, .ref (G.1 30)), (1, .int p1)]) hx hb dX6_sum_1 rfl hl (Nat.le_of_ble_eq_true rfl) rfl (fun ls hl => ?_)
  refine lv_iconst (v := (0 : Int32)) hx hb dX6_sum_2 (by decide) ?_
  refine lv_istore_n (lv' := [(3, .int (0 : Int32)), (2, .int (0 : Int32)), (0, .ref (G.1 30)), (1, .int p1)]) hx hb dX6_sum_3 rfl hl (Nat.le_of_ble_eq_true rfl) rfl (fun ls hl => ?_)
  obtain ⟨n0, hw⟩ := hw
  exact t_X6_sum_4 X Q   n0 _ _ _ _ _ _ _ hw hk (lv_sub hl [2, 3, 1, 0] rfl)
def rm_X6_count : Room := { frames := 2, cells := 0, slots := 0, locals := 45 }
abbrev wz_X6_count : List Cond := Cond.code yX6_count cX6_count 2 (some .int) :: wsA
theorem hd_X6_count : yX6_count.cls = RX6 ∧ yX6_count.cls ≠ "java/lang/invoke/MethodHandle" ∧ yX6_count.cls ≠ "java/lang/invoke/VarHandle" ∧ (parseMethodDescriptor yX6_count.desc).map (fun d => d.parameters.length) = some 1 := by decide +kernel
def wp_X6_count_44 (Q : Int32 → Sg → Prop)  (x1 : Int32) (σ : Sg) : Prop := vp_in x1 256 ∧ (Q (σ 31 (x1).toNatClampNeg) σ)
set_option maxHeartbeats 4000000 in
set_option maxRecDepth 100000 in
theorem t_X6_count_44 {p : Program} {l : Launch} {e : Env} {s : State} {m : MethodId} {args : Array Value} {below : List Frame} {meth : Method} {c : Code} {G : Gw} (X : KC p m meth c cX6_count 2 s args wz_X6_count RX6 (some .int) G) (Q : Int32 → Sg → Prop)  : ∀ (σ : Sg) (x1 : Int32) (H : Heap) (locs : List Loc) (ls : Array Slot), wp_X6_count_44 Q  x1 σ → WK G s H locs σ → lv_has ls 2 [(0, .ref (G.1 30)), (1, .int x1)] → W p l e rm_X6_count s m args below meth c H locs 0 0 (ZI below args s G Q) (F0 m 44 ls []) := by
  have hx := X.1.1
  have hb := X.1.2.1
  intro σ x1 H locs ls hw hk hl
  unfold wp_X6_count_44 at hw
  refine lv_aload_n hx hb dX6_count_44 rfl (lv_at hl 0 rfl) ?_
  refine k_get 1 X hk (wg_30 G _) rfl (hz_wsX60 _) (Nat.le_of_ble_eq_true rfl) (List.mem_cons_of_mem _ (aw_r4 _ (List.mem_of_getElem? (i := 16) rfl))) rfl dX6_count_45 ?_
  refine lv_iload_n hx hb dX6_count_48 rfl (lv_at hl 1 rfl) ?_
  refine k_iald X hk (wg_31 G _) hw.1 dX6_count_49 ?_
  replace hw := hw.2
  exact k_iret X hk hw dX6_count_50
def wp_X6_count (σ : Sg) (p1 : Int32) (Q : Int32 → Sg → Prop) : Prop := ∀ σ1 : Sg, σ1 = (put σ 30 0 (0 : Int32)) → ((p1 = (0 : Int32) → (wp_X6_count_44 Q  p1 σ1)) ∧ (p1 = (1 : Int32) → (wp_X6_count_44 Q  p1 σ1)) ∧ (p1 = (2 : Int32) → (wp_X6_count_44 Q  p1 σ1)) ∧ (p1 = (3 : Int32) → (Q (σ1 30 4) σ1)) ∧ (p1 = (4 : Int32) → (wp_X6_sum σ1 (0 : Int32) (fun r8 σ7 => Q r8 σ7))) ∧ (p1 = (5 : Int32) → (wp_X6_sum σ1 (1 : Int32) (fun r11 σ10 => Q r11 σ10))) ∧ (¬ p1 = (0 : Int32) → ¬ p1 = (1 : Int32) → ¬ p1 = (2 : Int32) → ¬ p1 = (3 : Int32) → ¬ p1 = (4 : Int32) → ¬ p1 = (5 : Int32) → (Q (-1 : Int32) σ1)))
set_option maxHeartbeats 4000000 in
set_option maxRecDepth 100000 in
theorem c_X6_count (l : Launch) (G : Gw) (σ : Sg) (p1 : Int32) (Q : Int32 → Sg → Prop) (hw : wp_X6_count σ p1 Q) : MetI l yX6_count wz_X6_count rm_X6_count G σ [.ref (G.1 30), .int p1] Q := by
  refine MetI.of cX6_count 2 (some .int) (by decide) rfl (Nat.le_of_ble_eq_true rfl) ?_
  intro p e s m below meth c X hk ls hl
  have X : KC p m meth c cX6_count 2 s _ wz_X6_count RX6 (some .int) G := X
  have hl : lv_has ls 2 [(0, .ref (G.1 30)), (1, .int p1)] := hl
  unfold wp_X6_count at hw
  have hx := X.1.1
  have hb := X.1.2.1
  refine lv_aload_n hx hb dX6_count_0 rfl (lv_at hl 0 rfl) ?_
  refine lv_iconst (v := (0 : Int32)) hx hb dX6_count_1 (by decide) ?_
  refine k_put 0 X hk (wg_30 G _) rfl (hz_wsX60 _) tyX6_ok nmX6 (Nat.le_of_ble_eq_true rfl) (List.mem_cons_of_mem _ (aw_r6 _ (List.mem_of_getElem? (i := 3) rfl))) rfl rfl (Nat.le_of_ble_eq_true rfl) (ws_30_0 G _ _) dX6_count_2 (fun H locs hk => ?_)
  obtain ⟨σ1, eσ1⟩ : ∃ y : Sg, y = (put σ 30 0 (0 : Int32)) := ⟨_, rfl⟩
  rw [← eσ1] at hk
  replace hw := hw σ1 eσ1
  refine lv_iload_n hx hb dX6_count_5 rfl (lv_at hl 1 rfl) ?_
  by_cases c2 : p1 = (0 : Int32)
  · have ec2 : (p1).toInt = 0 := by rw [c2]; rfl
    refine lv_tableIn (tgt := 44) hx hb dX6_count_6 (by rw [ec2]; decide) (by rw [ec2]; decide) (by rw [ec2]; rfl) (by decide) ?_
    replace hw := hw.1 c2
    exact t_X6_count_44 X Q   _ _ _ _ _ hw hk hl
  replace hw := hw.2
  by_cases c3 : p1 = (1 : Int32)
  · have ec3 : (p1).toInt = 1 := by rw [c3]; rfl
    refine lv_tableIn (tgt := 44) hx hb dX6_count_6 (by rw [ec3]; decide) (by rw [ec3]; decide) (by rw [ec3]; rfl) (by decide) ?_
    replace hw := hw.1 c3
    exact t_X6_count_44 X Q   _ _ _ _ _ hw hk hl
  replace hw := hw.2
  by_cases c4 : p1 = (2 : Int32)
  · have ec4 : (p1).toInt = 2 := by rw [c4]; rfl
    refine lv_tableIn (tgt := 44) hx hb dX6_count_6 (by rw [ec4]; decide) (by rw [ec4]; decide) (by rw [ec4]; rfl) (by decide) ?_
    replace hw := hw.1 c4
    exact t_X6_count_44 X Q   _ _ _ _ _ hw hk hl
  replace hw := hw.2
  by_cases c5 : p1 = (3 : Int32)
  · have ec5 : (p1).toInt = 3 := by rw [c5]; rfl
    refine lv_tableIn (tgt := 51) hx hb dX6_count_6 (by rw [ec5]; decide) (by rw [ec5]; decide) (by rw [ec5]; rfl) (by decide) ?_
    replace hw := hw.1 c5
    refine lv_aload_n hx hb dX6_count_51 rfl (lv_at hl 0 rfl) ?_
    refine k_get 4 X hk (wg_30 G _) rfl (hz_wsX60 _) (Nat.le_of_ble_eq_true rfl) (List.mem_cons_of_mem _ (aw_r6 _ (List.mem_of_getElem? (i := 4) rfl))) rfl dX6_count_52 ?_
    exact k_iret X hk hw dX6_count_55
  replace hw := hw.2
  by_cases c6 : p1 = (4 : Int32)
  · have ec6 : (p1).toInt = 4 := by rw [c6]; rfl
    refine lv_tableIn (tgt := 56) hx hb dX6_count_6 (by rw [ec6]; decide) (by rw [ec6]; decide) (by rw [ec6]; rfl) (by decide) ?_
    replace hw := hw.1 c6
    refine lv_aload_n hx hb dX6_count_56 rfl (lv_at hl 0 rfl) ?_
    refine lv_iconst (v := (0 : Int32)) hx hb dX6_count_57 (by decide) ?_
    refine k_callVi (rest := []) X hk (c_X6_sum l G _ _ _ hw) (cwV 1 X.1.2.2.2.2 (gzV (aw_r24 _ (List.mem_of_getElem? (i := 0) rfl)) (aw_r24 _ (List.mem_of_getElem? (i := 1) rfl)) (aw_r24 _ (List.mem_of_getElem? (i := 2) rfl)) (aw_r1 _ (List.mem_of_getElem? (i := 5) rfl)) (aw_r24 _ (List.mem_of_getElem? (i := 3) rfl))) rfl rfl rfl hd_X6_sum ⟨(Nat.le_of_ble_eq_true rfl), (Nat.le_of_ble_eq_true rfl)⟩) (wg_30 G _) rfl rfl hl.1 rfl (Nat.le_of_ble_eq_true rfl) dX6_count_58 ⟨Nat.zero_le _, Nat.zero_le _⟩ (fun r8 σ7 H locs hw hk => ?_)
    exact k_iret X hk hw dX6_count_61
  replace hw := hw.2
  by_cases c9 : p1 = (5 : Int32)
  · have ec9 : (p1).toInt = 5 := by rw [c9]; rfl
    refine lv_tableIn (tgt := 62) hx hb dX6_count_6 (by rw [ec9]; decide) (by rw [ec9]; decide) (by rw [ec9]; rfl) (by decide) ?_
    replace hw := hw.1 c9
    refine lv_aload_n hx hb dX6_count_62 rfl (lv_at hl 0 rfl) ?_
    refine lv_iconst (v := (1 : Int32)) hx hb dX6_count_63 (by decide) ?_
    refine k_callVi (rest := []) X hk (c_X6_sum l G _ _ _ hw) (cwV 1 X.1.2.2.2.2 (gzV (aw_r24 _ (List.mem_of_getElem? (i := 0) rfl)) (aw_r24 _ (List.mem_of_getElem? (i := 1) rfl)) (aw_r24 _ (List.mem_of_getElem? (i := 2) rfl)) (aw_r1 _ (List.mem_of_getElem? (i := 5) rfl)) (aw_r24 _ (List.mem_of_getElem? (i := 3) rfl))) rfl rfl rfl hd_X6_sum ⟨(Nat.le_of_ble_eq_true rfl), (Nat.le_of_ble_eq_true rfl)⟩) (wg_30 G _) rfl rfl hl.1 rfl (Nat.le_of_ble_eq_true rfl) dX6_count_64 ⟨Nat.zero_le _, Nat.zero_le _⟩ (fun r11 σ10 H locs hw hk => ?_)
    exact k_iret X hk hw dX6_count_67
  replace hw := hw.2
  have ec2 := lv_neT (a := 0) c2 rfl
  have ec3 := lv_neT (a := 1) c3 rfl
  have ec4 := lv_neT (a := 2) c4 rfl
  have ec5 := lv_neT (a := 3) c5 rfl
  have ec6 := lv_neT (a := 4) c6 rfl
  have ec9 := lv_neT (a := 5) c9 rfl
  refine lv_tableOut (tgt := 68) hx hb dX6_count_6 (by omega) (by decide) ?_
  replace hw := hw c2 c3 c4 c5 c6 c9
  refine lv_iconst (v := (-1 : Int32)) hx hb dX6_count_68 (by decide) ?_
  exact k_iret X hk hw dX6_count_69
def rm_X6_of : Room := { frames := 2, cells := 0, slots := 0, locals := 43 }
abbrev wz_X6_of : List Cond := Cond.code yX6_of cX6_of 3 (some .int) :: wsA
theorem hd_X6_of : yX6_of.cls = RX6 ∧ yX6_of.cls ≠ "java/lang/invoke/MethodHandle" ∧ yX6_of.cls ≠ "java/lang/invoke/VarHandle" ∧ (parseMethodDescriptor yX6_of.desc).map (fun d => d.parameters.length) = some 2 := by decide +kernel
def wp_X6_of (σ : Sg) (p1 p2 : Int32) (Q : Int32 → Sg → Prop) : Prop := ∀ σ1 : Sg, σ1 = (put σ 30 0 (0 : Int32)) → (wp_X6_isPlace σ1 p1 (fun r3 σ2 => (r3 = 0 → (Q (-1 : Int32) σ2)) ∧ (¬ (r3 = 0) → (wp_X6_isIn σ2 p2 (0 : Int32) (3 : Int32) (fun r6 σ5 => (r6 = 0 → (Q (-1 : Int32) σ5)) ∧ (¬ (r6 = 0) → (wp_X6_ofPlace σ5 p1 p2 (fun r9 σ8 => Q r9 σ8))))))))
set_option maxHeartbeats 4000000 in
set_option maxRecDepth 100000 in
theorem c_X6_of (l : Launch) (G : Gw) (σ : Sg) (p1 p2 : Int32) (Q : Int32 → Sg → Prop) (hw : wp_X6_of σ p1 p2 Q) : MetI l yX6_of wz_X6_of rm_X6_of G σ [.ref (G.1 30), .int p1, .int p2] Q := by
  refine MetI.of cX6_of 3 (some .int) (by decide) rfl (Nat.le_of_ble_eq_true rfl) ?_
  intro p e s m below meth c X hk ls hl
  have X : KC p m meth c cX6_of 3 s _ wz_X6_of RX6 (some .int) G := X
  have hl : lv_has ls 3 [(0, .ref (G.1 30)), (1, .int p1), (2, .int p2)] := hl
  unfold wp_X6_of at hw
  have hx := X.1.1
  have hb := X.1.2.1
  refine lv_aload_n hx hb dX6_of_0 rfl (lv_at hl 0 rfl) ?_
  refine lv_iconst (v := (0 : Int32)) hx hb dX6_of_1 (by decide) ?_
  refine k_put 0 X hk (wg_30 G _) rfl (hz_wsX60 _) tyX6_ok nmX6 (Nat.le_of_ble_eq_true rfl) (List.mem_cons_of_mem _ (aw_r6 _ (List.mem_of_getElem? (i := 3) rfl))) rfl rfl (Nat.le_of_ble_eq_true rfl) (ws_30_0 G _ _) dX6_of_2 (fun H locs hk => ?_)
  obtain ⟨σ1, eσ1⟩ : ∃ y : Sg, y = (put σ 30 0 (0 : Int32)) := ⟨_, rfl⟩
  rw [← eσ1] at hk
  replace hw := hw σ1 eσ1
  refine lv_aload_n hx hb dX6_of_5 rfl (lv_at hl 0 rfl) ?_
  refine lv_iload_n hx hb dX6_of_6 rfl (lv_at hl 1 rfl) ?_
  refine k_callVi (rest := []) X hk (c_X6_isPlace l G _ _ _ hw) (cwV 1 X.1.2.2.2.2 (gzV (aw_r20 _ (List.mem_of_getElem? (i := 0) rfl)) (aw_r20 _ (List.mem_of_getElem? (i := 1) rfl)) (aw_r20 _ (List.mem_of_getElem? (i := 2) rfl)) (aw_r1 _ (List.mem_of_getElem? (i := 5) rfl)) (aw_r20 _ (List.mem_of_getElem? (i := 3) rfl))) rfl rfl rfl hd_X6_isPlace ⟨(Nat.le_of_ble_eq_true rfl), (Nat.le_of_ble_eq_true rfl)⟩) (wg_30 G _) rfl rfl hl.1 rfl (Nat.le_of_ble_eq_true rfl) dX6_of_7 ⟨Nat.zero_le _, Nat.zero_le _⟩ (fun r3 σ2 H locs hw hk => ?_)
  refine lv_if_eq (tgt := 31) hx hb dX6_of_10 (by decide) (fun c4 => ?_) (fun c4 => ?_)
  · replace hw := hw.1 c4
    refine lv_iconst (v := (-1 : Int32)) hx hb dX6_of_31 (by decide) ?_
    exact k_iret X hk hw dX6_of_32
  · replace hw := hw.2 c4
    refine lv_iload_n hx hb dX6_of_13 rfl (lv_at hl 2 rfl) ?_
    refine lv_iconst (v := (0 : Int32)) hx hb dX6_of_14 (by decide) ?_
    refine lv_iconst (v := (3 : Int32)) hx hb dX6_of_15 (by decide) ?_
    refine k_callSi (rest := []) X hk (c_X6_isIn l G _ _ _ _ _ hw) (va_cwS 3 X.1.2.2.2.2 (gzS (aw_r6 _ (List.mem_of_getElem? (i := 17) rfl)) (aw_r6 _ (List.mem_of_getElem? (i := 18) rfl)) (aw_r1 _ (List.mem_of_getElem? (i := 5) rfl)) (aw_r6 _ (List.mem_of_getElem? (i := 19) rfl))) rfl rfl rfl hds_X6_isIn ⟨(Nat.le_of_ble_eq_true rfl), (Nat.le_of_ble_eq_true rfl)⟩) rfl hl.1 rfl (Nat.le_of_ble_eq_true rfl) dX6_of_16 ⟨Nat.zero_le _, Nat.zero_le _⟩ (fun r6 σ5 H locs hw hk => ?_)
    refine lv_if_eq (tgt := 31) hx hb dX6_of_19 (by decide) (fun c7 => ?_) (fun c7 => ?_)
    · replace hw := hw.1 c7
      refine lv_iconst (v := (-1 : Int32)) hx hb dX6_of_31 (by decide) ?_
      exact k_iret X hk hw dX6_of_32
    · replace hw := hw.2 c7
      refine lv_aload_n hx hb dX6_of_22 rfl (lv_at hl 0 rfl) ?_
      refine lv_iload_n hx hb dX6_of_23 rfl (lv_at hl 1 rfl) ?_
      refine lv_iload_n hx hb dX6_of_24 rfl (lv_at hl 2 rfl) ?_
      refine k_callVi (rest := []) X hk (c_X6_ofPlace l G _ _ _ _ hw) (cwV 2 X.1.2.2.2.2 (gzV (aw_r21 _ (List.mem_of_getElem? (i := 4) rfl)) (aw_r21 _ (List.mem_of_getElem? (i := 5) rfl)) (aw_r21 _ (List.mem_of_getElem? (i := 6) rfl)) (aw_r1 _ (List.mem_of_getElem? (i := 5) rfl)) (aw_r21 _ (List.mem_of_getElem? (i := 7) rfl))) rfl rfl rfl hd_X6_ofPlace ⟨(Nat.le_of_ble_eq_true rfl), (Nat.le_of_ble_eq_true rfl)⟩) (wg_30 G _) rfl rfl hl.1 rfl (Nat.le_of_ble_eq_true rfl) dX6_of_25 ⟨Nat.zero_le _, Nat.zero_le _⟩ (fun r9 σ8 H locs hw hk => ?_)
      refine lv_goto (tgt := 32) hx hb dX6_of_28 (by decide) ?_
      exact k_iret X hk hw dX6_of_32
def rm_X6_along : Room := { frames := 2, cells := 0, slots := 0, locals := 43 }
abbrev wz_X6_along : List Cond := Cond.code yX6_along cX6_along 3 (some .int) :: wsA
theorem hd_X6_along : yX6_along.cls = RX6 ∧ yX6_along.cls ≠ "java/lang/invoke/MethodHandle" ∧ yX6_along.cls ≠ "java/lang/invoke/VarHandle" ∧ (parseMethodDescriptor yX6_along.desc).map (fun d => d.parameters.length) = some 2 := by decide +kernel
def wp_X6_along_23 (Q : Int32 → Sg → Prop)  (x1 x2 y1 : Int32) (σ : Sg) : Prop := ∀ σ4 : Sg, σ4 = (put σ 30 0 y1) → (((σ4 30 0) = (1 : Int32) → (Q (0 : Int32) σ4)) ∧ (¬ ((σ4 30 0) = (1 : Int32)) → (wp_X6_ofRoad σ4 x1 x2 (fun r7 σ6 => Q r7 σ6))))
set_option maxHeartbeats 4000000 in
set_option maxRecDepth 100000 in
theorem t_X6_along_23 {p : Program} {l : Launch} {e : Env} {s : State} {m : MethodId} {args : Array Value} {below : List Frame} {meth : Method} {c : Code} {G : Gw} (X : KC p m meth c cX6_along 3 s args wz_X6_along RX6 (some .int) G) (Q : Int32 → Sg → Prop)  : ∀ (σ : Sg) (x1 x2 y1 : Int32) (H : Heap) (locs : List Loc) (ls : Array Slot), wp_X6_along_23 Q  x1 x2 y1 σ → WK G s H locs σ → lv_has ls 3 [(0, .ref (G.1 30)), (1, .int x1), (2, .int x2)] → W p l e rm_X6_along s m args below meth c H locs 0 0 (ZI below args s G Q) (F0 m 23 ls [.int y1, .ref (G.1 30)]) := by
  have hx := X.1.1
  have hb := X.1.2.1
  intro σ x1 x2 y1 H locs ls hw hk hl
  unfold wp_X6_along_23 at hw
  refine k_put 0 X hk (wg_30 G _) rfl (hz_wsX60 _) tyX6_ok nmX6 (Nat.le_of_ble_eq_true rfl) (List.mem_cons_of_mem _ (aw_r6 _ (List.mem_of_getElem? (i := 3) rfl))) rfl rfl (Nat.le_of_ble_eq_true rfl) (ws_30_0 G _ _) dX6_along_23 (fun H locs hk => ?_)
  obtain ⟨σ4, eσ4⟩ : ∃ y : Sg, y = (put σ 30 0 y1) := ⟨_, rfl⟩
  rw [← eσ4] at hk
  replace hw := hw σ4 eσ4
  refine lv_aload_n hx hb dX6_along_26 rfl (lv_at hl 0 rfl) ?_
  refine k_get 0 X hk (wg_30 G _) rfl (hz_wsX60 _) (Nat.le_of_ble_eq_true rfl) (List.mem_cons_of_mem _ (aw_r6 _ (List.mem_of_getElem? (i := 3) rfl))) rfl dX6_along_27 ?_
  refine lv_iconst (v := (1 : Int32)) hx hb dX6_along_30 (by decide) ?_
  refine lv_icmp_ne (tgt := 38) hx hb dX6_along_31 (by decide) (fun c5 => ?_) (fun c5 => ?_)
  · replace hw := hw.2 c5
    refine lv_aload_n hx hb dX6_along_38 rfl (lv_at hl 0 rfl) ?_
    refine lv_iload_n hx hb dX6_along_39 rfl (lv_at hl 1 rfl) ?_
    refine lv_iload_n hx hb dX6_along_40 rfl (lv_at hl 2 rfl) ?_
    refine k_callVi (rest := []) X hk (c_X6_ofRoad l G _ _ _ _ hw) (cwV 2 X.1.2.2.2.2 (gzV (aw_r17 _ (List.mem_of_getElem? (i := 14) rfl)) (aw_r17 _ (List.mem_of_getElem? (i := 15) rfl)) (aw_r17 _ (List.mem_of_getElem? (i := 16) rfl)) (aw_r1 _ (List.mem_of_getElem? (i := 5) rfl)) (aw_r17 _ (List.mem_of_getElem? (i := 17) rfl))) rfl rfl rfl hd_X6_ofRoad ⟨(Nat.le_of_ble_eq_true rfl), (Nat.le_of_ble_eq_true rfl)⟩) (wg_30 G _) rfl rfl hl.1 rfl (Nat.le_of_ble_eq_true rfl) dX6_along_41 ⟨Nat.zero_le _, Nat.zero_le _⟩ (fun r7 σ6 H locs hw hk => ?_)
    exact k_iret X hk hw dX6_along_44
  · replace hw := hw.1 c5
    refine lv_iconst (v := (0 : Int32)) hx hb dX6_along_34 (by decide) ?_
    refine lv_goto (tgt := 44) hx hb dX6_along_35 (by decide) ?_
    exact k_iret X hk hw dX6_along_44
def wp_X6_along_22 (Q : Int32 → Sg → Prop)  (x1 x2 : Int32) (σ : Sg) : Prop := wp_X6_along_23 Q  x1 x2 (1 : Int32) σ
set_option maxHeartbeats 4000000 in
set_option maxRecDepth 100000 in
theorem t_X6_along_22 {p : Program} {l : Launch} {e : Env} {s : State} {m : MethodId} {args : Array Value} {below : List Frame} {meth : Method} {c : Code} {G : Gw} (X : KC p m meth c cX6_along 3 s args wz_X6_along RX6 (some .int) G) (Q : Int32 → Sg → Prop)  : ∀ (σ : Sg) (x1 x2 : Int32) (H : Heap) (locs : List Loc) (ls : Array Slot), wp_X6_along_22 Q  x1 x2 σ → WK G s H locs σ → lv_has ls 3 [(0, .ref (G.1 30)), (1, .int x1), (2, .int x2)] → W p l e rm_X6_along s m args below meth c H locs 0 0 (ZI below args s G Q) (F0 m 22 ls [.ref (G.1 30)]) := by
  have hx := X.1.1
  have hb := X.1.2.1
  intro σ x1 x2 H locs ls hw hk hl
  unfold wp_X6_along_22 at hw
  refine lv_iconst (v := (1 : Int32)) hx hb dX6_along_22 (by decide) ?_
  exact t_X6_along_23 X Q   _ _ _ _ _ _ _ hw hk hl
def wp_X6_along (σ : Sg) (p1 p2 : Int32) (Q : Int32 → Sg → Prop) : Prop := wp_X6_isRoad σ p1 (fun r2 σ1 => (r2 = 0 → (wp_X6_along_22 Q  p1 p2 σ1)) ∧ (¬ (r2 = 0) → (wp_X6_isIn σ1 p2 (0 : Int32) (4 : Int32) (fun r9 σ8 => (r9 = 0 → (wp_X6_along_22 Q  p1 p2 σ8)) ∧ (¬ (r9 = 0) → (wp_X6_along_23 Q  p1 p2 (0 : Int32) σ8))))))
set_option maxHeartbeats 4000000 in
set_option maxRecDepth 100000 in
theorem c_X6_along (l : Launch) (G : Gw) (σ : Sg) (p1 p2 : Int32) (Q : Int32 → Sg → Prop) (hw : wp_X6_along σ p1 p2 Q) : MetI l yX6_along wz_X6_along rm_X6_along G σ [.ref (G.1 30), .int p1, .int p2] Q := by
  refine MetI.of cX6_along 3 (some .int) (by decide) rfl (Nat.le_of_ble_eq_true rfl) ?_
  intro p e s m below meth c X hk ls hl
  have X : KC p m meth c cX6_along 3 s _ wz_X6_along RX6 (some .int) G := X
  have hl : lv_has ls 3 [(0, .ref (G.1 30)), (1, .int p1), (2, .int p2)] := hl
  unfold wp_X6_along at hw
  have hx := X.1.1
  have hb := X.1.2.1
  refine lv_aload_n hx hb dX6_along_0 rfl (lv_at hl 0 rfl) ?_
  refine lv_aload_n hx hb dX6_along_1 rfl (lv_at hl 0 rfl) ?_
  refine lv_iload_n hx hb dX6_along_2 rfl (lv_at hl 1 rfl) ?_
  refine k_callVi (rest := [.ref (G.1 30)]) X hk (c_X6_isRoad l G _ _ _ hw) (cwV 1 X.1.2.2.2.2 (gzV (aw_r17 _ (List.mem_of_getElem? (i := 10) rfl)) (aw_r17 _ (List.mem_of_getElem? (i := 11) rfl)) (aw_r17 _ (List.mem_of_getElem? (i := 12) rfl)) (aw_r1 _ (List.mem_of_getElem? (i := 5) rfl)) (aw_r17 _ (List.mem_of_getElem? (i := 13) rfl))) rfl rfl rfl hd_X6_isRoad ⟨(Nat.le_of_ble_eq_true rfl), (Nat.le_of_ble_eq_true rfl)⟩) (wg_30 G _) rfl rfl hl.1 rfl (Nat.le_of_ble_eq_true rfl) dX6_along_3 ⟨Nat.zero_le _, Nat.zero_le _⟩ (fun r2 σ1 H locs hw hk => ?_)
  refine lv_if_eq (tgt := 22) hx hb dX6_along_6 (by decide) (fun c3 => ?_) (fun c3 => ?_)
  · replace hw := hw.1 c3
    exact t_X6_along_22 X Q   _ _ _ _ _ _ hw hk hl
  · replace hw := hw.2 c3
    refine lv_iload_n hx hb dX6_along_9 rfl (lv_at hl 2 rfl) ?_
    refine lv_iconst (v := (0 : Int32)) hx hb dX6_along_10 (by decide) ?_
    refine lv_iconst (v := (4 : Int32)) hx hb dX6_along_11 (by decide) ?_
    refine k_callSi (rest := [.ref (G.1 30)]) X hk (c_X6_isIn l G _ _ _ _ _ hw) (va_cwS 3 X.1.2.2.2.2 (gzS (aw_r6 _ (List.mem_of_getElem? (i := 17) rfl)) (aw_r6 _ (List.mem_of_getElem? (i := 18) rfl)) (aw_r1 _ (List.mem_of_getElem? (i := 5) rfl)) (aw_r6 _ (List.mem_of_getElem? (i := 19) rfl))) rfl rfl rfl hds_X6_isIn ⟨(Nat.le_of_ble_eq_true rfl), (Nat.le_of_ble_eq_true rfl)⟩) rfl hl.1 rfl (Nat.le_of_ble_eq_true rfl) dX6_along_12 ⟨Nat.zero_le _, Nat.zero_le _⟩ (fun r9 σ8 H locs hw hk => ?_)
    refine lv_if_eq (tgt := 22) hx hb dX6_along_15 (by decide) (fun c10 => ?_) (fun c10 => ?_)
    · replace hw := hw.1 c10
      exact t_X6_along_22 X Q   _ _ _ _ _ _ hw hk hl
    · replace hw := hw.2 c10
      refine lv_iconst (v := (0 : Int32)) hx hb dX6_along_18 (by decide) ?_
      refine lv_goto (tgt := 23) hx hb dX6_along_19 (by decide) ?_
      exact t_X6_along_23 X Q   _ _ _ _ _ _ _ hw hk hl
def rm_X6_moved : Room := { frames := 1, cells := 0, slots := 0, locals := 22 }
abbrev wz_X6_moved : List Cond := Cond.code yX6_moved cX6_moved 3 (some .int) :: wsA
theorem hd_X6_moved : yX6_moved.cls = RX6 ∧ yX6_moved.cls ≠ "java/lang/invoke/MethodHandle" ∧ yX6_moved.cls ≠ "java/lang/invoke/VarHandle" ∧ (parseMethodDescriptor yX6_moved.desc).map (fun d => d.parameters.length) = some 2 := by decide +kernel
def wp_X6_moved (σ : Sg) (p1 p2 : Int32) (Q : Int32 → Sg → Prop) : Prop := ∀ σ1 : Sg, σ1 = (put σ 30 0 (0 : Int32)) → (wp_X6_moves σ1  (fun r3 σ2 => wp_X6_isIn σ2 p1 (0 : Int32) (r3 - (1 : Int32)) (fun r5 σ4 => (r5 = 0 → (Q (-1 : Int32) σ4)) ∧ (¬ (r5 = 0) → (wp_X6_isIn σ4 p2 (0 : Int32) (3 : Int32) (fun r8 σ7 => (r8 = 0 → (Q (-1 : Int32) σ7)) ∧ (¬ (r8 = 0) → (wp_X6_ofMove σ7 p1 p2 (fun r11 σ10 => Q r11 σ10)))))))))
set_option maxHeartbeats 4000000 in
set_option maxRecDepth 100000 in
theorem c_X6_moved (l : Launch) (G : Gw) (σ : Sg) (p1 p2 : Int32) (Q : Int32 → Sg → Prop) (hw : wp_X6_moved σ p1 p2 Q) : MetI l yX6_moved wz_X6_moved rm_X6_moved G σ [.ref (G.1 30), .int p1, .int p2] Q := by
  refine MetI.of cX6_moved 3 (some .int) (by decide) rfl (Nat.le_of_ble_eq_true rfl) ?_
  intro p e s m below meth c X hk ls hl
  have X : KC p m meth c cX6_moved 3 s _ wz_X6_moved RX6 (some .int) G := X
  have hl : lv_has ls 3 [(0, .ref (G.1 30)), (1, .int p1), (2, .int p2)] := hl
  unfold wp_X6_moved at hw
  have hx := X.1.1
  have hb := X.1.2.1
  refine lv_aload_n hx hb dX6_moved_0 rfl (lv_at hl 0 rfl) ?_
  refine lv_iconst (v := (0 : Int32)) hx hb dX6_moved_1 (by decide) ?_
  refine k_put 0 X hk (wg_30 G _) rfl (hz_wsX60 _) tyX6_ok nmX6 (Nat.le_of_ble_eq_true rfl) (List.mem_cons_of_mem _ (aw_r6 _ (List.mem_of_getElem? (i := 3) rfl))) rfl rfl (Nat.le_of_ble_eq_true rfl) (ws_30_0 G _ _) dX6_moved_2 (fun H locs hk => ?_)
  obtain ⟨σ1, eσ1⟩ : ∃ y : Sg, y = (put σ 30 0 (0 : Int32)) := ⟨_, rfl⟩
  rw [← eσ1] at hk
  replace hw := hw σ1 eσ1
  refine lv_iload_n hx hb dX6_moved_5 rfl (lv_at hl 1 rfl) ?_
  refine lv_iconst (v := (0 : Int32)) hx hb dX6_moved_6 (by decide) ?_
  refine lv_aload_n hx hb dX6_moved_7 rfl (lv_at hl 0 rfl) ?_
  refine k_callVi (rest := [.int (0 : Int32), .int p1]) X hk (c_X6_moves l G _  _ hw) (cwV 0 X.1.2.2.2.2 (gzV (aw_r18 _ (List.mem_of_getElem? (i := 2) rfl)) (aw_r18 _ (List.mem_of_getElem? (i := 3) rfl)) (aw_r18 _ (List.mem_of_getElem? (i := 4) rfl)) (aw_r1 _ (List.mem_of_getElem? (i := 5) rfl)) (aw_r18 _ (List.mem_of_getElem? (i := 5) rfl))) rfl rfl rfl hd_X6_moves ⟨(Nat.le_of_ble_eq_true rfl), (Nat.le_of_ble_eq_true rfl)⟩) (wg_30 G _) rfl rfl hl.1 rfl (Nat.le_of_ble_eq_true rfl) dX6_moved_8 ⟨Nat.zero_le _, Nat.zero_le _⟩ (fun r3 σ2 H locs hw hk => ?_)
  refine lv_iconst (v := (1 : Int32)) hx hb dX6_moved_11 (by decide) ?_
  refine lv_isub hx hb dX6_moved_12 ?_
  refine k_callSi (rest := []) X hk (c_X6_isIn l G _ _ _ _ _ hw) (va_cwS 3 X.1.2.2.2.2 (gzS (aw_r6 _ (List.mem_of_getElem? (i := 17) rfl)) (aw_r6 _ (List.mem_of_getElem? (i := 18) rfl)) (aw_r1 _ (List.mem_of_getElem? (i := 5) rfl)) (aw_r6 _ (List.mem_of_getElem? (i := 19) rfl))) rfl rfl rfl hds_X6_isIn ⟨(Nat.le_of_ble_eq_true rfl), (Nat.le_of_ble_eq_true rfl)⟩) rfl hl.1 rfl (Nat.le_of_ble_eq_true rfl) dX6_moved_13 ⟨Nat.zero_le _, Nat.zero_le _⟩ (fun r5 σ4 H locs hw hk => ?_)
  refine lv_if_eq (tgt := 37) hx hb dX6_moved_16 (by decide) (fun c6 => ?_) (fun c6 => ?_)
  · replace hw := hw.1 c6
    refine lv_iconst (v := (-1 : Int32)) hx hb dX6_moved_37 (by decide) ?_
    exact k_iret X hk hw dX6_moved_38
  · replace hw := hw.2 c6
    refine lv_iload_n hx hb dX6_moved_19 rfl (lv_at hl 2 rfl) ?_
    refine lv_iconst (v := (0 : Int32)) hx hb dX6_moved_20 (by decide) ?_
    refine lv_iconst (v := (3 : Int32)) hx hb dX6_moved_21 (by decide) ?_
    refine k_callSi (rest := []) X hk (c_X6_isIn l G _ _ _ _ _ hw) (va_cwS 3 X.1.2.2.2.2 (gzS (aw_r6 _ (List.mem_of_getElem? (i := 17) rfl)) (aw_r6 _ (List.mem_of_getElem? (i := 18) rfl)) (aw_r1 _ (List.mem_of_getElem? (i := 5) rfl)) (aw_r6 _ (List.mem_of_getElem? (i := 19) rfl))) rfl rfl rfl hds_X6_isIn ⟨(Nat.le_of_ble_eq_true rfl), (Nat.le_of_ble_eq_true rfl)⟩) rfl hl.1 rfl (Nat.le_of_ble_eq_true rfl) dX6_moved_22 ⟨Nat.zero_le _, Nat.zero_le _⟩ (fun r8 σ7 H locs hw hk => ?_)
    refine lv_if_eq (tgt := 37) hx hb dX6_moved_25 (by decide) (fun c9 => ?_) (fun c9 => ?_)
    · replace hw := hw.1 c9
      refine lv_iconst (v := (-1 : Int32)) hx hb dX6_moved_37 (by decide) ?_
      exact k_iret X hk hw dX6_moved_38
    · replace hw := hw.2 c9
      refine lv_aload_n hx hb dX6_moved_28 rfl (lv_at hl 0 rfl) ?_
      refine lv_iload_n hx hb dX6_moved_29 rfl (lv_at hl 1 rfl) ?_
      refine lv_iload_n hx hb dX6_moved_30 rfl (lv_at hl 2 rfl) ?_
      refine k_callVi (rest := []) X hk (c_X6_ofMove l G _ _ _ _ hw) (cwV 2 X.1.2.2.2.2 (gzV (aw_r22 _ (List.mem_of_getElem? (i := 1) rfl)) (aw_r22 _ (List.mem_of_getElem? (i := 2) rfl)) (aw_r22 _ (List.mem_of_getElem? (i := 3) rfl)) (aw_r1 _ (List.mem_of_getElem? (i := 5) rfl)) (aw_r22 _ (List.mem_of_getElem? (i := 4) rfl))) rfl rfl rfl hd_X6_ofMove ⟨(Nat.le_of_ble_eq_true rfl), (Nat.le_of_ble_eq_true rfl)⟩) (wg_30 G _) rfl rfl hl.1 rfl (Nat.le_of_ble_eq_true rfl) dX6_moved_31 ⟨Nat.zero_le _, Nat.zero_le _⟩ (fun r11 σ10 H locs hw hk => ?_)
      refine lv_goto (tgt := 38) hx hb dX6_moved_34 (by decide) ?_
      exact k_iret X hk hw dX6_moved_38
def rm_X6_put : Room := { frames := 0, cells := 0, slots := 0, locals := 0 }
abbrev wz_X6_put : List Cond := Cond.code yX6_put cX6_put 3 none :: wsA
theorem hd_X6_put : yX6_put.cls = RX6 ∧ yX6_put.cls ≠ "java/lang/invoke/MethodHandle" ∧ yX6_put.cls ≠ "java/lang/invoke/VarHandle" ∧ (parseMethodDescriptor yX6_put.desc).map (fun d => d.parameters.length) = some 1 := by decide +kernel
def wp_X6_put_3 (Q : Sg → Prop)  : Nat → Int32 → Int32 → Sg → Prop
  | 0, _, _, _ => False
  | n + 1, x1, x2, σ => (x2 < 0 → (Q σ)) ∧ (¬ (x2 < 0) → (vp_in (σ 30 4) 400 ∧ (∀ σ2 : Sg, σ2 = (put σ 33 ((σ 30 4)).toNatClampNeg (vp_nar .byte ((x1 >>> (x2 &&& 31)).toInt8.toInt32))) → (∀ σ3 : Sg, σ3 = (put σ2 30 4 ((σ2 30 4) + (1 : Int32))) → (∀ x2_4 : Int32, x2_4 = (x2 + (-8 : Int32)) → (wp_X6_put_3 Q  n x1 x2_4 σ3))))))
set_option maxHeartbeats 4000000 in
set_option maxRecDepth 100000 in
theorem t_X6_put_3 {p : Program} {l : Launch} {e : Env} {s : State} {m : MethodId} {args : Array Value} {below : List Frame} {meth : Method} {c : Code} {G : Gw} (X : KC p m meth c cX6_put 3 s args wz_X6_put RX6 none G) (Q : Sg → Prop)  : ∀ (n : Nat) (σ : Sg) (x1 x2 : Int32) (H : Heap) (locs : List Loc) (ls : Array Slot), wp_X6_put_3 Q  n x1 x2 σ → WK G s H locs σ → lv_has ls 3 [(0, .ref (G.1 30)), (1, .int x1), (2, .int x2)] → W p l e rm_X6_put s m args below meth c H locs 0 0 (ZV below args s G Q) (F0 m 3 ls []) := by
  have hx := X.1.1
  have hb := X.1.2.1
  intro n
  induction n with
  | zero =>
    intro σ x1 x2 H locs ls hw hk hl
    exact False.elim hw
  | succ n ih =>
    intro σ x1 x2 H locs ls hw hk hl
    rw [wp_X6_put_3] at hw
    refine lv_iload_n hx hb dX6_put_3 rfl (lv_at hl 2 rfl) ?_
    refine lv_if_lt (tgt := 36) hx hb dX6_put_4 (by decide) (fun c1 => ?_) (fun c1 => ?_)
    · replace hw := hw.1 c1
      exact k_vret X hk hw dX6_put_36
    · replace hw := hw.2 c1
      refine lv_aload_n hx hb dX6_put_7 rfl (lv_at hl 0 rfl) ?_
      refine k_get 3 X hk (wg_30 G _) rfl (hz_wsX60 _) (Nat.le_of_ble_eq_true rfl) (List.mem_cons_of_mem _ (aw_r4 _ (List.mem_of_getElem? (i := 18) rfl))) rfl dX6_put_8 ?_
      refine lv_aload_n hx hb dX6_put_11 rfl (lv_at hl 0 rfl) ?_
      refine k_get 4 X hk (wg_30 G _) rfl (hz_wsX60 _) (Nat.le_of_ble_eq_true rfl) (List.mem_cons_of_mem _ (aw_r6 _ (List.mem_of_getElem? (i := 4) rfl))) rfl dX6_put_12 ?_
      refine lv_iload_n hx hb dX6_put_15 rfl (lv_at hl 1 rfl) ?_
      refine lv_iload_n hx hb dX6_put_16 rfl (lv_at hl 2 rfl) ?_
      refine lv_ishr hx hb dX6_put_17 ?_
      refine lv_i2b hx hb dX6_put_18 rfl ?_
      refine k_bast X hk (wg_33 G _) (ws_33 G _) rfl hw.1 dX6_put_19 (fun H locs hk => ?_)
      replace hw := hw.2
      obtain ⟨σ2, eσ2⟩ : ∃ y : Sg, y = (put σ 33 ((σ 30 4)).toNatClampNeg (vp_nar .byte ((x1 >>> (x2 &&& 31)).toInt8.toInt32))) := ⟨_, rfl⟩
      rw [← eσ2] at hk
      replace hw := hw σ2 eσ2
      refine lv_aload_n hx hb dX6_put_20 rfl (lv_at hl 0 rfl) ?_
      refine lv_dup hx hb dX6_put_21 rfl ?_
      refine k_get 4 X hk (wg_30 G _) rfl (hz_wsX60 _) (Nat.le_of_ble_eq_true rfl) (List.mem_cons_of_mem _ (aw_r6 _ (List.mem_of_getElem? (i := 4) rfl))) rfl dX6_put_22 ?_
      refine lv_iconst (v := (1 : Int32)) hx hb dX6_put_25 (by decide) ?_
      refine lv_iadd hx hb dX6_put_26 ?_
      refine k_put 4 X hk (wg_30 G _) rfl (hz_wsX60 _) tyX6_ok nmX6 (Nat.le_of_ble_eq_true rfl) (List.mem_cons_of_mem _ (aw_r6 _ (List.mem_of_getElem? (i := 4) rfl))) rfl rfl (Nat.le_of_ble_eq_true rfl) (ws_30_4 G _ _) dX6_put_27 (fun H locs hk => ?_)
      obtain ⟨σ3, eσ3⟩ : ∃ y : Sg, y = (put σ2 30 4 ((σ2 30 4) + (1 : Int32))) := ⟨_, rfl⟩
      rw [← eσ3] at hk
      replace hw := hw σ3 eσ3
      obtain ⟨x2_4, ex2_4⟩ : ∃ y : Int32, y = (x2 + (-8 : Int32)) := ⟨_, rfl⟩
      replace hw := hw x2_4 ex2_4
      refine lv_iinc (v := x2_4) (lv' := [(2, .int x2_4), (0, .ref (G.1 30)), (1, .int x1)]) hx hb dX6_put_30 hl (k := 2) rfl (by rw [ex2_4]; rfl) (Nat.le_of_ble_eq_true rfl) rfl (fun ls hl => ?_)
      refine lv_goto (tgt := 3) hx hb dX6_put_33 (by decide) ?_
      exact ih _ _ _ _ _ _ hw hk (lv_sub hl [1, 2, 0] rfl)
def wp_X6_put (σ : Sg) (p1 : Int32) (Q : Sg → Prop) : Prop := ∃ n0, wp_X6_put_3 Q  n0 p1 (24 : Int32) σ
set_option maxHeartbeats 4000000 in
set_option maxRecDepth 100000 in
theorem c_X6_put (l : Launch) (G : Gw) (σ : Sg) (p1 : Int32) (Q : Sg → Prop) (hw : wp_X6_put σ p1 Q) : MetV l yX6_put wz_X6_put rm_X6_put G σ [.ref (G.1 30), .int p1] Q := by
  refine MetV.of cX6_put 3 none (by decide) rfl (Nat.le_of_ble_eq_true rfl) ?_
  intro p e s m below meth c X hk ls hl
  have X : KC p m meth c cX6_put 3 s _ wz_X6_put RX6 none G := X
  have hl : lv_has ls 3 [(0, .ref (G.1 30)), (1, .int p1)] := hl
  unfold wp_X6_put at hw
  have hx := X.1.1
  have hb := X.1.2.1
  refine lv_bipush (v := (24 : Int32)) hx hb dX6_put_0 (by decide) ?_
  refine lv_istore_n (lv' := [(2, .int (24 : Int32)), (0, .ref (G.1 30)), (1, .int p1)]) hx hb dX6_put_2 rfl hl (Nat.le_of_ble_eq_true rfl) rfl (fun ls hl => ?_)
  obtain ⟨n0, hw⟩ := hw
  exact t_X6_put_3 X Q   n0 _ _ _ _ _ _ hw hk (lv_sub hl [1, 2, 0] rfl)
