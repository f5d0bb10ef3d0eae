def rm_X6_leaving : Room := { frames := 1, cells := 0, slots := 0, locals := 22 }
abbrev wz_X6_leaving : List Cond := Cond.code yX6_leaving cX6_leaving 3 (some .int) :: wsA
theorem hd_X6_leaving : yX6_leaving.cls = RX6 ∧ yX6_leaving.cls ≠ "java/lang/invoke/MethodHandle" ∧ yX6_leaving.cls ≠ "java/lang/invoke/VarHandle" ∧ (parseMethodDescriptor yX6_leaving.desc).map (fun d => d.parameters.length) = some 2 := by decide +kernel
def wp_X6_leaving (σ : Sg) (p1 p2 : Int32) (Q : Int32 → Sg → Prop) : Prop := wp_X6_ofPlace σ p1 (2 : Int32) (fun r2 σ1 => (p2 < r2 → (Q (0 : Int32) σ1)) ∧ (¬ (p2 < r2) → (vp_in p1 8 ∧ (Q (σ1 42 (p1).toNatClampNeg) σ1))))
set_option maxHeartbeats 4000000 in
set_option maxRecDepth 100000 in
theorem c_X6_leaving (l : Launch) (G : Gw) (σ : Sg) (p1 p2 : Int32) (Q : Int32 → Sg → Prop) (hw : wp_X6_leaving σ p1 p2 Q) : MetI l yX6_leaving wz_X6_leaving rm_X6_leaving G σ [.ref (G.1 30), .int p1, .int p2] Q := by
  refine MetI.of cX6_leaving 3 (some .int) (by decide) rfl (Nat.le_of_ble_eq_true rfl) ?_
  intro p e s m below meth c X hk ls hl
  have X : KC p m meth c cX6_leaving 3 s _ wz_X6_leaving RX6 (some .int) G := X
  have hl : lv_has ls 3 [(0, .ref (G.1 30)), (1, .int p1), (2, .int p2)] := hl
  unfold wp_X6_leaving at hw
  have hx := X.1.1
  have hb := X.1.2.1
  refine lv_iload_n hx hb dX6_leaving_0 rfl (lv_at hl 2 rfl) ?_
  refine lv_aload_n hx hb dX6_leaving_1 rfl (lv_at hl 0 rfl) ?_
  refine lv_iload_n hx hb dX6_leaving_2 rfl (lv_at hl 1 rfl) ?_
  refine lv_iconst (v := (2 : Int32)) hx hb dX6_leaving_3 (by decide) ?_
  refine k_callVi (rest := [.int p2]) X hk (c_X6_ofPlace l G _ _ _ _ hw) (cwV 2 X.1.2.2.2.2 (gzV (aw_r21 _ (List.mem_of_getElem? (i := 4) rfl)) (aw_r21 _ (List.mem_of_getElem? (i := 5) rfl)) (aw_r21 _ (List.mem_of_getElem? (i := 6) rfl)) (aw_r1 _ (List.mem_of_getElem? (i := 5) rfl)) (aw_r21 _ (List.mem_of_getElem? (i := 7) rfl))) rfl rfl rfl hd_X6_ofPlace ⟨(Nat.le_of_ble_eq_true rfl), (Nat.le_of_ble_eq_true rfl)⟩) (wg_30 G _) rfl rfl hl.1 rfl (Nat.le_of_ble_eq_true rfl) dX6_leaving_4 ⟨Nat.zero_le _, Nat.zero_le _⟩ (fun r2 σ1 H locs hw hk => ?_)
  refine lv_icmp_lt (tgt := 19) hx hb dX6_leaving_7 (by decide) (fun c3 => ?_) (fun c3 => ?_)
  · replace hw := hw.1 c3
    refine lv_iconst (v := (0 : Int32)) hx hb dX6_leaving_19 (by decide) ?_
    exact k_iret X hk hw dX6_leaving_20
  · replace hw := hw.2 c3
    refine lv_aload_n hx hb dX6_leaving_10 rfl (lv_at hl 0 rfl) ?_
    refine k_get 18 X hk (wg_30 G _) rfl (hz_wsX60 _) (Nat.le_of_ble_eq_true rfl) (List.mem_cons_of_mem _ (aw_r5 _ (List.mem_of_getElem? (i := 4) rfl))) rfl dX6_leaving_11 ?_
    refine lv_iload_n hx hb dX6_leaving_14 rfl (lv_at hl 1 rfl) ?_
    refine k_iald X hk (wg_42 G _) hw.1 dX6_leaving_15 ?_
    replace hw := hw.2
    refine lv_goto (tgt := 20) hx hb dX6_leaving_16 (by decide) ?_
    exact k_iret X hk hw dX6_leaving_20
def rm_X6_shelters : Room := { frames := 2, cells := 0, slots := 0, locals := 44 }
abbrev wz_X6_shelters : List Cond := Cond.code yX6_shelters cX6_shelters 6 none :: wsA
theorem hd_X6_shelters : yX6_shelters.cls = RX6 ∧ yX6_shelters.cls ≠ "java/lang/invoke/MethodHandle" ∧ yX6_shelters.cls ≠ "java/lang/invoke/VarHandle" ∧ (parseMethodDescriptor yX6_shelters.desc).map (fun d => d.parameters.length) = some 2 := by decide +kernel
def wp_X6_shelters (σ : Sg) (p1 p2 : Int32) (Q : Sg → Prop) : Prop := wp_X6_ofPlace σ p1 (1 : Int32) (fun r2 σ1 => vp_in p1 8 ∧ (∀ x3_3 : Int32, x3_3 = (r2 - (σ1 44 (p1).toNatClampNeg)) → (vp_in p1 8 ∧ (wp_X6_lesser σ1 x3_3 (σ1 43 (p1).toNatClampNeg) (fun r5 σ4 => wp_X6_leaving σ4 p1 p2 (fun r7 σ6 => wp_X6_lesser σ6 (x3_3 - r5) r7 (fun r9 σ8 => vp_in p1 8 ∧ (vp_in p1 8 ∧ (∀ σ10 : Sg, σ10 = (put σ8 43 (p1).toNatClampNeg ((σ8 43 (p1).toNatClampNeg) - r5)) → (vp_in p1 8 ∧ (vp_in p1 8 ∧ (∀ σ11 : Sg, σ11 = (put σ10 42 (p1).toNatClampNeg ((σ10 42 (p1).toNatClampNeg) - r9)) → (vp_in p1 8 ∧ (vp_in p1 8 ∧ (∀ σ12 : Sg, σ12 = (put σ11 44 (p1).toNatClampNeg ((σ11 44 (p1).toNatClampNeg) + (r5 + r9))) → (((r5 + r9) ≤ 0 → (Q σ12)) ∧ (¬ ((r5 + r9) ≤ 0) → (∀ σ14 : Sg, σ14 = (put σ12 30 26 p2) → (Q σ14)))))))))))))))))))
set_option maxHeartbeats 4000000 in
set_option maxRecDepth 100000 in
theorem c_X6_shelters (l : Launch) (G : Gw) (σ : Sg) (p1 p2 : Int32) (Q : Sg → Prop) (hw : wp_X6_shelters σ p1 p2 Q) : MetV l yX6_shelters wz_X6_shelters rm_X6_shelters G σ [.ref (G.1 30), .int p1, .int p2] Q := by
  refine MetV.of cX6_shelters 6 none (by decide) rfl (Nat.le_of_ble_eq_true rfl) ?_
  intro p e s m below meth c X hk ls hl
  have X : KC p m meth c cX6_shelters 6 s _ wz_X6_shelters RX6 none G := X
  have hl : lv_has ls 6 [(0, .ref (G.1 30)), (1, .int p1), (2, .int p2)] := hl
  unfold wp_X6_shelters at hw
  have hx := X.1.1
  have hb := X.1.2.1
  refine lv_aload_n hx hb dX6_shelters_0 rfl (lv_at hl 0 rfl) ?_
  refine lv_iload_n hx hb dX6_shelters_1 rfl (lv_at hl 1 rfl) ?_
  refine lv_iconst (v := (1 : Int32)) hx hb dX6_shelters_2 (by decide) ?_
  refine k_callVi (rest := []) X hk (c_X6_ofPlace l G _ _ _ _ hw) (cwV 2 X.1.2.2.2.2 (gzV (aw_r21 _ (List.mem_of_getElem? (i := 4) rfl)) (aw_r21 _ (List.mem_of_getElem? (i := 5) rfl)) (aw_r21 _ (List.mem_of_getElem? (i := 6) rfl)) (aw_r1 _ (List.mem_of_getElem? (i := 5) rfl)) (aw_r21 _ (List.mem_of_getElem? (i := 7) rfl))) rfl rfl rfl hd_X6_ofPlace ⟨(Nat.le_of_ble_eq_true rfl), (Nat.le_of_ble_eq_true rfl)⟩) (wg_30 G _) rfl rfl hl.1 rfl (Nat.le_of_ble_eq_true rfl) dX6_shelters_3 ⟨Nat.zero_le _, Nat.zero_le _⟩ (fun r2 σ1 H locs hw hk => ?_)
  refine lv_aload_n hx hb dX6_shelters_6 rfl (lv_at hl 0 rfl) ?_
  refine k_get 20 X hk (wg_30 G _) rfl (hz_wsX60 _) (Nat.le_of_ble_eq_true rfl) (List.mem_cons_of_mem _ (aw_r5 _ (List.mem_of_getElem? (i := 6) rfl))) rfl dX6_shelters_7 ?_
  refine lv_iload_n hx hb dX6_shelters_10 rfl (lv_at hl 1 rfl) ?_
  refine k_iald X hk (wg_44 G _) hw.1 dX6_shelters_11 ?_
  replace hw := hw.2
  refine lv_isub hx hb dX6_shelters_12 ?_
  refine lv_topi (fun x3_3 ex3_3 => ?_)
  replace hw := hw x3_3 ex3_3
  refine lv_istore_n (lv' := [(3, .int x3_3), (0, .ref (G.1 30)), (1, .int p1), (2, .int p2)]) hx hb dX6_shelters_13 rfl hl (Nat.le_of_ble_eq_true rfl) rfl (fun ls hl => ?_)
  refine lv_iload_n hx hb dX6_shelters_14 rfl (lv_at hl 0 rfl) ?_
  refine lv_aload_n hx hb dX6_shelters_15 rfl (lv_at hl 1 rfl) ?_
  refine k_get 19 X hk (wg_30 G _) rfl (hz_wsX60 _) (Nat.le_of_ble_eq_true rfl) (List.mem_cons_of_mem _ (aw_r5 _ (List.mem_of_getElem? (i := 5) rfl))) rfl dX6_shelters_16 ?_
  refine lv_iload_n hx hb dX6_shelters_19 rfl (lv_at hl 2 rfl) ?_
  refine k_iald X hk (wg_43 G _) hw.1 dX6_shelters_20 ?_
  replace hw := hw.2
  refine k_callSi (rest := []) X hk (c_X6_lesser l G _ _ _ _ hw) (va_cwS 2 X.1.2.2.2.2 (gzS (aw_r23 _ (List.mem_of_getElem? (i := 8) rfl)) (aw_r23 _ (List.mem_of_getElem? (i := 9) rfl)) (aw_r1 _ (List.mem_of_getElem? (i := 5) rfl)) (aw_r23 _ (List.mem_of_getElem? (i := 10) rfl))) rfl rfl rfl hds_X6_lesser ⟨(Nat.le_of_ble_eq_true rfl), (Nat.le_of_ble_eq_true rfl)⟩) rfl hl.1 rfl (Nat.le_of_ble_eq_true rfl) dX6_shelters_21 ⟨Nat.zero_le _, Nat.zero_le _⟩ (fun r5 σ4 H locs hw hk => ?_)
  refine lv_istore (lv' := [(4, .int r5), (3, .int x3_3), (0, .ref (G.1 30)), (1, .int p1), (2, .int p2)]) hx hb dX6_shelters_24 hl (Nat.le_of_ble_eq_true rfl) rfl (fun ls hl => ?_)
  refine lv_iload_n hx hb dX6_shelters_26 rfl (lv_at hl 1 rfl) ?_
  refine lv_iload hx hb dX6_shelters_27 (lv_at hl 0 rfl) ?_
  refine lv_isub hx hb dX6_shelters_29 ?_
  refine lv_aload_n hx hb dX6_shelters_30 rfl (lv_at hl 2 rfl) ?_
  refine lv_iload_n hx hb dX6_shelters_31 rfl (lv_at hl 3 rfl) ?_
  refine lv_iload_n hx hb dX6_shelters_32 rfl (lv_at hl 4 rfl) ?_
  refine k_callVi (rest := [.int (x3_3 - r5)]) X hk (c_X6_leaving l G _ _ _ _ hw) (cwV 2 X.1.2.2.2.2 (gzV (aw_r44 _ (List.mem_of_getElem? (i := 2) rfl)) (aw_r44 _ (List.mem_of_getElem? (i := 3) rfl)) (aw_r44 _ (List.mem_of_getElem? (i := 4) rfl)) (aw_r1 _ (List.mem_of_getElem? (i := 5) rfl)) (aw_r44 _ (List.mem_of_getElem? (i := 5) rfl))) rfl rfl rfl hd_X6_leaving ⟨(Nat.le_of_ble_eq_true rfl), (Nat.le_of_ble_eq_true rfl)⟩) (wg_30 G _) rfl rfl hl.1 rfl (Nat.le_of_ble_eq_true rfl) dX6_shelters_33 ⟨Nat.zero_le _, Nat.zero_le _⟩ (fun r7 σ6 H locs hw hk => ?_)
  refine k_callSi (rest := []) X hk (c_X6_lesser l G _ _ _ _ hw) (va_cwS 2 X.1.2.2.2.2 (gzS (aw_r23 _ (List.mem_of_getElem? (i := 8) rfl)) (aw_r23 _ (List.mem_of_getElem? (i := 9) rfl)) (aw_r1 _ (List.mem_of_getElem? (i := 5) rfl)) (aw_r23 _ (List.mem_of_getElem? (i := 10) rfl))) rfl rfl rfl hds_X6_lesser ⟨(Nat.le_of_ble_eq_true rfl), (Nat.le_of_ble_eq_true rfl)⟩) rfl hl.1 rfl (Nat.le_of_ble_eq_true rfl) dX6_shelters_36 ⟨Nat.zero_le _, Nat.zero_le _⟩ (fun r9 σ8 H locs hw hk => ?_)
  refine lv_istore (lv' := [(5, .int r9), (4, .int r5), (3, .int x3_3), (0, .ref (G.1 30)), (1, .int p1), (2, .int p2)]) hx hb dX6_shelters_39 hl (Nat.le_of_ble_eq_true rfl) rfl (fun ls hl => ?_)
  refine lv_aload_n hx hb dX6_shelters_41 rfl (lv_at hl 3 rfl) ?_
  refine k_get 19 X hk (wg_30 G _) rfl (hz_wsX60 _) (Nat.le_of_ble_eq_true rfl) (List.mem_cons_of_mem _ (aw_r5 _ (List.mem_of_getElem? (i := 5) rfl))) rfl dX6_shelters_42 ?_
  refine lv_iload_n hx hb dX6_shelters_45 rfl (lv_at hl 4 rfl) ?_
  refine lv_dup2_11 hx hb dX6_shelters_46 rfl rfl ?_
  refine k_iald X hk (wg_43 G _) hw.1 dX6_shelters_47 ?_
  replace hw := hw.2
  refine lv_iload hx hb dX6_shelters_48 (lv_at hl 1 rfl) ?_
  refine lv_isub hx hb dX6_shelters_50 ?_
  refine k_iast X hk (wg_43 G _) (ws_43 G _) rfl hw.1 dX6_shelters_51 (fun H locs hk => ?_)
  replace hw := hw.2
  obtain ⟨σ10, eσ10⟩ : ∃ y : Sg, y = (put σ8 43 (p1).toNatClampNeg ((σ8 43 (p1).toNatClampNeg) - r5)) := ⟨_, rfl⟩
  rw [← eσ10] at hk
  replace hw := hw σ10 eσ10
  refine lv_aload_n hx hb dX6_shelters_52 rfl (lv_at hl 3 rfl) ?_
  refine k_get 18 X hk (wg_30 G _) rfl (hz_wsX60 _) (Nat.le_of_ble_eq_true rfl) (List.mem_cons_of_mem _ (aw_r5 _ (List.mem_of_getElem? (i := 4) rfl))) rfl dX6_shelters_53 ?_
  refine lv_iload_n hx hb dX6_shelters_56 rfl (lv_at hl 4 rfl) ?_
  refine lv_dup2_11 hx hb dX6_shelters_57 rfl rfl ?_
  refine k_iald X hk (wg_42 G _) hw.1 dX6_shelters_58 ?_
  replace hw := hw.2
  refine lv_iload hx hb dX6_shelters_59 (lv_at hl 0 rfl) ?_
  refine lv_isub hx hb dX6_shelters_61 ?_
  refine k_iast X hk (wg_42 G _) (ws_42 G _) rfl hw.1 dX6_shelters_62 (fun H locs hk => ?_)
  replace hw := hw.2
  obtain ⟨σ11, eσ11⟩ : ∃ y : Sg, y = (put σ10 42 (p1).toNatClampNeg ((σ10 42 (p1).toNatClampNeg) - r9)) := ⟨_, rfl⟩
  rw [← eσ11] at hk
  replace hw := hw σ11 eσ11
  refine lv_aload_n hx hb dX6_shelters_63 rfl (lv_at hl 3 rfl) ?_
  refine k_get 20 X hk (wg_30 G _) rfl (hz_wsX60 _) (Nat.le_of_ble_eq_true rfl) (List.mem_cons_of_mem _ (aw_r5 _ (List.mem_of_getElem? (i := 6) rfl))) rfl dX6_shelters_64 ?_
  refine lv_iload_n hx hb dX6_shelters_67 rfl (lv_at hl 4 rfl) ?_
  refine lv_dup2_11 hx hb dX6_shelters_68 rfl rfl ?_
  refine k_iald X hk (wg_44 G _) hw.1 dX6_shelters_69 ?_
  replace hw := hw.2
  refine lv_iload hx hb dX6_shelters_70 (lv_at hl 1 rfl) ?_
  refine lv_iload hx hb dX6_shelters_72 (lv_at hl 0 rfl) ?_
  refine lv_iadd hx hb dX6_shelters_74 ?_
  refine lv_iadd hx hb dX6_shelters_75 ?_
  refine k_iast X hk (wg_44 G _) (ws_44 G _) rfl hw.1 dX6_shelters_76 (fun H locs hk => ?_)
  replace hw := hw.2
  obtain ⟨σ12, eσ12⟩ : ∃ y : Sg, y = (put σ11 44 (p1).toNatClampNeg ((σ11 44 (p1).toNatClampNeg) + (r5 + r9))) := ⟨_, rfl⟩
  rw [← eσ12] at hk
  replace hw := hw σ12 eσ12
  refine lv_iload hx hb dX6_shelters_77 (lv_at hl 1 rfl) ?_
  refine lv_iload hx hb dX6_shelters_79 (lv_at hl 0 rfl) ?_
  refine lv_iadd hx hb dX6_shelters_81 ?_
  refine lv_if_le (tgt := 90) hx hb dX6_shelters_82 (by decide) (fun c13 => ?_) (fun c13 => ?_)
  · replace hw := hw.1 c13
    exact k_vret X hk hw dX6_shelters_90
  · replace hw := hw.2 c13
    refine lv_aload_n hx hb dX6_shelters_85 rfl (lv_at hl 3 rfl) ?_
    refine lv_iload_n hx hb dX6_shelters_86 rfl (lv_at hl 5 rfl) ?_
    refine k_put 26 X hk (wg_30 G _) rfl (hz_wsX60 _) tyX6_ok nmX6 (Nat.le_of_ble_eq_true rfl) (List.mem_cons_of_mem _ (aw_r43 _ (List.mem_of_getElem? (i := 21) rfl))) rfl rfl (Nat.le_of_ble_eq_true rfl) (ws_30_26 G _ _) dX6_shelters_87 (fun H locs hk => ?_)
    obtain ⟨σ14, eσ14⟩ : ∃ y : Sg, y = (put σ12 30 26 p2) := ⟨_, rfl⟩
    rw [← eσ14] at hk
    replace hw := hw σ14 eσ14
    exact k_vret X hk hw dX6_shelters_90
def rm_X6_moves_ : Room := { frames := 2, cells := 0, slots := 0, locals := 44 }
abbrev wz_X6_moves_ : List Cond := Cond.code yX6_moves_ cX6_moves_ 8 (some .int) :: wsA
theorem hd_X6_moves_ : yX6_moves_.cls = RX6 ∧ yX6_moves_.cls ≠ "java/lang/invoke/MethodHandle" ∧ yX6_moves_.cls ≠ "java/lang/invoke/VarHandle" ∧ (parseMethodDescriptor yX6_moves_.desc).map (fun d => d.parameters.length) = some 2 := by decide +kernel
def wp_X6_moves__174 (Q : Int32 → Sg → Prop)  (x5 y1 y3 y4 : Int32) (σ : Sg) : Prop := wp_X6_ofRoad σ y3 y4 (fun r25 σ24 => vp_in (y1 + r25) 480 ∧ (vp_in (y1 + r25) 480 ∧ (∀ σ26 : Sg, σ26 = (put σ24 41 ((y1 + r25)).toNatClampNeg ((σ24 41 ((y1 + r25)).toNatClampNeg) + x5)) → (Q (0 : Int32) σ26))))
set_option maxHeartbeats 4000000 in
set_option maxRecDepth 100000 in
theorem t_X6_moves__174 {p : Program} {l : Launch} {e : Env} {s : State} {m : MethodId} {args : Array Value} {below : List Frame} {meth : Method} {c : Code} {G : Gw} (X : KC p m meth c cX6_moves_ 8 s args wz_X6_moves_ RX6 (some .int) G) (Q : Int32 → Sg → Prop)  : ∀ (σ : Sg) (x5 y1 y3 y4 : Int32) (H : Heap) (locs : List Loc) (ls : Array Slot), wp_X6_moves__174 Q  x5 y1 y3 y4 σ → WK G s H locs σ → lv_has ls 8 [(5, .int x5)] → W p l e rm_X6_moves_ s m args below meth c H locs 0 0 (ZI below args s G Q) (F0 m 174 ls [.int y4, .int y3, .ref (G.1 30), .int y1, .ref (G.1 41)]) := by
  have hx := X.1.1
  have hb := X.1.2.1
  intro σ x5 y1 y3 y4 H locs ls hw hk hl
  unfold wp_X6_moves__174 at hw
  refine k_callVi (rest := [.int y1, .ref (G.1 41)]) X hk (c_X6_ofRoad l G _ _ _ _ hw) (cwV 2 X.1.2.2.2.2 (gzV (aw_r17 _ (List.mem_of_getElem? (i := 14) rfl)) (aw_r17 _ (List.mem_of_getElem? (i := 15) rfl)) (aw_r17 _ (List.mem_of_getElem? (i := 16) rfl)) (aw_r1 _ (List.mem_of_getElem? (i := 5) rfl)) (aw_r17 _ (List.mem_of_getElem? (i := 17) rfl))) rfl rfl rfl hd_X6_ofRoad ⟨(Nat.le_of_ble_eq_true rfl), (Nat.le_of_ble_eq_true rfl)⟩) (wg_30 G _) rfl rfl hl.1 rfl (Nat.le_of_ble_eq_true rfl) dX6_moves__174 ⟨Nat.zero_le _, Nat.zero_le _⟩ (fun r25 σ24 H locs hw hk => ?_)
  refine lv_iadd hx hb dX6_moves__177 ?_
  refine lv_dup2_11 hx hb dX6_moves__178 rfl rfl ?_
  refine k_iald X hk (wg_41 G _) hw.1 dX6_moves__179 ?_
  replace hw := hw.2
  refine lv_iload hx hb dX6_moves__180 (lv_at hl 0 rfl) ?_
  refine lv_iadd hx hb dX6_moves__182 ?_
  refine k_iast X hk (wg_41 G _) (ws_41 G _) rfl hw.1 dX6_moves__183 (fun H locs hk => ?_)
  replace hw := hw.2
  obtain ⟨σ26, eσ26⟩ : ∃ y : Sg, y = (put σ24 41 ((y1 + r25)).toNatClampNeg ((σ24 41 ((y1 + r25)).toNatClampNeg) + x5)) := ⟨_, rfl⟩
  rw [← eσ26] at hk
  replace hw := hw σ26 eσ26
  refine lv_iconst (v := (0 : Int32)) hx hb dX6_moves__184 (by decide) ?_
  exact k_iret X hk hw dX6_moves__185
def wp_X6_moves__63 (Q : Int32 → Sg → Prop)  (x2 x3 x4 x5 y1 y2 : Int32) (σ : Sg) : Prop := wp_X6_ofRoad σ y1 y2 (fun r12 σ11 => vp_in r12 8 ∧ (wp_X6_leaving σ11 r12 x2 (fun r14 σ13 => (x5 ≤ ((σ11 43 (r12).toNatClampNeg) + r14) → (vp_in r12 8 ∧ (wp_X6_lesser σ13 (σ13 43 (r12).toNatClampNeg) x5 (fun r17 σ16 => vp_in r12 8 ∧ (vp_in r12 8 ∧ (∀ σ18 : Sg, σ18 = (put σ16 43 (r12).toNatClampNeg ((σ16 43 (r12).toNatClampNeg) - r17)) → (vp_in r12 8 ∧ (vp_in r12 8 ∧ (∀ σ19 : Sg, σ19 = (put σ18 42 (r12).toNatClampNeg ((σ18 42 (r12).toNatClampNeg) - (x5 - r17))) → (vp_in (((2 : Int32) * x3) + x4) 24 ∧ (vp_in (((2 : Int32) * x3) + x4) 24 ∧ (∀ σ20 : Sg, σ20 = (put σ19 46 ((((2 : Int32) * x3) + x4)).toNatClampNeg ((σ19 46 ((((2 : Int32) * x3) + x4)).toNatClampNeg) + x5)) → (wp_X6_ofRoad σ20 x3 (2 : Int32) (fun r22 σ21 => (x4 = 0 → (wp_X6_moves__174 Q  x5 ((8 : Int32) * (x2 + r22)) x3 (1 : Int32) σ21)) ∧ (¬ (x4 = 0) → (wp_X6_moves__174 Q  x5 ((8 : Int32) * (x2 + r22)) x3 (0 : Int32) σ21)))))))))))))))) ∧ (¬ (x5 ≤ ((σ11 43 (r12).toNatClampNeg) + r14)) → (Q (2 : Int32) σ13)))))
set_option maxHeartbeats 4000000 in
set_option maxRecDepth 100000 in
theorem t_X6_moves__63 {p : Program} {l : Launch} {e : Env} {s : State} {m : MethodId} {args : Array Value} {below : List Frame} {meth : Method} {c : Code} {G : Gw} (X : KC p m meth c cX6_moves_ 8 s args wz_X6_moves_ RX6 (some .int) G) (Q : Int32 → Sg → Prop)  : ∀ (σ : Sg) (x2 x3 x4 x5 y1 y2 : Int32) (H : Heap) (locs : List Loc) (ls : Array Slot), wp_X6_moves__63 Q  x2 x3 x4 x5 y1 y2 σ → WK G s H locs σ → lv_has ls 8 [(0, .ref (G.1 30)), (2, .int x2), (3, .int x3), (4, .int x4), (5, .int x5)] → W p l e rm_X6_moves_ s m args below meth c H locs 0 0 (ZI below args s G Q) (F0 m 63 ls [.int y2, .int y1, .ref (G.1 30)]) := by
  have hx := X.1.1
  have hb := X.1.2.1
  intro σ x2 x3 x4 x5 y1 y2 H locs ls hw hk hl
  unfold wp_X6_moves__63 at hw
  refine k_callVi (rest := []) X hk (c_X6_ofRoad l G _ _ _ _ hw) (cwV 2 X.1.2.2.2.2 (gzV (aw_r17 _ (List.mem_of_getElem? (i := 14) rfl)) (aw_r17 _ (List.mem_of_getElem? (i := 15) rfl)) (aw_r17 _ (List.mem_of_getElem? (i := 16) rfl)) (aw_r1 _ (List.mem_of_getElem? (i := 5) rfl)) (aw_r17 _ (List.mem_of_getElem? (i := 17) rfl))) rfl rfl rfl hd_X6_ofRoad ⟨(Nat.le_of_ble_eq_true rfl), (Nat.le_of_ble_eq_true rfl)⟩) (wg_30 G _) rfl rfl hl.1 rfl (Nat.le_of_ble_eq_true rfl) dX6_moves__63 ⟨Nat.zero_le _, Nat.zero_le _⟩ (fun r12 σ11 H locs hw hk => ?_)
  refine lv_istore (lv' := [(6, .int r12), (0, .ref (G.1 30)), (2, .int x2), (3, .int x3), (4, .int x4), (5, .int x5)]) hx hb dX6_moves__66 hl (Nat.le_of_ble_eq_true rfl) rfl (fun ls hl => ?_)
  refine lv_aload_n hx hb dX6_moves__68 rfl (lv_at hl 1 rfl) ?_
  refine k_get 19 X hk (wg_30 G _) rfl (hz_wsX60 _) (Nat.le_of_ble_eq_true rfl) (List.mem_cons_of_mem _ (aw_r5 _ (List.mem_of_getElem? (i := 5) rfl))) rfl dX6_moves__69 ?_
  refine lv_iload hx hb dX6_moves__72 (lv_at hl 0 rfl) ?_
  refine k_iald X hk (wg_43 G _) hw.1 dX6_moves__74 ?_
  replace hw := hw.2
  refine lv_aload_n hx hb dX6_moves__75 rfl (lv_at hl 1 rfl) ?_
  refine lv_iload hx hb dX6_moves__76 (lv_at hl 0 rfl) ?_
  refine lv_iload_n hx hb dX6_moves__78 rfl (lv_at hl 2 rfl) ?_
  refine k_callVi (rest := [.int (σ11 43 (r12).toNatClampNeg)]) X hk (c_X6_leaving l G _ _ _ _ hw) (cwV 2 X.1.2.2.2.2 (gzV (aw_r44 _ (List.mem_of_getElem? (i := 2) rfl)) (aw_r44 _ (List.mem_of_getElem? (i := 3) rfl)) (aw_r44 _ (List.mem_of_getElem? (i := 4) rfl)) (aw_r1 _ (List.mem_of_getElem? (i := 5) rfl)) (aw_r44 _ (List.mem_of_getElem? (i := 5) rfl))) rfl rfl rfl hd_X6_leaving ⟨(Nat.le_of_ble_eq_true rfl), (Nat.le_of_ble_eq_true rfl)⟩) (wg_30 G _) rfl rfl hl.1 rfl (Nat.le_of_ble_eq_true rfl) dX6_moves__79 ⟨Nat.zero_le _, Nat.zero_le _⟩ (fun r14 σ13 H locs hw hk => ?_)
  refine lv_iadd hx hb dX6_moves__82 ?_
  refine lv_iload hx hb dX6_moves__83 (lv_at hl 5 rfl) ?_
  refine lv_icmp_ge (tgt := 90) hx hb dX6_moves__85 (by decide) (fun c15 => ?_) (fun c15 => ?_)
  · replace hw := hw.1 c15
    refine lv_aload_n hx hb dX6_moves__90 rfl (lv_at hl 1 rfl) ?_
    refine k_get 19 X hk (wg_30 G _) rfl (hz_wsX60 _) (Nat.le_of_ble_eq_true rfl) (List.mem_cons_of_mem _ (aw_r5 _ (List.mem_of_getElem? (i := 5) rfl))) rfl dX6_moves__91 ?_
    refine lv_iload hx hb dX6_moves__94 (lv_at hl 0 rfl) ?_
    refine k_iald X hk (wg_43 G _) hw.1 dX6_moves__96 ?_
    replace hw := hw.2
    refine lv_iload hx hb dX6_moves__97 (lv_at hl 5 rfl) ?_
    refine k_callSi (rest := []) X hk (c_X6_lesser l G _ _ _ _ hw) (va_cwS 2 X.1.2.2.2.2 (gzS (aw_r23 _ (List.mem_of_getElem? (i := 8) rfl)) (aw_r23 _ (List.mem_of_getElem? (i := 9) rfl)) (aw_r1 _ (List.mem_of_getElem? (i := 5) rfl)) (aw_r23 _ (List.mem_of_getElem? (i := 10) rfl))) rfl rfl rfl hds_X6_lesser ⟨(Nat.le_of_ble_eq_true rfl), (Nat.le_of_ble_eq_true rfl)⟩) rfl hl.1 rfl (Nat.le_of_ble_eq_true rfl) dX6_moves__99 ⟨Nat.zero_le _, Nat.zero_le _⟩ (fun r17 σ16 H locs hw hk => ?_)
    refine lv_istore (lv' := [(7, .int r17), (6, .int r12), (0, .ref (G.1 30)), (2, .int x2), (3, .int x3), (4, .int x4), (5, .int x5)]) hx hb dX6_moves__102 hl (Nat.le_of_ble_eq_true rfl) rfl (fun ls hl => ?_)
    refine lv_aload_n hx hb dX6_moves__104 rfl (lv_at hl 2 rfl) ?_
    refine k_get 19 X hk (wg_30 G _) rfl (hz_wsX60 _) (Nat.le_of_ble_eq_true rfl) (List.mem_cons_of_mem _ (aw_r5 _ (List.mem_of_getElem? (i := 5) rfl))) rfl dX6_moves__105 ?_
    refine lv_iload hx hb dX6_moves__108 (lv_at hl 1 rfl) ?_
    refine lv_dup2_11 hx hb dX6_moves__110 rfl rfl ?_
    refine k_iald X hk (wg_43 G _) hw.1 dX6_moves__111 ?_
    replace hw := hw.2
    refine lv_iload hx hb dX6_moves__112 (lv_at hl 0 rfl) ?_
    refine lv_isub hx hb dX6_moves__114 ?_
    refine k_iast X hk (wg_43 G _) (ws_43 G _) rfl hw.1 dX6_moves__115 (fun H locs hk => ?_)
    replace hw := hw.2
    obtain ⟨σ18, eσ18⟩ : ∃ y : Sg, y = (put σ16 43 (r12).toNatClampNeg ((σ16 43 (r12).toNatClampNeg) - r17)) := ⟨_, rfl⟩
    rw [← eσ18] at hk
    replace hw := hw σ18 eσ18
    refine lv_aload_n hx hb dX6_moves__116 rfl (lv_at hl 2 rfl) ?_
    refine k_get 18 X hk (wg_30 G _) rfl (hz_wsX60 _) (Nat.le_of_ble_eq_true rfl) (List.mem_cons_of_mem _ (aw_r5 _ (List.mem_of_getElem? (i := 4) rfl))) rfl dX6_moves__117 ?_
    refine lv_iload hx hb dX6_moves__120 (lv_at hl 1 rfl) ?_
    refine lv_dup2_11 hx hb dX6_moves__122 rfl rfl ?_
    refine k_iald X hk (wg_42 G _) hw.1 dX6_moves__123 ?_
    replace hw := hw.2
    refine lv_iload hx hb dX6_moves__124 (lv_at hl 6 rfl) ?_
    refine lv_iload hx hb dX6_moves__126 (lv_at hl 0 rfl) ?_
    refine lv_isub hx hb dX6_moves__128 ?_
    refine lv_isub hx hb dX6_moves__129 ?_
    refine k_iast X hk (wg_42 G _) (ws_42 G _) rfl hw.1 dX6_moves__130 (fun H locs hk => ?_)
    replace hw := hw.2
    obtain ⟨σ19, eσ19⟩ : ∃ y : Sg, y = (put σ18 42 (r12).toNatClampNeg ((σ18 42 (r12).toNatClampNeg) - (x5 - r17))) := ⟨_, rfl⟩
    rw [← eσ19] at hk
    replace hw := hw σ19 eσ19
    refine lv_aload_n hx hb dX6_moves__131 rfl (lv_at hl 2 rfl) ?_
    refine k_get 22 X hk (wg_30 G _) rfl (hz_wsX60 _) (Nat.le_of_ble_eq_true rfl) (List.mem_cons_of_mem _ (aw_r5 _ (List.mem_of_getElem? (i := 8) rfl))) rfl dX6_moves__132 ?_
    refine lv_iconst (v := (2 : Int32)) hx hb dX6_moves__135 (by decide) ?_
    refine lv_iload_n hx hb dX6_moves__136 rfl (lv_at hl 4 rfl) ?_
    refine lv_imul hx hb dX6_moves__137 ?_
    refine lv_iload hx hb dX6_moves__138 (lv_at hl 5 rfl) ?_
    refine lv_iadd hx hb dX6_moves__140 ?_
    refine lv_dup2_11 hx hb dX6_moves__141 rfl rfl ?_
    refine k_iald X hk (wg_46 G _) hw.1 dX6_moves__142 ?_
    replace hw := hw.2
    refine lv_iload hx hb dX6_moves__143 (lv_at hl 6 rfl) ?_
    refine lv_iadd hx hb dX6_moves__145 ?_
    refine k_iast X hk (wg_46 G _) (ws_46 G _) rfl hw.1 dX6_moves__146 (fun H locs hk => ?_)
    replace hw := hw.2
    obtain ⟨σ20, eσ20⟩ : ∃ y : Sg, y = (put σ19 46 ((((2 : Int32) * x3) + x4)).toNatClampNeg ((σ19 46 ((((2 : Int32) * x3) + x4)).toNatClampNeg) + x5)) := ⟨_, rfl⟩
    rw [← eσ20] at hk
    replace hw := hw σ20 eσ20
    refine lv_aload_n hx hb dX6_moves__147 rfl (lv_at hl 2 rfl) ?_
    refine k_get 17 X hk (wg_30 G _) rfl (hz_wsX60 _) (Nat.le_of_ble_eq_true rfl) (List.mem_cons_of_mem _ (aw_r5 _ (List.mem_of_getElem? (i := 3) rfl))) rfl dX6_moves__148 ?_
    refine lv_bipush (v := (8 : Int32)) hx hb dX6_moves__151 (by decide) ?_
    refine lv_iload_n hx hb dX6_moves__153 rfl (lv_at hl 3 rfl) ?_
    refine lv_aload_n hx hb dX6_moves__154 rfl (lv_at hl 2 rfl) ?_
    refine lv_iload_n hx hb dX6_moves__155 rfl (lv_at hl 4 rfl) ?_
    refine lv_iconst (v := (2 : Int32)) hx hb dX6_moves__156 (by decide) ?_
    refine k_callVi (rest := [.int x2, .int (8 : Int32), .ref (G.1 41)]) X hk (c_X6_ofRoad l G _ _ _ _ hw) (cwV 2 X.1.2.2.2.2 (gzV (aw_r17 _ (List.mem_of_getElem? (i := 14) rfl)) (aw_r17 _ (List.mem_of_getElem? (i := 15) rfl)) (aw_r17 _ (List.mem_of_getElem? (i := 16) rfl)) (aw_r1 _ (List.mem_of_getElem? (i := 5) rfl)) (aw_r17 _ (List.mem_of_getElem? (i := 17) rfl))) rfl rfl rfl hd_X6_ofRoad ⟨(Nat.le_of_ble_eq_true rfl), (Nat.le_of_ble_eq_true rfl)⟩) (wg_30 G _) rfl rfl hl.1 rfl (Nat.le_of_ble_eq_true rfl) dX6_moves__157 ⟨Nat.zero_le _, Nat.zero_le _⟩ (fun r22 σ21 H locs hw hk => ?_)
    refine lv_iadd hx hb dX6_moves__160 ?_
    refine lv_imul hx hb dX6_moves__161 ?_
    refine lv_aload_n hx hb dX6_moves__162 rfl (lv_at hl 2 rfl) ?_
    refine lv_iload_n hx hb dX6_moves__163 rfl (lv_at hl 4 rfl) ?_
    refine lv_iload hx hb dX6_moves__164 (lv_at hl 5 rfl) ?_
    refine lv_if_ne (tgt := 173) hx hb dX6_moves__166 (by decide) (fun c23 => ?_) (fun c23 => ?_)
    · replace hw := hw.2 c23
      refine lv_iconst (v := (0 : Int32)) hx hb dX6_moves__173 (by decide) ?_
      exact t_X6_moves__174 X Q   _ _ _ _ _ _ _ _ hw hk (lv_sub hl [6] rfl)
    · replace hw := hw.1 c23
      refine lv_iconst (v := (1 : Int32)) hx hb dX6_moves__169 (by decide) ?_
      refine lv_goto (tgt := 174) hx hb dX6_moves__170 (by decide) ?_
      exact t_X6_moves__174 X Q   _ _ _ _ _ _ _ _ hw hk (lv_sub hl [6] rfl)
  · replace hw := hw.2 c15
    refine lv_iconst (v := (2 : Int32)) hx hb dX6_moves__88 (by decide) ?_
    exact k_iret X hk hw dX6_moves__89
def wp_X6_moves_ (σ : Sg) (p1 p2 : Int32) (Q : Int32 → Sg → Prop) : Prop := wp_X6_ofMove σ p1 (1 : Int32) (fun r2 σ1 => wp_X6_ofMove σ1 p1 (2 : Int32) (fun r4 σ3 => wp_X6_ofMove σ3 p1 (3 : Int32) (fun r6 σ5 => vp_in (((2 : Int32) * r2) + r4) 24 ∧ (wp_X6_ofRoad σ5 r2 ((3 : Int32) + r4) (fun r8 σ7 => (((σ5 46 ((((2 : Int32) * r2) + r4)).toNatClampNeg) + r6) ≤ r8 → ((r4 = 0 → (wp_X6_moves__63 Q  p2 r2 r4 r6 r2 (0 : Int32) σ7)) ∧ (¬ (r4 = 0) → (wp_X6_moves__63 Q  p2 r2 r4 r6 r2 (1 : Int32) σ7)))) ∧ (¬ (((σ5 46 ((((2 : Int32) * r2) + r4)).toNatClampNeg) + r6) ≤ r8) → (Q (1 : Int32) σ7)))))))
set_option maxHeartbeats 4000000 in
set_option maxRecDepth 100000 in
theorem c_X6_moves_ (l : Launch) (G : Gw) (σ : Sg) (p1 p2 : Int32) (Q : Int32 → Sg → Prop) (hw : wp_X6_moves_ σ p1 p2 Q) : MetI l yX6_moves_ wz_X6_moves_ rm_X6_moves_ G σ [.ref (G.1 30), .int p1, .int p2] Q := by
  refine MetI.of cX6_moves_ 8 (some .int) (by decide) rfl (Nat.le_of_ble_eq_true rfl) ?_
  intro p e s m below meth c X hk ls hl
  have X : KC p m meth c cX6_moves_ 8 s _ wz_X6_moves_ RX6 (some .int) G := X
  have hl : lv_has ls 8 [(0, .ref (G.1 30)), (1, .int p1), (2, .int p2)] := hl
  unfold wp_X6_moves_ at hw
  have hx := X.1.1
  have hb := X.1.2.1
  refine lv_aload_n hx hb dX6_moves__0 rfl (lv_at hl 0 rfl) ?_
  refine lv_iload_n hx hb dX6_moves__1 rfl (lv_at hl 1 rfl) ?_
  refine lv_iconst (v := (1 : Int32)) hx hb dX6_moves__2 (by decide) ?_
  refine k_callVi (rest := []) X hk (c_X6_ofMove l G _ _ _ _ hw) (cwV 2 X.1.2.2.2.2 (gzV (aw_r22 _ (List.mem_of_getElem? (i := 1) rfl)) (aw_r22 _ (List.mem_of_getElem? (i := 2) rfl)) (aw_r22 _ (List.mem_of_getElem? (i := 3) rfl)) (aw_r1 _ (List.mem_of_getElem? (i := 5) rfl)) (aw_r22 _ (List.mem_of_getElem? (i := 4) rfl))) rfl rfl rfl hd_X6_ofMove ⟨(Nat.le_of_ble_eq_true rfl), (Nat.le_of_ble_eq_true rfl)⟩) (wg_30 G _) rfl rfl hl.1 rfl (Nat.le_of_ble_eq_true rfl) dX6_moves__3 ⟨Nat.zero_le _, Nat.zero_le _⟩ (fun r2 σ1 H locs hw hk => ?_)
  refine lv_istore_n (lv' := [(3, .int r2), (0, .ref (G.1 30)), (1, .int p1), (2, .int p2)]) hx hb dX6_moves__6 rfl hl (Nat.le_of_ble_eq_true rfl) rfl (fun ls hl => ?_)
  refine lv_aload_n hx hb dX6_moves__7 rfl (lv_at hl 1 rfl) ?_
  refine lv_iload_n hx hb dX6_moves__8 rfl (lv_at hl 2 rfl) ?_
  refine lv_iconst (v := (2 : Int32)) hx hb dX6_moves__9 (by decide) ?_
  refine k_callVi (rest := []) X hk (c_X6_ofMove l G _ _ _ _ hw) (cwV 2 X.1.2.2.2.2 (gzV (aw_r22 _ (List.mem_of_getElem? (i := 1) rfl)) (aw_r22 _ (List.mem_of_getElem? (i := 2) rfl)) (aw_r22 _ (List.mem_of_getElem? (i := 3) rfl)) (aw_r1 _ (List.mem_of_getElem? (i := 5) rfl)) (aw_r22 _ (List.mem_of_getElem? (i := 4) rfl))) rfl rfl rfl hd_X6_ofMove ⟨(Nat.le_of_ble_eq_true rfl), (Nat.le_of_ble_eq_true rfl)⟩) (wg_30 G _) rfl rfl hl.1 rfl (Nat.le_of_ble_eq_true rfl) dX6_moves__10 ⟨Nat.zero_le _, Nat.zero_le _⟩ (fun r4 σ3 H locs hw hk => ?_)
  refine lv_istore (lv' := [(4, .int r4), (3, .int r2), (0, .ref (G.1 30)), (1, .int p1), (2, .int p2)]) hx hb dX6_moves__13 hl (Nat.le_of_ble_eq_true rfl) rfl (fun ls hl => ?_)
  refine lv_aload_n hx hb dX6_moves__15 rfl (lv_at hl 2 rfl) ?_
  refine lv_iload_n hx hb dX6_moves__16 rfl (lv_at hl 3 rfl) ?_
  refine lv_iconst (v := (3 : Int32)) hx hb dX6_moves__17 (by decide) ?_
  refine k_callVi (rest := []) X hk (c_X6_ofMove l G _ _ _ _ hw) (cwV 2 X.1.2.2.2.2 (gzV (aw_r22 _ (List.mem_of_getElem? (i := 1) rfl)) (aw_r22 _ (List.mem_of_getElem? (i := 2) rfl)) (aw_r22 _ (List.mem_of_getElem? (i := 3) rfl)) (aw_r1 _ (List.mem_of_getElem? (i := 5) rfl)) (aw_r22 _ (List.mem_of_getElem? (i := 4) rfl))) rfl rfl rfl hd_X6_ofMove ⟨(Nat.le_of_ble_eq_true rfl), (Nat.le_of_ble_eq_true rfl)⟩) (wg_30 G _) rfl rfl hl.1 rfl (Nat.le_of_ble_eq_true rfl) dX6_moves__18 ⟨Nat.zero_le _, Nat.zero_le _⟩ (fun r6 σ5 H locs hw hk => ?_)
  refine lv_istore (lv' := [(5, .int r6), (4, .int r4), (3, .int r2), (0, .ref (G.1 30)), (1, .int p1), (2, .int p2)]) hx hb dX6_moves__21 hl (Nat.le_of_ble_eq_true rfl) rfl (fun ls hl => ?_)
  refine lv_aload_n hx hb dX6_moves__23 rfl (lv_at hl 3 rfl) ?_
  refine k_get 22 X hk (wg_30 G _) rfl (hz_wsX60 _) (Nat.le_of_ble_eq_true rfl) (List.mem_cons_of_mem _ (aw_r5 _ (List.mem_of_getElem? (i := 8) rfl))) rfl dX6_moves__24 ?_
  refine lv_iconst (v := (2 : Int32)) hx hb dX6_moves__27 (by decide) ?_
  refine lv_iload_n hx hb dX6_moves__28 rfl (lv_at hl 2 rfl) ?_
  refine lv_imul hx hb dX6_moves__29 ?_
  refine lv_iload hx hb dX6_moves__30 (lv_at hl 1 rfl) ?_
  refine lv_iadd hx hb dX6_moves__32 ?_
  refine k_iald X hk (wg_46 G _) hw.1 dX6_moves__33 ?_
  replace hw := hw.2
  refine lv_iload hx hb dX6_moves__34 (lv_at hl 0 rfl) ?_
  refine lv_iadd hx hb dX6_moves__36 ?_
  refine lv_aload_n hx hb dX6_moves__37 rfl (lv_at hl 3 rfl) ?_
  refine lv_iload_n hx hb dX6_moves__38 rfl (lv_at hl 2 rfl) ?_
  refine lv_iconst (v := (3 : Int32)) hx hb dX6_moves__39 (by decide) ?_
  refine lv_iload hx hb dX6_moves__40 (lv_at hl 1 rfl) ?_
  refine lv_iadd hx hb dX6_moves__42 ?_
  refine k_callVi (rest := [.int ((σ5 46 ((((2 : Int32) * r2) + r4)).toNatClampNeg) + r6)]) X hk (c_X6_ofRoad l G _ _ _ _ hw) (cwV 2 X.1.2.2.2.2 (gzV (aw_r17 _ (List.mem_of_getElem? (i := 14) rfl)) (aw_r17 _ (List.mem_of_getElem? (i := 15) rfl)) (aw_r17 _ (List.mem_of_getElem? (i := 16) rfl)) (aw_r1 _ (List.mem_of_getElem? (i := 5) rfl)) (aw_r17 _ (List.mem_of_getElem? (i := 17) rfl))) rfl rfl rfl hd_X6_ofRoad ⟨(Nat.le_of_ble_eq_true rfl), (Nat.le_of_ble_eq_true rfl)⟩) (wg_30 G _) rfl rfl hl.1 rfl (Nat.le_of_ble_eq_true rfl) dX6_moves__43 ⟨Nat.zero_le _, Nat.zero_le _⟩ (fun r8 σ7 H locs hw hk => ?_)
  refine lv_icmp_le (tgt := 51) hx hb dX6_moves__46 (by decide) (fun c9 => ?_) (fun c9 => ?_)
  · replace hw := hw.1 c9
    refine lv_aload_n hx hb dX6_moves__51 rfl (lv_at hl 3 rfl) ?_
    refine lv_iload_n hx hb dX6_moves__52 rfl (lv_at hl 2 rfl) ?_
    refine lv_iload hx hb dX6_moves__53 (lv_at hl 1 rfl) ?_
    refine lv_if_ne (tgt := 62) hx hb dX6_moves__55 (by decide) (fun c10 => ?_) (fun c10 => ?_)
    · replace hw := hw.2 c10
      refine lv_iconst (v := (1 : Int32)) hx hb dX6_moves__62 (by decide) ?_
      exact t_X6_moves__63 X Q   _ _ _ _ _ _ _ _ _ _ hw hk (lv_sub hl [3, 5, 2, 1, 0] rfl)
    · replace hw := hw.1 c10
      refine lv_iconst (v := (0 : Int32)) hx hb dX6_moves__58 (by decide) ?_
      refine lv_goto (tgt := 63) hx hb dX6_moves__59 (by decide) ?_
      exact t_X6_moves__63 X Q   _ _ _ _ _ _ _ _ _ _ hw hk (lv_sub hl [3, 5, 2, 1, 0] rfl)
  · replace hw := hw.2 c9
    refine lv_iconst (v := (1 : Int32)) hx hb dX6_moves__49 (by decide) ?_
    exact k_iret X hk hw dX6_moves__50
def rm_X6_minuteEnds : Room := { frames := 1, cells := 0, slots := 0, locals := 22 }
abbrev wz_X6_minuteEnds : List Cond := Cond.code yX6_minuteEnds cX6_minuteEnds 4 none :: wsA
theorem hd_X6_minuteEnds : yX6_minuteEnds.cls = RX6 ∧ yX6_minuteEnds.cls ≠ "java/lang/invoke/MethodHandle" ∧ yX6_minuteEnds.cls ≠ "java/lang/invoke/VarHandle" ∧ (parseMethodDescriptor yX6_minuteEnds.desc).map (fun d => d.parameters.length) = some 1 := by decide +kernel
def wp_X6_minuteEnds_104 (Q : Sg → Prop) (K9 : Int32 → Int32 → Sg → Prop) (x1 x2 : Int32) (σ : Sg) : Prop := ∀ x2_12 : Int32, x2_12 = (x2 + (1 : Int32)) → (K9 x1 x2_12 σ)
set_option maxHeartbeats 4000000 in
set_option maxRecDepth 100000 in
theorem t_X6_minuteEnds_104 {p : Program} {l : Launch} {e : Env} {s : State} {m : MethodId} {args : Array Value} {below : List Frame} {meth : Method} {c : Code} {G : Gw} (X : KC p m meth c cX6_minuteEnds 4 s args wz_X6_minuteEnds RX6 none G) (Q : Sg → Prop) (K9 : Int32 → Int32 → Sg → Prop) (hK9 : ∀ (σ : Sg) (x1 x2 : Int32) (H : Heap) (locs : List Loc) (ls : Array Slot), K9 x1 x2 σ → WK G s H locs σ → lv_has ls 4 [(0, .ref (G.1 30)), (1, .int x1), (2, .int x2)] → W p l e rm_X6_minuteEnds s m args below meth c H locs 0 0 (ZV below args s G Q) (F0 m 9 ls [])) : ∀ (σ : Sg) (x1 x2 : Int32) (H : Heap) (locs : List Loc) (ls : Array Slot), wp_X6_minuteEnds_104 Q K9 x1 x2 σ → WK G s H locs σ → lv_has ls 4 [(0, .ref (G.1 30)), (1, .int x1), (2, .int x2)] → W p l e rm_X6_minuteEnds s m args below meth c H locs 0 0 (ZV below args s G Q) (F0 m 104 ls []) := by
  have hx := X.1.1
  have hb := X.1.2.1
  intro σ x1 x2 H locs ls hw hk hl
  unfold wp_X6_minuteEnds_104 at hw
  obtain ⟨x2_12, ex2_12⟩ : ∃ y : Int32, y = (x2 + (1 : Int32)) := ⟨_, rfl⟩
  replace hw := hw x2_12 ex2_12
  refine lv_iinc (v := x2_12) (lv' := [(2, .int x2_12), (0, .ref (G.1 30)), (1, .int x1)]) hx hb dX6_minuteEnds_104 hl (k := 2) rfl (by rw [ex2_12]; rfl) (Nat.le_of_ble_eq_true rfl) rfl (fun ls hl => ?_)
  refine lv_goto (tgt := 9) hx hb dX6_minuteEnds_107 (by decide) ?_
  exact hK9 _ _ _ _ _ _ hw hk (lv_sub hl [1, 2, 0] rfl)
def wp_X6_minuteEnds_9 (Q : Sg → Prop)  : Nat → Int32 → Int32 → Sg → Prop
  | 0, _, _, _ => False
  | n + 1, x1, x2, σ => wp_X6_places σ  (fun r3 σ2 => (r3 ≤ x2 → (Q σ2)) ∧ (¬ (r3 ≤ x2) → (∀ x3_5 : Int32, x3_5 = (((24 : Int32) * x1) + ((3 : Int32) * x2)) → (vp_in x2 8 ∧ (vp_in x3_5 1224 ∧ (∀ σ6 : Sg, σ6 = (put σ2 45 (x3_5).toNatClampNeg (σ2 43 (x2).toNatClampNeg)) → (vp_in x2 8 ∧ (vp_in (x3_5 + (1 : Int32)) 1224 ∧ (∀ σ7 : Sg, σ7 = (put σ6 45 ((x3_5 + (1 : Int32))).toNatClampNeg (σ6 42 (x2).toNatClampNeg)) → (vp_in x2 8 ∧ (vp_in (x3_5 + (2 : Int32)) 1224 ∧ (∀ σ8 : Sg, σ8 = (put σ7 45 ((x3_5 + (2 : Int32))).toNatClampNeg (σ7 44 (x2).toNatClampNeg)) → (vp_in x2 8 ∧ (wp_X6_ofPlace σ8 x2 (3 : Int32) (fun r10 σ9 => ((σ8 43 (x2).toNatClampNeg) ≤ r10 → (wp_X6_minuteEnds_104 Q (fun z1 z2 σ => wp_X6_minuteEnds_9 Q  n z1 z2 σ) x1 x2 σ9)) ∧ (¬ ((σ8 43 (x2).toNatClampNeg) ≤ r10) → (((σ9 30 24) = 0 → (∀ σ14 : Sg, σ14 = (put σ9 30 24 (((3 : Int32) + ((8 : Int32) * x2)) + ((1000 : Int32) * x1))) → (wp_X6_minuteEnds_104 Q (fun z1 z2 σ => wp_X6_minuteEnds_9 Q  n z1 z2 σ) x1 x2 σ14))) ∧ (¬ ((σ9 30 24) = 0) → (wp_X6_minuteEnds_104 Q (fun z1 z2 σ => wp_X6_minuteEnds_9 Q  n z1 z2 σ) x1 x2 σ9)))))))))))))))))))
set_option maxHeartbeats 4000000 in
set_option maxRecDepth 100000 in
theorem t_X6_minuteEnds_9 {p : Program} {l : Launch} {e : Env} {s : State} {m : MethodId} {args : Array Value} {below : List Frame} {meth : Method} {c : Code} {G : Gw} (X : KC p m meth c cX6_minuteEnds 4 s args wz_X6_minuteEnds RX6 none G) (Q : Sg → Prop)  : ∀ (n : Nat) (σ : Sg) (x1 x2 : Int32) (H : Heap) (locs : List Loc) (ls : Array Slot), wp_X6_minuteEnds_9 Q  n x1 x2 σ → WK G s H locs σ → lv_has ls 4 [(0, .ref (G.1 30)), (1, .int x1), (2, .int x2)] → W p l e rm_X6_minuteEnds s m args below meth c H locs 0 0 (ZV below args s G Q) (F0 m 9 ls []) := by
  have hx := X.1.1
  have hb := X.1.2.1
  intro n
  induction n with
  | zero =>
    intro σ x1 x2 H locs ls hw hk hl
    exact False.elim hw
  | succ n ih =>
    intro σ x1 x2 H locs ls hw hk hl
    rw [wp_X6_minuteEnds_9] at hw
    refine lv_iload_n hx hb dX6_minuteEnds_9 rfl (lv_at hl 2 rfl) ?_
    refine lv_aload_n hx hb dX6_minuteEnds_10 rfl (lv_at hl 0 rfl) ?_
    refine k_callVi (rest := [.int x2]) X hk (c_X6_places l G _  _ hw) (cwV 0 X.1.2.2.2.2 (gzV (aw_r15 _ (List.mem_of_getElem? (i := 14) rfl)) (aw_r15 _ (List.mem_of_getElem? (i := 15) rfl)) (aw_r15 _ (List.mem_of_getElem? (i := 16) rfl)) (aw_r1 _ (List.mem_of_getElem? (i := 5) rfl)) (aw_r15 _ (List.mem_of_getElem? (i := 17) rfl))) rfl rfl rfl hd_X6_places ⟨(Nat.le_of_ble_eq_true rfl), (Nat.le_of_ble_eq_true rfl)⟩) (wg_30 G _) rfl rfl hl.1 rfl (Nat.le_of_ble_eq_true rfl) dX6_minuteEnds_11 ⟨Nat.zero_le _, Nat.zero_le _⟩ (fun r3 σ2 H locs hw hk => ?_)
    refine lv_icmp_ge (tgt := 110) hx hb dX6_minuteEnds_14 (by decide) (fun c4 => ?_) (fun c4 => ?_)
    · replace hw := hw.1 c4
      exact k_vret X hk hw dX6_minuteEnds_110
    · replace hw := hw.2 c4
      refine lv_bipush (v := (24 : Int32)) hx hb dX6_minuteEnds_17 (by decide) ?_
      refine lv_iload_n hx hb dX6_minuteEnds_19 rfl (lv_at hl 1 rfl) ?_
      refine lv_imul hx hb dX6_minuteEnds_20 ?_
      refine lv_iconst (v := (3 : Int32)) hx hb dX6_minuteEnds_21 (by decide) ?_
      refine lv_iload_n hx hb dX6_minuteEnds_22 rfl (lv_at hl 2 rfl) ?_
      refine lv_imul hx hb dX6_minuteEnds_23 ?_
      refine lv_iadd hx hb dX6_minuteEnds_24 ?_
      refine lv_topi (fun x3_5 ex3_5 => ?_)
      replace hw := hw x3_5 ex3_5
      refine lv_istore_n (lv' := [(3, .int x3_5), (0, .ref (G.1 30)), (1, .int x1), (2, .int x2)]) hx hb dX6_minuteEnds_25 rfl hl (Nat.le_of_ble_eq_true rfl) rfl (fun ls hl => ?_)
      refine lv_aload_n hx hb dX6_minuteEnds_26 rfl (lv_at hl 1 rfl) ?_
      refine k_get 21 X hk (wg_30 G _) rfl (hz_wsX60 _) (Nat.le_of_ble_eq_true rfl) (List.mem_cons_of_mem _ (aw_r5 _ (List.mem_of_getElem? (i := 7) rfl))) rfl dX6_minuteEnds_27 ?_
      refine lv_iload_n hx hb dX6_minuteEnds_30 rfl (lv_at hl 0 rfl) ?_
      refine lv_aload_n hx hb dX6_minuteEnds_31 rfl (lv_at hl 1 rfl) ?_
      refine k_get 19 X hk (wg_30 G _) rfl (hz_wsX60 _) (Nat.le_of_ble_eq_true rfl) (List.mem_cons_of_mem _ (aw_r5 _ (List.mem_of_getElem? (i := 5) rfl))) rfl dX6_minuteEnds_32 ?_
      refine lv_iload_n hx hb dX6_minuteEnds_35 rfl (lv_at hl 3 rfl) ?_
      refine k_iald X hk (wg_43 G _) hw.1 dX6_minuteEnds_36 ?_
      replace hw := hw.2
      refine k_iast X hk (wg_45 G _) (ws_45 G _) rfl hw.1 dX6_minuteEnds_37 (fun H locs hk => ?_)
      replace hw := hw.2
      obtain ⟨σ6, eσ6⟩ : ∃ y : Sg, y = (put σ2 45 (x3_5).toNatClampNeg (σ2 43 (x2).toNatClampNeg)) := ⟨_, rfl⟩
      rw [← eσ6] at hk
      replace hw := hw σ6 eσ6
      refine lv_aload_n hx hb dX6_minuteEnds_38 rfl (lv_at hl 1 rfl) ?_
      refine k_get 21 X hk (wg_30 G _) rfl (hz_wsX60 _) (Nat.le_of_ble_eq_true rfl) (List.mem_cons_of_mem _ (aw_r5 _ (List.mem_of_getElem? (i := 7) rfl))) rfl dX6_minuteEnds_39 ?_
      refine lv_iload_n hx hb dX6_minuteEnds_42 rfl (lv_at hl 0 rfl) ?_
      refine lv_iconst (v := (1 : Int32)) hx hb dX6_minuteEnds_43 (by decide) ?_
      refine lv_iadd hx hb dX6_minuteEnds_44 ?_
      refine lv_aload_n hx hb dX6_minuteEnds_45 rfl (lv_at hl 1 rfl) ?_
      refine k_get 18 X hk (wg_30 G _) rfl (hz_wsX60 _) (Nat.le_of_ble_eq_true rfl) (List.mem_cons_of_mem _ (aw_r5 _ (List.mem_of_getElem? (i := 4) rfl))) rfl dX6_minuteEnds_46 ?_
      refine lv_iload_n hx hb dX6_minuteEnds_49 rfl (lv_at hl 3 rfl) ?_
      refine k_iald X hk (wg_42 G _) hw.1 dX6_minuteEnds_50 ?_
      replace hw := hw.2
      refine k_iast X hk (wg_45 G _) (ws_45 G _) rfl hw.1 dX6_minuteEnds_51 (fun H locs hk => ?_)
      replace hw := hw.2
      obtain ⟨σ7, eσ7⟩ : ∃ y : Sg, y = (put σ6 45 ((x3_5 + (1 : Int32))).toNatClampNeg (σ6 42 (x2).toNatClampNeg)) := ⟨_, rfl⟩
      rw [← eσ7] at hk
      replace hw := hw σ7 eσ7
      refine lv_aload_n hx hb dX6_minuteEnds_52 rfl (lv_at hl 1 rfl) ?_
      refine k_get 21 X hk (wg_30 G _) rfl (hz_wsX60 _) (Nat.le_of_ble_eq_true rfl) (List.mem_cons_of_mem _ (aw_r5 _ (List.mem_of_getElem? (i := 7) rfl))) rfl dX6_minuteEnds_53 ?_
      refine lv_iload_n hx hb dX6_minuteEnds_56 rfl (lv_at hl 0 rfl) ?_
      refine lv_iconst (v := (2 : Int32)) hx hb dX6_minuteEnds_57 (by decide) ?_
      refine lv_iadd hx hb dX6_minuteEnds_58 ?_
      refine lv_aload_n hx hb dX6_minuteEnds_59 rfl (lv_at hl 1 rfl) ?_
      refine k_get 20 X hk (wg_30 G _) rfl (hz_wsX60 _) (Nat.le_of_ble_eq_true rfl) (List.mem_cons_of_mem _ (aw_r5 _ (List.mem_of_getElem? (i := 6) rfl))) rfl dX6_minuteEnds_60 ?_
      refine lv_iload_n hx hb dX6_minuteEnds_63 rfl (lv_at hl 3 rfl) ?_
      refine k_iald X hk (wg_44 G _) hw.1 dX6_minuteEnds_64 ?_
      replace hw := hw.2
      refine k_iast X hk (wg_45 G _) (ws_45 G _) rfl hw.1 dX6_minuteEnds_65 (fun H locs hk => ?_)
      replace hw := hw.2
      obtain ⟨σ8, eσ8⟩ : ∃ y : Sg, y = (put σ7 45 ((x3_5 + (2 : Int32))).toNatClampNeg (σ7 44 (x2).toNatClampNeg)) := ⟨_, rfl⟩
      rw [← eσ8] at hk
      replace hw := hw σ8 eσ8
      refine lv_aload_n hx hb dX6_minuteEnds_66 rfl (lv_at hl 1 rfl) ?_
      refine k_get 19 X hk (wg_30 G _) rfl (hz_wsX60 _) (Nat.le_of_ble_eq_true rfl) (List.mem_cons_of_mem _ (aw_r5 _ (List.mem_of_getElem? (i := 5) rfl))) rfl dX6_minuteEnds_67 ?_
      refine lv_iload_n hx hb dX6_minuteEnds_70 rfl (lv_at hl 3 rfl) ?_
      refine k_iald X hk (wg_43 G _) hw.1 dX6_minuteEnds_71 ?_
      replace hw := hw.2
      refine lv_aload_n hx hb dX6_minuteEnds_72 rfl (lv_at hl 1 rfl) ?_
      refine lv_iload_n hx hb dX6_minuteEnds_73 rfl (lv_at hl 3 rfl) ?_
      refine lv_iconst (v := (3 : Int32)) hx hb dX6_minuteEnds_74 (by decide) ?_
      refine k_callVi (rest := [.int (σ8 43 (x2).toNatClampNeg)]) X hk (c_X6_ofPlace l G _ _ _ _ hw) (cwV 2 X.1.2.2.2.2 (gzV (aw_r21 _ (List.mem_of_getElem? (i := 4) rfl)) (aw_r21 _ (List.mem_of_getElem? (i := 5) rfl)) (aw_r21 _ (List.mem_of_getElem? (i := 6) rfl)) (aw_r1 _ (List.mem_of_getElem? (i := 5) rfl)) (aw_r21 _ (List.mem_of_getElem? (i := 7) rfl))) rfl rfl rfl hd_X6_ofPlace ⟨(Nat.le_of_ble_eq_true rfl), (Nat.le_of_ble_eq_true rfl)⟩) (wg_30 G _) rfl rfl hl.1 rfl (Nat.le_of_ble_eq_true rfl) dX6_minuteEnds_75 ⟨Nat.zero_le _, Nat.zero_le _⟩ (fun r10 σ9 H locs hw hk => ?_)
      refine lv_icmp_le (tgt := 104) hx hb dX6_minuteEnds_78 (by decide) (fun c11 => ?_) (fun c11 => ?_)
      · replace hw := hw.1 c11
        exact t_X6_minuteEnds_104 X Q _ ih _ _ _ _ _ _ hw hk (lv_sub hl [1, 2, 3] rfl)
      · replace hw := hw.2 c11
        refine lv_aload_n hx hb dX6_minuteEnds_81 rfl (lv_at hl 1 rfl) ?_
        refine k_get 24 X hk (wg_30 G _) rfl (hz_wsX60 _) (Nat.le_of_ble_eq_true rfl) (List.mem_cons_of_mem _ (aw_r43 _ (List.mem_of_getElem? (i := 15) rfl))) rfl dX6_minuteEnds_82 ?_
        refine lv_if_ne (tgt := 104) hx hb dX6_minuteEnds_85 (by decide) (fun c13 => ?_) (fun c13 => ?_)
        · replace hw := hw.2 c13
          exact t_X6_minuteEnds_104 X Q _ ih _ _ _ _ _ _ hw hk (lv_sub hl [1, 2, 3] rfl)
        · replace hw := hw.1 c13
          refine lv_aload_n hx hb dX6_minuteEnds_88 rfl (lv_at hl 1 rfl) ?_
          refine lv_iconst (v := (3 : Int32)) hx hb dX6_minuteEnds_89 (by decide) ?_
          refine lv_bipush (v := (8 : Int32)) hx hb dX6_minuteEnds_90 (by decide) ?_
          refine lv_iload_n hx hb dX6_minuteEnds_92 rfl (lv_at hl 3 rfl) ?_
          refine lv_imul hx hb dX6_minuteEnds_93 ?_
          refine lv_iadd hx hb dX6_minuteEnds_94 ?_
          refine lv_sipush (v := (1000 : Int32)) hx hb dX6_minuteEnds_95 (by decide) ?_
          refine lv_iload_n hx hb dX6_minuteEnds_98 rfl (lv_at hl 2 rfl) ?_
          refine lv_imul hx hb dX6_minuteEnds_99 ?_
          refine lv_iadd hx hb dX6_minuteEnds_100 ?_
          refine k_put 24 X hk (wg_30 G _) rfl (hz_wsX60 _) tyX6_ok nmX6 (Nat.le_of_ble_eq_true rfl) (List.mem_cons_of_mem _ (aw_r43 _ (List.mem_of_getElem? (i := 15) rfl))) rfl rfl (Nat.le_of_ble_eq_true rfl) (ws_30_24 G _ _) dX6_minuteEnds_101 (fun H locs hk => ?_)
          obtain ⟨σ14, eσ14⟩ : ∃ y : Sg, y = (put σ9 30 24 (((3 : Int32) + ((8 : Int32) * x2)) + ((1000 : Int32) * x1))) := ⟨_, rfl⟩
          rw [← eσ14] at hk
          replace hw := hw σ14 eσ14
          exact t_X6_minuteEnds_104 X Q _ ih _ _ _ _ _ _ hw hk (lv_sub hl [1, 2, 3] rfl)
def wp_X6_minuteEnds (σ : Sg) (p1 : Int32) (Q : Sg → Prop) : Prop := ∀ σ1 : Sg, σ1 = (put σ 30 25 (p1 + (1 : Int32))) → (∃ n0, wp_X6_minuteEnds_9 Q  n0 p1 (0 : Int32) σ1)
set_option maxHeartbeats 4000000 in
set_option maxRecDepth 100000 in
theorem c_X6_minuteEnds (l : Launch) (G : Gw) (σ : Sg) (p1 : Int32) (Q : Sg → Prop) (hw : wp_X6_minuteEnds σ p1 Q) : MetV l yX6_minuteEnds wz_X6_minuteEnds rm_X6_minuteEnds G σ [.ref (G.1 30), .int p1] Q := by
  refine MetV.of cX6_minuteEnds 4 none (by decide) rfl (Nat.le_of_ble_eq_true rfl) ?_
  intro p e s m below meth c X hk ls hl
  have X : KC p m meth c cX6_minuteEnds 4 s _ wz_X6_minuteEnds RX6 none G := X
  have hl : lv_has ls 4 [(0, .ref (G.1 30)), (1, .int p1)] := hl
  unfold wp_X6_minuteEnds at hw
  have hx := X.1.1
  have hb := X.1.2.1
  refine lv_aload_n hx hb dX6_minuteEnds_0 rfl (lv_at hl 0 rfl) ?_
  refine lv_iload_n hx hb dX6_minuteEnds_1 rfl (lv_at hl 1 rfl) ?_
  refine lv_iconst (v := (1 : Int32)) hx hb dX6_minuteEnds_2 (by decide) ?_
  refine lv_iadd hx hb dX6_minuteEnds_3 ?_
  refine k_put 25 X hk (wg_30 G _) rfl (hz_wsX60 _) tyX6_ok nmX6 (Nat.le_of_ble_eq_true rfl) (List.mem_cons_of_mem _ (aw_r43 _ (List.mem_of_getElem? (i := 20) rfl))) rfl rfl (Nat.le_of_ble_eq_true rfl) (ws_30_25 G _ _) dX6_minuteEnds_4 (fun H locs hk => ?_)
  obtain ⟨σ1, eσ1⟩ : ∃ y : Sg, y = (put σ 30 25 (p1 + (1 : Int32))) := ⟨_, rfl⟩
  rw [← eσ1] at hk
  replace hw := hw σ1 eσ1
  refine lv_iconst (v := (0 : Int32)) hx hb dX6_minuteEnds_7 (by decide) ?_
  refine lv_istore_n (lv' := [(2, .int (0 : Int32)), (0, .ref (G.1 30)), (1, .int p1)]) hx hb dX6_minuteEnds_8 rfl hl (Nat.le_of_ble_eq_true rfl) rfl (fun ls hl => ?_)
  obtain ⟨n0, hw⟩ := hw
  exact t_X6_minuteEnds_9 X Q   n0 _ _ _ _ _ _ hw hk (lv_sub hl [1, 2, 0] rfl)
def rm_X6_goes : Room := { frames := 3, cells := 0, slots := 0, locals := 71 }
abbrev wz_X6_goes : List Cond := Cond.code yX6_goes cX6_goes 5 none :: wsA
theorem hd_X6_goes : yX6_goes.cls = RX6 ∧ yX6_goes.cls ≠ "java/lang/invoke/MethodHandle" ∧ yX6_goes.cls ≠ "java/lang/invoke/VarHandle" ∧ (parseMethodDescriptor yX6_goes.desc).map (fun d => d.parameters.length) = some 1 := by decide +kernel
def wp_X6_goes_255 (Q : Sg → Prop) (K96 : Int32 → Int32 → Sg → Prop) (x1 x2 : Int32) (σ : Sg) : Prop := ∀ x2_17 : Int32, x2_17 = (x2 + (1 : Int32)) → (K96 x1 x2_17 σ)
set_option maxHeartbeats 4000000 in
set_option maxRecDepth 100000 in
theorem t_X6_goes_255 {p : Program} {l : Launch} {e : Env} {s : State} {m : MethodId} {args : Array Value} {below : List Frame} {meth : Method} {c : Code} {G : Gw} (X : KC p m meth c cX6_goes 5 s args wz_X6_goes RX6 none G) (Q : Sg → Prop) (K96 : Int32 → Int32 → Sg → Prop) (hK96 : ∀ (σ : Sg) (x1 x2 : Int32) (H : Heap) (locs : List Loc) (ls : Array Slot), K96 x1 x2 σ → WK G s H locs σ → lv_has ls 5 [(0, .ref (G.1 30)), (1, .int x1), (2, .int x2)] → W p l e rm_X6_goes s m args below meth c H locs 0 0 (ZV below args s G Q) (F0 m 96 ls [])) : ∀ (σ : Sg) (x1 x2 : Int32) (H : Heap) (locs : List Loc) (ls : Array Slot), wp_X6_goes_255 Q K96 x1 x2 σ → WK G s H locs σ → lv_has ls 5 [(0, .ref (G.1 30)), (1, .int x1), (2, .int x2)] → W p l e rm_X6_goes s m args below meth c H locs 0 0 (ZV below args s G Q) (F0 m 255 ls []) := by
  have hx := X.1.1
  have hb := X.1.2.1
  intro σ x1 x2 H locs ls hw hk hl
  unfold wp_X6_goes_255 at hw
  obtain ⟨x2_17, ex2_17⟩ : ∃ y : Int32, y = (x2 + (1 : Int32)) := ⟨_, rfl⟩
  replace hw := hw x2_17 ex2_17
  refine lv_iinc (v := x2_17) (lv' := [(2, .int x2_17), (0, .ref (G.1 30)), (1, .int x1)]) hx hb dX6_goes_255 hl (k := 2) rfl (by rw [ex2_17]; rfl) (Nat.le_of_ble_eq_true rfl) rfl (fun ls hl => ?_)
  refine lv_goto (tgt := 96) hx hb dX6_goes_258 (by decide) ?_
  exact hK96 _ _ _ _ _ _ hw hk (lv_sub hl [1, 2, 0] rfl)
def wp_X6_goes_243 (Q : Sg → Prop) (K96 : Int32 → Int32 → Sg → Prop) (x1 x2 : Int32) (σ : Sg) : Prop := ((σ 30 23) = 0 → (wp_X6_minuteEnds σ x2 (fun σ18 => wp_X6_goes_255 Q K96 x1 x2 σ18))) ∧ (¬ ((σ 30 23) = 0) → (wp_X6_goes_255 Q K96 x1 x2 σ))
set_option maxHeartbeats 4000000 in
set_option maxRecDepth 100000 in
theorem t_X6_goes_243 {p : Program} {l : Launch} {e : Env} {s : State} {m : MethodId} {args : Array Value} {below : List Frame} {meth : Method} {c : Code} {G : Gw} (X : KC p m meth c cX6_goes 5 s args wz_X6_goes RX6 none G) (Q : Sg → Prop) (K96 : Int32 → Int32 → Sg → Prop) (hK96 : ∀ (σ : Sg) (x1 x2 : Int32) (H : Heap) (locs : List Loc) (ls : Array Slot), K96 x1 x2 σ → WK G s H locs σ → lv_has ls 5 [(0, .ref (G.1 30)), (1, .int x1), (2, .int x2)] → W p l e rm_X6_goes s m args below meth c H locs 0 0 (ZV below args s G Q) (F0 m 96 ls [])) : ∀ (σ : Sg) (x1 x2 : Int32) (H : Heap) (locs : List Loc) (ls : Array Slot), wp_X6_goes_243 Q K96 x1 x2 σ → WK G s H locs σ → lv_has ls 5 [(0, .ref (G.1 30)), (1, .int x1), (2, .int x2)] → W p l e rm_X6_goes s m args below meth c H locs 0 0 (ZV below args s G Q) (F0 m 243 ls []) := by
  have hx := X.1.1
  have hb := X.1.2.1
  intro σ x1 x2 H locs ls hw hk hl
  unfold wp_X6_goes_243 at hw
  refine lv_aload_n hx hb dX6_goes_243 rfl (lv_at hl 0 rfl) ?_
  refine k_get 23 X hk (wg_30 G _) rfl (hz_wsX60 _) (Nat.le_of_ble_eq_true rfl) (List.mem_cons_of_mem _ (aw_r43 _ (List.mem_of_getElem? (i := 14) rfl))) rfl dX6_goes_244 ?_
  refine lv_if_ne (tgt := 255) hx hb dX6_goes_247 (by decide) (fun c16 => ?_) (fun c16 => ?_)
  · replace hw := hw.2 c16
    exact t_X6_goes_255 X Q _ hK96 _ _ _ _ _ _ hw hk hl
  · replace hw := hw.1 c16
    refine lv_aload_n hx hb dX6_goes_250 rfl (lv_at hl 0 rfl) ?_
    refine lv_iload_n hx hb dX6_goes_251 rfl (lv_at hl 2 rfl) ?_
    refine k_callVv (rest := []) X hk (c_X6_minuteEnds l G _ _ _ hw) (cwV 1 X.1.2.2.2.2 (gzV (aw_r44 _ (List.mem_of_getElem? (i := 10) rfl)) (aw_r44 _ (List.mem_of_getElem? (i := 11) rfl)) (aw_r44 _ (List.mem_of_getElem? (i := 12) rfl)) (aw_r1 _ (List.mem_of_getElem? (i := 5) rfl)) (aw_r44 _ (List.mem_of_getElem? (i := 13) rfl))) rfl rfl rfl hd_X6_minuteEnds ⟨(Nat.le_of_ble_eq_true rfl), (Nat.le_of_ble_eq_true rfl)⟩) (wg_30 G _) rfl rfl hl.1 rfl (Nat.le_of_ble_eq_true rfl) dX6_goes_252 ⟨Nat.zero_le _, Nat.zero_le _⟩ (fun σ18 H locs hw hk => ?_)
    exact t_X6_goes_255 X Q _ hK96 _ _ _ _ _ _ hw hk hl
def wp_X6_goes_237 (Q : Sg → Prop) (K96 : Int32 → Int32 → Sg → Prop) (K185 : Int32 → Int32 → Int32 → Sg → Prop) (x1 x2 x3 : Int32) (σ : Sg) : Prop := ∀ x3_27 : Int32, x3_27 = (x3 + (1 : Int32)) → (K185 x1 x2 x3_27 σ)
set_option maxHeartbeats 4000000 in
set_option maxRecDepth 100000 in
theorem t_X6_goes_237 {p : Program} {l : Launch} {e : Env} {s : State} {m : MethodId} {args : Array Value} {below : List Frame} {meth : Method} {c : Code} {G : Gw} (X : KC p m meth c cX6_goes 5 s args wz_X6_goes RX6 none G) (Q : Sg → Prop) (K96 : Int32 → Int32 → Sg → Prop) (K185 : Int32 → Int32 → Int32 → Sg → Prop) (hK96 : ∀ (σ : Sg) (x1 x2 : Int32) (H : Heap) (locs : List Loc) (ls : Array Slot), K96 x1 x2 σ → WK G s H locs σ → lv_has ls 5 [(0, .ref (G.1 30)), (1, .int x1), (2, .int x2)] → W p l e rm_X6_goes s m args below meth c H locs 0 0 (ZV below args s G Q) (F0 m 96 ls [])) (hK185 : ∀ (σ : Sg) (x1 x2 x3 : Int32) (H : Heap) (locs : List Loc) (ls : Array Slot), K185 x1 x2 x3 σ → WK G s H locs σ → lv_has ls 5 [(0, .ref (G.1 30)), (1, .int x1), (2, .int x2), (3, .int x3)] → W p l e rm_X6_goes s m args below meth c H locs 0 0 (ZV below args s G Q) (F0 m 185 ls [])) : ∀ (σ : Sg) (x1 x2 x3 : Int32) (H : Heap) (locs : List Loc) (ls : Array Slot), wp_X6_goes_237 Q K96 K185 x1 x2 x3 σ → WK G s H locs σ → lv_has ls 5 [(0, .ref (G.1 30)), (1, .int x1), (2, .int x2), (3, .int x3)] → W p l e rm_X6_goes s m args below meth c H locs 0 0 (ZV below args s G Q) (F0 m 237 ls []) := by
  have hx := X.1.1
  have hb := X.1.2.1
  intro σ x1 x2 x3 H locs ls hw hk hl
  unfold wp_X6_goes_237 at hw
  obtain ⟨x3_27, ex3_27⟩ : ∃ y : Int32, y = (x3 + (1 : Int32)) := ⟨_, rfl⟩
  replace hw := hw x3_27 ex3_27
  refine lv_iinc (v := x3_27) (lv' := [(3, .int x3_27), (0, .ref (G.1 30)), (1, .int x1), (2, .int x2)]) hx hb dX6_goes_237 hl (k := 3) rfl (by rw [ex3_27]; rfl) (Nat.le_of_ble_eq_true rfl) rfl (fun ls hl => ?_)
  refine lv_goto (tgt := 185) hx hb dX6_goes_240 (by decide) ?_
  exact hK185 _ _ _ _ _ _ _ hw hk (lv_sub hl [1, 2, 3, 0] rfl)
def wp_X6_goes_185 (Q : Sg → Prop) (K96 : Int32 → Int32 → Sg → Prop) : Nat → Int32 → Int32 → Int32 → Sg → Prop
  | 0, _, _, _, _ => False
  | n + 1, x1, x2, x3, σ => wp_X6_moves σ  (fun r14 σ13 => (r14 ≤ x3 → (wp_X6_goes_243 Q K96 x1 x2 σ13)) ∧ (¬ (r14 ≤ x3) → (((σ13 30 23) = 0 → (wp_X6_ofMove σ13 x3 (0 : Int32) (fun r22 σ21 => (r22 = x2 → (wp_X6_moves_ σ21 x3 x2 (fun r25 σ24 => (r25 = 0 → (wp_X6_goes_237 Q K96 (fun z1 z2 z3 σ => wp_X6_goes_185 Q K96 n z1 z2 z3 σ) x1 x2 x3 σ24)) ∧ (¬ (r25 = 0) → (∀ σ28 : Sg, σ28 = (put σ24 30 23 (r25 + ((8 : Int32) * x3))) → (wp_X6_goes_237 Q K96 (fun z1 z2 z3 σ => wp_X6_goes_185 Q K96 n z1 z2 z3 σ) x1 x2 x3 σ28)))))) ∧ (¬ (r22 = x2) → (wp_X6_goes_237 Q K96 (fun z1 z2 z3 σ => wp_X6_goes_185 Q K96 n z1 z2 z3 σ) x1 x2 x3 σ21))))) ∧ (¬ ((σ13 30 23) = 0) → (wp_X6_goes_243 Q K96 x1 x2 σ13)))))
set_option maxHeartbeats 4000000 in
set_option maxRecDepth 100000 in
theorem t_X6_goes_185 {p : Program} {l : Launch} {e : Env} {s : State} {m : MethodId} {args : Array Value} {below : List Frame} {meth : Method} {c : Code} {G : Gw} (X : KC p m meth c cX6_goes 5 s args wz_X6_goes RX6 none G) (Q : Sg → Prop) (K96 : Int32 → Int32 → Sg → Prop) (hK96 : ∀ (σ : Sg) (x1 x2 : Int32) (H : Heap) (locs : List Loc) (ls : Array Slot), K96 x1 x2 σ → WK G s H locs σ → lv_has ls 5 [(0, .ref (G.1 30)), (1, .int x1), (2, .int x2)] → W p l e rm_X6_goes s m args below meth c H locs 0 0 (ZV below args s G Q) (F0 m 96 ls [])) : ∀ (n : Nat) (σ : Sg) (x1 x2 x3 : Int32) (H : Heap) (locs : List Loc) (ls : Array Slot), wp_X6_goes_185 Q K96 n x1 x2 x3 σ → WK G s H locs σ → lv_has ls 5 [(0, .ref (G.1 30)), (1, .int x1), (2, .int x2), (3, .int x3)] → W p l e rm_X6_goes s m args below meth c H locs 0 0 (ZV below args s G Q) (F0 m 185 ls []) := by
  have hx := X.1.1
  have hb := X.1.2.1
  intro n
  induction n with
  | zero =>
    intro σ x1 x2 x3 H locs ls hw hk hl
    exact False.elim hw
  | succ n ih =>
    intro σ x1 x2 x3 H locs ls hw hk hl
    rw [wp_X6_goes_185] at hw
    refine lv_iload_n hx hb dX6_goes_185 rfl (lv_at hl 3 rfl) ?_
    refine lv_aload_n hx hb dX6_goes_186 rfl (lv_at hl 0 rfl) ?_
    refine k_callVi (rest := [.int x3]) X hk (c_X6_moves l G _  _ hw) (cwV 0 X.1.2.2.2.2 (gzV (aw_r18 _ (List.mem_of_getElem? (i := 2) rfl)) (aw_r18 _ (List.mem_of_getElem? (i := 3) rfl)) (aw_r18 _ (List.mem_of_getElem? (i := 4) rfl)) (aw_r1 _ (List.mem_of_getElem? (i := 5) rfl)) (aw_r18 _ (List.mem_of_getElem? (i := 5) rfl))) rfl rfl rfl hd_X6_moves ⟨(Nat.le_of_ble_eq_true rfl), (Nat.le_of_ble_eq_true rfl)⟩) (wg_30 G _) rfl rfl hl.1 rfl (Nat.le_of_ble_eq_true rfl) dX6_goes_187 ⟨Nat.zero_le _, Nat.zero_le _⟩ (fun r14 σ13 H locs hw hk => ?_)
    refine lv_icmp_ge (tgt := 243) hx hb dX6_goes_190 (by decide) (fun c15 => ?_) (fun c15 => ?_)
    · replace hw := hw.1 c15
      exact t_X6_goes_243 X Q _ hK96 _ _ _ _ _ _ hw hk (lv_sub hl [0, 1, 2] rfl)
    · replace hw := hw.2 c15
      refine lv_aload_n hx hb dX6_goes_193 rfl (lv_at hl 0 rfl) ?_
      refine k_get 23 X hk (wg_30 G _) rfl (hz_wsX60 _) (Nat.le_of_ble_eq_true rfl) (List.mem_cons_of_mem _ (aw_r43 _ (List.mem_of_getElem? (i := 14) rfl))) rfl dX6_goes_194 ?_
      refine lv_if_ne (tgt := 243) hx hb dX6_goes_197 (by decide) (fun c20 => ?_) (fun c20 => ?_)
      · replace hw := hw.2 c20
        exact t_X6_goes_243 X Q _ hK96 _ _ _ _ _ _ hw hk (lv_sub hl [0, 1, 2] rfl)
      · replace hw := hw.1 c20
        refine lv_aload_n hx hb dX6_goes_200 rfl (lv_at hl 0 rfl) ?_
        refine lv_iload_n hx hb dX6_goes_201 rfl (lv_at hl 3 rfl) ?_
        refine lv_iconst (v := (0 : Int32)) hx hb dX6_goes_202 (by decide) ?_
        refine k_callVi (rest := []) X hk (c_X6_ofMove l G _ _ _ _ hw) (cwV 2 X.1.2.2.2.2 (gzV (aw_r22 _ (List.mem_of_getElem? (i := 1) rfl)) (aw_r22 _ (List.mem_of_getElem? (i := 2) rfl)) (aw_r22 _ (List.mem_of_getElem? (i := 3) rfl)) (aw_r1 _ (List.mem_of_getElem? (i := 5) rfl)) (aw_r22 _ (List.mem_of_getElem? (i := 4) rfl))) rfl rfl rfl hd_X6_ofMove ⟨(Nat.le_of_ble_eq_true rfl), (Nat.le_of_ble_eq_true rfl)⟩) (wg_30 G _) rfl rfl hl.1 rfl (Nat.le_of_ble_eq_true rfl) dX6_goes_203 ⟨Nat.zero_le _, Nat.zero_le _⟩ (fun r22 σ21 H locs hw hk => ?_)
        refine lv_iload_n hx hb dX6_goes_206 rfl (lv_at hl 2 rfl) ?_
        refine lv_icmp_eq (tgt := 213) hx hb dX6_goes_207 (by decide) (fun c23 => ?_) (fun c23 => ?_)
        · replace hw := hw.1 c23
          refine lv_aload_n hx hb dX6_goes_213 rfl (lv_at hl 0 rfl) ?_
          refine lv_iload_n hx hb dX6_goes_214 rfl (lv_at hl 3 rfl) ?_
          refine lv_iload_n hx hb dX6_goes_215 rfl (lv_at hl 2 rfl) ?_
          refine k_callVi (rest := []) X hk (c_X6_moves_ l G _ _ _ _ hw) (cwV 2 X.1.2.2.2.2 (gzV (aw_r44 _ (List.mem_of_getElem? (i := 6) rfl)) (aw_r44 _ (List.mem_of_getElem? (i := 7) rfl)) (aw_r44 _ (List.mem_of_getElem? (i := 8) rfl)) (aw_r1 _ (List.mem_of_getElem? (i := 5) rfl)) (aw_r44 _ (List.mem_of_getElem? (i := 9) rfl))) rfl rfl rfl hd_X6_moves_ ⟨(Nat.le_of_ble_eq_true rfl), (Nat.le_of_ble_eq_true rfl)⟩) (wg_30 G _) rfl rfl hl.1 rfl (Nat.le_of_ble_eq_true rfl) dX6_goes_216 ⟨Nat.zero_le _, Nat.zero_le _⟩ (fun r25 σ24 H locs hw hk => ?_)
          refine lv_istore (lv' := [(4, .int r25), (0, .ref (G.1 30)), (1, .int x1), (2, .int x2), (3, .int x3)]) hx hb dX6_goes_219 hl (Nat.le_of_ble_eq_true rfl) rfl (fun ls hl => ?_)
          refine lv_iload hx hb dX6_goes_221 (lv_at hl 0 rfl) ?_
          refine lv_if_eq (tgt := 237) hx hb dX6_goes_223 (by decide) (fun c26 => ?_) (fun c26 => ?_)
          · replace hw := hw.1 c26
            exact t_X6_goes_237 X Q _ _ hK96 ih _ _ _ _ _ _ _ hw hk (lv_sub hl [1, 2, 3, 4] rfl)
          · replace hw := hw.2 c26
            refine lv_aload_n hx hb dX6_goes_226 rfl (lv_at hl 1 rfl) ?_
            refine lv_iload hx hb dX6_goes_227 (lv_at hl 0 rfl) ?_
            refine lv_bipush (v := (8 : Int32)) hx hb dX6_goes_229 (by decide) ?_
            refine lv_iload_n hx hb dX6_goes_231 rfl (lv_at hl 4 rfl) ?_
            refine lv_imul hx hb dX6_goes_232 ?_
            refine lv_iadd hx hb dX6_goes_233 ?_
            refine k_put 23 X hk (wg_30 G _) rfl (hz_wsX60 _) tyX6_ok nmX6 (Nat.le_of_ble_eq_true rfl) (List.mem_cons_of_mem _ (aw_r43 _ (List.mem_of_getElem? (i := 14) rfl))) rfl rfl (Nat.le_of_ble_eq_true rfl) (ws_30_23 G _ _) dX6_goes_234 (fun H locs hk => ?_)
            obtain ⟨σ28, eσ28⟩ : ∃ y : Sg, y = (put σ24 30 23 (r25 + ((8 : Int32) * x3))) := ⟨_, rfl⟩
            rw [← eσ28] at hk
            replace hw := hw σ28 eσ28
            exact t_X6_goes_237 X Q _ _ hK96 ih _ _ _ _ _ _ _ hw hk (lv_sub hl [1, 2, 3, 4] rfl)
        · replace hw := hw.2 c23
          refine lv_goto (tgt := 237) hx hb dX6_goes_210 (by decide) ?_
          exact t_X6_goes_237 X Q _ _ hK96 ih _ _ _ _ _ _ _ hw hk hl
def wp_X6_goes_164 (Q : Sg → Prop) (K96 : Int32 → Int32 → Sg → Prop) : Nat → Int32 → Int32 → Int32 → Sg → Prop
  | 0, _, _, _, _ => False
  | n + 1, x1, x2, x3, σ => ((24 : Int32) ≤ x3 → (∃ n0, wp_X6_goes_185 Q K96 n0 x1 x2 (0 : Int32) σ)) ∧ (¬ ((24 : Int32) ≤ x3) → (vp_in x3 24 ∧ (∀ σ29 : Sg, σ29 = (put σ 46 (x3).toNatClampNeg (0 : Int32)) → (∀ x3_30 : Int32, x3_30 = (x3 + (1 : Int32)) → (wp_X6_goes_164 Q K96 n x1 x2 x3_30 σ29)))))
set_option maxHeartbeats 4000000 in
set_option maxRecDepth 100000 in
theorem t_X6_goes_164 {p : Program} {l : Launch} {e : Env} {s : State} {m : MethodId} {args : Array Value} {below : List Frame} {meth : Method} {c : Code} {G : Gw} (X : KC p m meth c cX6_goes 5 s args wz_X6_goes RX6 none G) (Q : Sg → Prop) (K96 : Int32 → Int32 → Sg → Prop) (hK96 : ∀ (σ : Sg) (x1 x2 : Int32) (H : Heap) (locs : List Loc) (ls : Array Slot), K96 x1 x2 σ → WK G s H locs σ → lv_has ls 5 [(0, .ref (G.1 30)), (1, .int x1), (2, .int x2)] → W p l e rm_X6_goes s m args below meth c H locs 0 0 (ZV below args s G Q) (F0 m 96 ls [])) : ∀ (n : Nat) (σ : Sg) (x1 x2 x3 : Int32) (H : Heap) (locs : List Loc) (ls : Array Slot), wp_X6_goes_164 Q K96 n x1 x2 x3 σ → WK G s H locs σ → lv_has ls 5 [(0, .ref (G.1 30)), (1, .int x1), (2, .int x2), (3, .int x3)] → W p l e rm_X6_goes s m args below meth c H locs 0 0 (ZV below args s G Q) (F0 m 164 ls []) := by
  have hx := X.1.1
  have hb := X.1.2.1
  intro n
  induction n with
  | zero =>
    intro σ x1 x2 x3 H locs ls hw hk hl
    exact False.elim hw
  | succ n ih =>
    intro σ x1 x2 x3 H locs ls hw hk hl
    rw [wp_X6_goes_164] at hw
    refine lv_iload_n hx hb dX6_goes_164 rfl (lv_at hl 3 rfl) ?_
    refine lv_bipush (v := (24 : Int32)) hx hb dX6_goes_165 (by decide) ?_
    refine lv_icmp_ge (tgt := 183) hx hb dX6_goes_167 (by decide) (fun c12 => ?_) (fun c12 => ?_)
    · replace hw := hw.1 c12
      refine lv_iconst (v := (0 : Int32)) hx hb dX6_goes_183 (by decide) ?_
      refine lv_istore_n (lv' := [(3, .int (0 : Int32)), (0, .ref (G.1 30)), (1, .int x1), (2, .int x2)]) hx hb dX6_goes_184 rfl hl (Nat.le_of_ble_eq_true rfl) rfl (fun ls hl => ?_)
      obtain ⟨n0, hw⟩ := hw
      exact t_X6_goes_185 X Q _ hK96 n0 _ _ _ _ _ _ _ hw hk (lv_sub hl [1, 2, 3, 0] rfl)
    · replace hw := hw.2 c12
      refine lv_aload_n hx hb dX6_goes_170 rfl (lv_at hl 0 rfl) ?_
      refine k_get 22 X hk (wg_30 G _) rfl (hz_wsX60 _) (Nat.le_of_ble_eq_true rfl) (List.mem_cons_of_mem _ (aw_r5 _ (List.mem_of_getElem? (i := 8) rfl))) rfl dX6_goes_171 ?_
      refine lv_iload_n hx hb dX6_goes_174 rfl (lv_at hl 3 rfl) ?_
      refine lv_iconst (v := (0 : Int32)) hx hb dX6_goes_175 (by decide) ?_
      refine k_iast X hk (wg_46 G _) (ws_46 G _) rfl hw.1 dX6_goes_176 (fun H locs hk => ?_)
      replace hw := hw.2
      obtain ⟨σ29, eσ29⟩ : ∃ y : Sg, y = (put σ 46 (x3).toNatClampNeg (0 : Int32)) := ⟨_, rfl⟩
      rw [← eσ29] at hk
      replace hw := hw σ29 eσ29
      obtain ⟨x3_30, ex3_30⟩ : ∃ y : Int32, y = (x3 + (1 : Int32)) := ⟨_, rfl⟩
      replace hw := hw x3_30 ex3_30
      refine lv_iinc (v := x3_30) (lv' := [(3, .int x3_30), (0, .ref (G.1 30)), (1, .int x1), (2, .int x2)]) hx hb dX6_goes_177 hl (k := 3) rfl (by rw [ex3_30]; rfl) (Nat.le_of_ble_eq_true rfl) rfl (fun ls hl => ?_)
      refine lv_goto (tgt := 164) hx hb dX6_goes_180 (by decide) ?_
      exact ih _ _ _ _ _ _ _ hw hk (lv_sub hl [1, 2, 3, 0] rfl)
def wp_X6_goes_110 (Q : Sg → Prop) (K96 : Int32 → Int32 → Sg → Prop) : Nat → Int32 → Int32 → Int32 → Sg → Prop
  | 0, _, _, _, _ => False
  | n + 1, x1, x2, x3, σ => wp_X6_places σ  (fun r10 σ9 => (r10 ≤ x3 → (∃ n0, wp_X6_goes_164 Q K96 n0 x1 x2 (0 : Int32) σ9)) ∧ (¬ (r10 ≤ x3) → (vp_in x3 8 ∧ (vp_in (((8 : Int32) * x2) + x3) 480 ∧ (vp_in x3 8 ∧ (∀ σ31 : Sg, σ31 = (put σ9 43 (x3).toNatClampNeg ((σ9 43 (x3).toNatClampNeg) + (σ9 41 ((((8 : Int32) * x2) + x3)).toNatClampNeg))) → (vp_in (((8 : Int32) * x2) + x3) 480 ∧ (∀ σ32 : Sg, σ32 = (put σ31 41 ((((8 : Int32) * x2) + x3)).toNatClampNeg (0 : Int32)) → (wp_X6_shelters σ32 x3 x2 (fun σ33 => ∀ x3_35 : Int32, x3_35 = (x3 + (1 : Int32)) → (wp_X6_goes_110 Q K96 n x1 x2 x3_35 σ33)))))))))))
set_option maxHeartbeats 4000000 in
set_option maxRecDepth 100000 in
theorem t_X6_goes_110 {p : Program} {l : Launch} {e : Env} {s : State} {m : MethodId} {args : Array Value} {below : List Frame} {meth : Method} {c : Code} {G : Gw} (X : KC p m meth c cX6_goes 5 s args wz_X6_goes RX6 none G) (Q : Sg → Prop) (K96 : Int32 → Int32 → Sg → Prop) (hK96 : ∀ (σ : Sg) (x1 x2 : Int32) (H : Heap) (locs : List Loc) (ls : Array Slot), K96 x1 x2 σ → WK G s H locs σ → lv_has ls 5 [(0, .ref (G.1 30)), (1, .int x1), (2, .int x2)] → W p l e rm_X6_goes s m args below meth c H locs 0 0 (ZV below args s G Q) (F0 m 96 ls [])) : ∀ (n : Nat) (σ : Sg) (x1 x2 x3 : Int32) (H : Heap) (locs : List Loc) (ls : Array Slot), wp_X6_goes_110 Q K96 n x1 x2 x3 σ → WK G s H locs σ → lv_has ls 5 [(0, .ref (G.1 30)), (1, .int x1), (2, .int x2), (3, .int x3)] → W p l e rm_X6_goes s m args below meth c H locs 0 0 (ZV below args s G Q) (F0 m 110 ls []) := by
  have hx := X.1.1
  have hb := X.1.2.1
  intro n
  induction n with
  | zero =>
    intro σ x1 x2 x3 H locs ls hw hk hl
    exact False.elim hw
  | succ n ih =>
    intro σ x1 x2 x3 H locs ls hw hk hl
    rw [wp_X6_goes_110] at hw
    refine lv_iload_n hx hb dX6_goes_110 rfl (lv_at hl 3 rfl) ?_
    refine lv_aload_n hx hb dX6_goes_111 rfl (lv_at hl 0 rfl) ?_
    refine k_callVi (rest := [.int x3]) X hk (c_X6_places l G _  _ hw) (cwV 0 X.1.2.2.2.2 (gzV (aw_r15 _ (List.mem_of_getElem? (i := 14) rfl)) (aw_r15 _ (List.mem_of_getElem? (i := 15) rfl)) (aw_r15 _ (List.mem_of_getElem? (i := 16) rfl)) (aw_r1 _ (List.mem_of_getElem? (i := 5) rfl)) (aw_r15 _ (List.mem_of_getElem? (i := 17) rfl))) rfl rfl rfl hd_X6_places ⟨(Nat.le_of_ble_eq_true rfl), (Nat.le_of_ble_eq_true rfl)⟩) (wg_30 G _) rfl rfl hl.1 rfl (Nat.le_of_ble_eq_true rfl) dX6_goes_112 ⟨Nat.zero_le _, Nat.zero_le _⟩ (fun r10 σ9 H locs hw hk => ?_)
    refine lv_icmp_ge (tgt := 162) hx hb dX6_goes_115 (by decide) (fun c11 => ?_) (fun c11 => ?_)
    · replace hw := hw.1 c11
      refine lv_iconst (v := (0 : Int32)) hx hb dX6_goes_162 (by decide) ?_
      refine lv_istore_n (lv' := [(3, .int (0 : Int32)), (0, .ref (G.1 30)), (1, .int x1), (2, .int x2)]) hx hb dX6_goes_163 rfl hl (Nat.le_of_ble_eq_true rfl) rfl (fun ls hl => ?_)
      obtain ⟨n0, hw⟩ := hw
      exact t_X6_goes_164 X Q _ hK96 n0 _ _ _ _ _ _ _ hw hk (lv_sub hl [1, 2, 3, 0] rfl)
    · replace hw := hw.2 c11
      refine lv_aload_n hx hb dX6_goes_118 rfl (lv_at hl 0 rfl) ?_
      refine k_get 19 X hk (wg_30 G _) rfl (hz_wsX60 _) (Nat.le_of_ble_eq_true rfl) (List.mem_cons_of_mem _ (aw_r5 _ (List.mem_of_getElem? (i := 5) rfl))) rfl dX6_goes_119 ?_
      refine lv_iload_n hx hb dX6_goes_122 rfl (lv_at hl 3 rfl) ?_
      refine lv_dup2_11 hx hb dX6_goes_123 rfl rfl ?_
      refine k_iald X hk (wg_43 G _) hw.1 dX6_goes_124 ?_
      replace hw := hw.2
      refine lv_aload_n hx hb dX6_goes_125 rfl (lv_at hl 0 rfl) ?_
      refine k_get 17 X hk (wg_30 G _) rfl (hz_wsX60 _) (Nat.le_of_ble_eq_true rfl) (List.mem_cons_of_mem _ (aw_r5 _ (List.mem_of_getElem? (i := 3) rfl))) rfl dX6_goes_126 ?_
      refine lv_bipush (v := (8 : Int32)) hx hb dX6_goes_129 (by decide) ?_
      refine lv_iload_n hx hb dX6_goes_131 rfl (lv_at hl 2 rfl) ?_
      refine lv_imul hx hb dX6_goes_132 ?_
      refine lv_iload_n hx hb dX6_goes_133 rfl (lv_at hl 3 rfl) ?_
      refine lv_iadd hx hb dX6_goes_134 ?_
      refine k_iald X hk (wg_41 G _) hw.1 dX6_goes_135 ?_
      replace hw := hw.2
      refine lv_iadd hx hb dX6_goes_136 ?_
      refine k_iast X hk (wg_43 G _) (ws_43 G _) rfl hw.1 dX6_goes_137 (fun H locs hk => ?_)
      replace hw := hw.2
      obtain ⟨σ31, eσ31⟩ : ∃ y : Sg, y = (put σ9 43 (x3).toNatClampNeg ((σ9 43 (x3).toNatClampNeg) + (σ9 41 ((((8 : Int32) * x2) + x3)).toNatClampNeg))) := ⟨_, rfl⟩
      rw [← eσ31] at hk
      replace hw := hw σ31 eσ31
      refine lv_aload_n hx hb dX6_goes_138 rfl (lv_at hl 0 rfl) ?_
      refine k_get 17 X hk (wg_30 G _) rfl (hz_wsX60 _) (Nat.le_of_ble_eq_true rfl) (List.mem_cons_of_mem _ (aw_r5 _ (List.mem_of_getElem? (i := 3) rfl))) rfl dX6_goes_139 ?_
      refine lv_bipush (v := (8 : Int32)) hx hb dX6_goes_142 (by decide) ?_
      refine lv_iload_n hx hb dX6_goes_144 rfl (lv_at hl 2 rfl) ?_
      refine lv_imul hx hb dX6_goes_145 ?_
      refine lv_iload_n hx hb dX6_goes_146 rfl (lv_at hl 3 rfl) ?_
      refine lv_iadd hx hb dX6_goes_147 ?_
      refine lv_iconst (v := (0 : Int32)) hx hb dX6_goes_148 (by decide) ?_
      refine k_iast X hk (wg_41 G _) (ws_41 G _) rfl hw.1 dX6_goes_149 (fun H locs hk => ?_)
      replace hw := hw.2
      obtain ⟨σ32, eσ32⟩ : ∃ y : Sg, y = (put σ31 41 ((((8 : Int32) * x2) + x3)).toNatClampNeg (0 : Int32)) := ⟨_, rfl⟩
      rw [← eσ32] at hk
      replace hw := hw σ32 eσ32
      refine lv_aload_n hx hb dX6_goes_150 rfl (lv_at hl 0 rfl) ?_
      refine lv_iload_n hx hb dX6_goes_151 rfl (lv_at hl 3 rfl) ?_
      refine lv_iload_n hx hb dX6_goes_152 rfl (lv_at hl 2 rfl) ?_
      refine k_callVv (rest := []) X hk (c_X6_shelters l G _ _ _ _ hw) (cwV 2 X.1.2.2.2.2 (gzV (aw_r43 _ (List.mem_of_getElem? (i := 22) rfl)) (aw_r43 _ (List.mem_of_getElem? (i := 23) rfl)) (aw_r44 _ (List.mem_of_getElem? (i := 0) rfl)) (aw_r1 _ (List.mem_of_getElem? (i := 5) rfl)) (aw_r44 _ (List.mem_of_getElem? (i := 1) rfl))) rfl rfl rfl hd_X6_shelters ⟨(Nat.le_of_ble_eq_true rfl), (Nat.le_of_ble_eq_true rfl)⟩) (wg_30 G _) rfl rfl hl.1 rfl (Nat.le_of_ble_eq_true rfl) dX6_goes_153 ⟨Nat.zero_le _, Nat.zero_le _⟩ (fun σ33 H locs hw hk => ?_)
      obtain ⟨x3_35, ex3_35⟩ : ∃ y : Int32, y = (x3 + (1 : Int32)) := ⟨_, rfl⟩
      replace hw := hw x3_35 ex3_35
      refine lv_iinc (v := x3_35) (lv' := [(3, .int x3_35), (0, .ref (G.1 30)), (1, .int x1), (2, .int x2)]) hx hb dX6_goes_156 hl (k := 3) rfl (by rw [ex3_35]; rfl) (Nat.le_of_ble_eq_true rfl) rfl (fun ls hl => ?_)
      refine lv_goto (tgt := 110) hx hb dX6_goes_159 (by decide) ?_
      exact ih _ _ _ _ _ _ _ hw hk (lv_sub hl [1, 2, 3, 0] rfl)
def wp_X6_goes_96 (Q : Sg → Prop)  : Nat → Int32 → Int32 → Sg → Prop
  | 0, _, _, _ => False
  | n + 1, x1, x2, σ => (x1 < x2 → (Q σ)) ∧ (¬ (x1 < x2) → (((σ 30 23) = 0 → (∃ n0, wp_X6_goes_110 Q (fun z1 z2 σ => wp_X6_goes_96 Q  n z1 z2 σ) n0 x1 x2 (0 : Int32) σ)) ∧ (¬ ((σ 30 23) = 0) → (Q σ))))
set_option maxHeartbeats 4000000 in
set_option maxRecDepth 100000 in
theorem t_X6_goes_96 {p : Program} {l : Launch} {e : Env} {s : State} {m : MethodId} {args : Array Value} {below : List Frame} {meth : Method} {c : Code} {G : Gw} (X : KC p m meth c cX6_goes 5 s args wz_X6_goes RX6 none G) (Q : Sg → Prop)  : ∀ (n : Nat) (σ : Sg) (x1 x2 : Int32) (H : Heap) (locs : List Loc) (ls : Array Slot), wp_X6_goes_96 Q  n x1 x2 σ → WK G s H locs σ → lv_has ls 5 [(0, .ref (G.1 30)), (1, .int x1), (2, .int x2)] → W p l e rm_X6_goes s m args below meth c H locs 0 0 (ZV below args s G Q) (F0 m 96 ls []) := by
  have hx := X.1.1
  have hb := X.1.2.1
  intro n
  induction n with
  | zero =>
    intro σ x1 x2 H locs ls hw hk hl
    exact False.elim hw
  | succ n ih =>
    intro σ x1 x2 H locs ls hw hk hl
    rw [wp_X6_goes_96] at hw
    refine lv_iload_n hx hb dX6_goes_96 rfl (lv_at hl 2 rfl) ?_
    refine lv_iload_n hx hb dX6_goes_97 rfl (lv_at hl 1 rfl) ?_
    refine lv_icmp_gt (tgt := 261) hx hb dX6_goes_98 (by decide) (fun c7 => ?_) (fun c7 => ?_)
    · replace hw := hw.1 c7
      exact k_vret X hk hw dX6_goes_261
    · replace hw := hw.2 c7
      refine lv_aload_n hx hb dX6_goes_101 rfl (lv_at hl 0 rfl) ?_
      refine k_get 23 X hk (wg_30 G _) rfl (hz_wsX60 _) (Nat.le_of_ble_eq_true rfl) (List.mem_cons_of_mem _ (aw_r43 _ (List.mem_of_getElem? (i := 14) rfl))) rfl dX6_goes_102 ?_
      refine lv_if_ne (tgt := 261) hx hb dX6_goes_105 (by decide) (fun c8 => ?_) (fun c8 => ?_)
      · replace hw := hw.2 c8
        exact k_vret X hk hw dX6_goes_261
      · replace hw := hw.1 c8
        refine lv_iconst (v := (0 : Int32)) hx hb dX6_goes_108 (by decide) ?_
        refine lv_istore_n (lv' := [(3, .int (0 : Int32)), (0, .ref (G.1 30)), (1, .int x1), (2, .int x2)]) hx hb dX6_goes_109 rfl hl (Nat.le_of_ble_eq_true rfl) rfl (fun ls hl => ?_)
        obtain ⟨n0, hw⟩ := hw
        exact t_X6_goes_110 X Q _ ih n0 _ _ _ _ _ _ _ hw hk (lv_sub hl [1, 2, 3, 0] rfl)
def wp_X6_goes_53 (Q : Sg → Prop) (K24 : Int32 → Int32 → Sg → Prop) (x1 x2 y1 y2 : Int32) (σ : Sg) : Prop := vp_in y1 8 ∧ (∀ σ39 : Sg, σ39 = (put σ 42 (y1).toNatClampNeg y2) → (vp_in x2 8 ∧ (∀ σ40 : Sg, σ40 = (put σ39 43 (x2).toNatClampNeg (0 : Int32)) → (vp_in x2 8 ∧ (∀ σ41 : Sg, σ41 = (put σ40 44 (x2).toNatClampNeg (0 : Int32)) → (∀ x2_42 : Int32, x2_42 = (x2 + (1 : Int32)) → (K24 x1 x2_42 σ41)))))))
set_option maxHeartbeats 4000000 in
set_option maxRecDepth 100000 in
theorem t_X6_goes_53 {p : Program} {l : Launch} {e : Env} {s : State} {m : MethodId} {args : Array Value} {below : List Frame} {meth : Method} {c : Code} {G : Gw} (X : KC p m meth c cX6_goes 5 s args wz_X6_goes RX6 none G) (Q : Sg → Prop) (K24 : Int32 → Int32 → Sg → Prop) (hK24 : ∀ (σ : Sg) (x1 x2 : Int32) (H : Heap) (locs : List Loc) (ls : Array Slot), K24 x1 x2 σ → WK G s H locs σ → lv_has ls 5 [(0, .ref (G.1 30)), (1, .int x1), (2, .int x2)] → W p l e rm_X6_goes s m args below meth c H locs 0 0 (ZV below args s G Q) (F0 m 24 ls [])) : ∀ (σ : Sg) (x1 x2 y1 y2 : Int32) (H : Heap) (locs : List Loc) (ls : Array Slot), wp_X6_goes_53 Q K24 x1 x2 y1 y2 σ → WK G s H locs σ → lv_has ls 5 [(0, .ref (G.1 30)), (1, .int x1), (2, .int x2)] → W p l e rm_X6_goes s m args below meth c H locs 0 0 (ZV below args s G Q) (F0 m 53 ls [.int y2, .int y1, .ref (G.1 42)]) := by
  have hx := X.1.1
  have hb := X.1.2.1
  intro σ x1 x2 y1 y2 H locs ls hw hk hl
  unfold wp_X6_goes_53 at hw
  refine k_iast X hk (wg_42 G _) (ws_42 G _) rfl hw.1 dX6_goes_53 (fun H locs hk => ?_)
  replace hw := hw.2
  obtain ⟨σ39, eσ39⟩ : ∃ y : Sg, y = (put σ 42 (y1).toNatClampNeg y2) := ⟨_, rfl⟩
  rw [← eσ39] at hk
  replace hw := hw σ39 eσ39
  refine lv_aload_n hx hb dX6_goes_54 rfl (lv_at hl 0 rfl) ?_
  refine k_get 19 X hk (wg_30 G _) rfl (hz_wsX60 _) (Nat.le_of_ble_eq_true rfl) (List.mem_cons_of_mem _ (aw_r5 _ (List.mem_of_getElem? (i := 5) rfl))) rfl dX6_goes_55 ?_
  refine lv_iload_n hx hb dX6_goes_58 rfl (lv_at hl 2 rfl) ?_
  refine lv_iconst (v := (0 : Int32)) hx hb dX6_goes_59 (by decide) ?_
  refine k_iast X hk (wg_43 G _) (ws_43 G _) rfl hw.1 dX6_goes_60 (fun H locs hk => ?_)
  replace hw := hw.2
  obtain ⟨σ40, eσ40⟩ : ∃ y : Sg, y = (put σ39 43 (x2).toNatClampNeg (0 : Int32)) := ⟨_, rfl⟩
  rw [← eσ40] at hk
  replace hw := hw σ40 eσ40
  refine lv_aload_n hx hb dX6_goes_61 rfl (lv_at hl 0 rfl) ?_
  refine k_get 20 X hk (wg_30 G _) rfl (hz_wsX60 _) (Nat.le_of_ble_eq_true rfl) (List.mem_cons_of_mem _ (aw_r5 _ (List.mem_of_getElem? (i := 6) rfl))) rfl dX6_goes_62 ?_
  refine lv_iload_n hx hb dX6_goes_65 rfl (lv_at hl 2 rfl) ?_
  refine lv_iconst (v := (0 : Int32)) hx hb dX6_goes_66 (by decide) ?_
  refine k_iast X hk (wg_44 G _) (ws_44 G _) rfl hw.1 dX6_goes_67 (fun H locs hk => ?_)
  replace hw := hw.2
  obtain ⟨σ41, eσ41⟩ : ∃ y : Sg, y = (put σ40 44 (x2).toNatClampNeg (0 : Int32)) := ⟨_, rfl⟩
  rw [← eσ41] at hk
  replace hw := hw σ41 eσ41
  obtain ⟨x2_42, ex2_42⟩ : ∃ y : Int32, y = (x2 + (1 : Int32)) := ⟨_, rfl⟩
  replace hw := hw x2_42 ex2_42
  refine lv_iinc (v := x2_42) (lv' := [(2, .int x2_42), (0, .ref (G.1 30)), (1, .int x1)]) hx hb dX6_goes_68 hl (k := 2) rfl (by rw [ex2_42]; rfl) (Nat.le_of_ble_eq_true rfl) rfl (fun ls hl => ?_)
  refine lv_goto (tgt := 24) hx hb dX6_goes_71 (by decide) ?_
  exact hK24 _ _ _ _ _ _ hw hk (lv_sub hl [1, 2, 0] rfl)
def wp_X6_goes_24 (Q : Sg → Prop)  : Nat → Int32 → Int32 → Sg → Prop
  | 0, _, _, _ => False
  | n + 1, x1, x2, σ => ((8 : Int32) ≤ x2 → (∀ σ3 : Sg, σ3 = (put σ 30 23 (0 : Int32)) → (∀ σ4 : Sg, σ4 = (put σ3 30 24 (0 : Int32)) → (∀ σ5 : Sg, σ5 = (put σ4 30 25 (0 : Int32)) → (∀ σ6 : Sg, σ6 = (put σ5 30 26 (-1 : Int32)) → (∃ n0, wp_X6_goes_96 Q  n0 x1 (0 : Int32) σ6)))))) ∧ (¬ ((8 : Int32) ≤ x2) → (wp_X6_places σ  (fun r37 σ36 => (r37 ≤ x2 → (wp_X6_goes_53 Q (fun z1 z2 σ => wp_X6_goes_24 Q  n z1 z2 σ) x1 x2 x2 (0 : Int32) σ36)) ∧ (¬ (r37 ≤ x2) → (wp_X6_ofPlace σ36 x2 (0 : Int32) (fun r44 σ43 => wp_X6_goes_53 Q (fun z1 z2 σ => wp_X6_goes_24 Q  n z1 z2 σ) x1 x2 x2 r44 σ43))))))
set_option maxHeartbeats 4000000 in
set_option maxRecDepth 100000 in
theorem t_X6_goes_24 {p : Program} {l : Launch} {e : Env} {s : State} {m : MethodId} {args : Array Value} {below : List Frame} {meth : Method} {c : Code} {G : Gw} (X : KC p m meth c cX6_goes 5 s args wz_X6_goes RX6 none G) (Q : Sg → Prop)  : ∀ (n : Nat) (σ : Sg) (x1 x2 : Int32) (H : Heap) (locs : List Loc) (ls : Array Slot), wp_X6_goes_24 Q  n x1 x2 σ → WK G s H locs σ → lv_has ls 5 [(0, .ref (G.1 30)), (1, .int x1), (2, .int x2)] → W p l e rm_X6_goes s m args below meth c H locs 0 0 (ZV below args s G Q) (F0 m 24 ls []) := by
  have hx := X.1.1
  have hb := X.1.2.1
  intro n
  induction n with
  | zero =>
    intro σ x1 x2 H locs ls hw hk hl
    exact False.elim hw
  | succ n ih =>
    intro σ x1 x2 H locs ls hw hk hl
    rw [wp_X6_goes_24] at hw
    refine lv_iload_n hx hb dX6_goes_24 rfl (lv_at hl 2 rfl) ?_
    refine lv_bipush (v := (8 : Int32)) hx hb dX6_goes_25 (by decide) ?_
    refine lv_icmp_ge (tgt := 74) hx hb dX6_goes_27 (by decide) (fun c2 => ?_) (fun c2 => ?_)
    · replace hw := hw.1 c2
      refine lv_aload_n hx hb dX6_goes_74 rfl (lv_at hl 0 rfl) ?_
      refine lv_iconst (v := (0 : Int32)) hx hb dX6_goes_75 (by decide) ?_
      refine k_put 23 X hk (wg_30 G _) rfl (hz_wsX60 _) tyX6_ok nmX6 (Nat.le_of_ble_eq_true rfl) (List.mem_cons_of_mem _ (aw_r43 _ (List.mem_of_getElem? (i := 14) rfl))) rfl rfl (Nat.le_of_ble_eq_true rfl) (ws_30_23 G _ _) dX6_goes_76 (fun H locs hk => ?_)
      obtain ⟨σ3, eσ3⟩ : ∃ y : Sg, y = (put σ 30 23 (0 : Int32)) := ⟨_, rfl⟩
      rw [← eσ3] at hk
      replace hw := hw σ3 eσ3
      refine lv_aload_n hx hb dX6_goes_79 rfl (lv_at hl 0 rfl) ?_
      refine lv_iconst (v := (0 : Int32)) hx hb dX6_goes_80 (by decide) ?_
      refine k_put 24 X hk (wg_30 G _) rfl (hz_wsX60 _) tyX6_ok nmX6 (Nat.le_of_ble_eq_true rfl) (List.mem_cons_of_mem _ (aw_r43 _ (List.mem_of_getElem? (i := 15) rfl))) rfl rfl (Nat.le_of_ble_eq_true rfl) (ws_30_24 G _ _) dX6_goes_81 (fun H locs hk => ?_)
      obtain ⟨σ4, eσ4⟩ : ∃ y : Sg, y = (put σ3 30 24 (0 : Int32)) := ⟨_, rfl⟩
      rw [← eσ4] at hk
      replace hw := hw σ4 eσ4
      refine lv_aload_n hx hb dX6_goes_84 rfl (lv_at hl 0 rfl) ?_
      refine lv_iconst (v := (0 : Int32)) hx hb dX6_goes_85 (by decide) ?_
      refine k_put 25 X hk (wg_30 G _) rfl (hz_wsX60 _) tyX6_ok nmX6 (Nat.le_of_ble_eq_true rfl) (List.mem_cons_of_mem _ (aw_r43 _ (List.mem_of_getElem? (i := 20) rfl))) rfl rfl (Nat.le_of_ble_eq_true rfl) (ws_30_25 G _ _) dX6_goes_86 (fun H locs hk => ?_)
      obtain ⟨σ5, eσ5⟩ : ∃ y : Sg, y = (put σ4 30 25 (0 : Int32)) := ⟨_, rfl⟩
      rw [← eσ5] at hk
      replace hw := hw σ5 eσ5
      refine lv_aload_n hx hb dX6_goes_89 rfl (lv_at hl 0 rfl) ?_
      refine lv_iconst (v := (-1 : Int32)) hx hb dX6_goes_90 (by decide) ?_
      refine k_put 26 X hk (wg_30 G _) rfl (hz_wsX60 _) tyX6_ok nmX6 (Nat.le_of_ble_eq_true rfl) (List.mem_cons_of_mem _ (aw_r43 _ (List.mem_of_getElem? (i := 21) rfl))) rfl rfl (Nat.le_of_ble_eq_true rfl) (ws_30_26 G _ _) dX6_goes_91 (fun H locs hk => ?_)
      obtain ⟨σ6, eσ6⟩ : ∃ y : Sg, y = (put σ5 30 26 (-1 : Int32)) := ⟨_, rfl⟩
      rw [← eσ6] at hk
      replace hw := hw σ6 eσ6
      refine lv_iconst (v := (0 : Int32)) hx hb dX6_goes_94 (by decide) ?_
      refine lv_istore_n (lv' := [(2, .int (0 : Int32)), (0, .ref (G.1 30)), (1, .int x1)]) hx hb dX6_goes_95 rfl hl (Nat.le_of_ble_eq_true rfl) rfl (fun ls hl => ?_)
      obtain ⟨n0, hw⟩ := hw
      exact t_X6_goes_96 X Q   n0 _ _ _ _ _ _ hw hk (lv_sub hl [1, 2, 0] rfl)
    · replace hw := hw.2 c2
      refine lv_aload_n hx hb dX6_goes_30 rfl (lv_at hl 0 rfl) ?_
      refine k_get 18 X hk (wg_30 G _) rfl (hz_wsX60 _) (Nat.le_of_ble_eq_true rfl) (List.mem_cons_of_mem _ (aw_r5 _ (List.mem_of_getElem? (i := 4) rfl))) rfl dX6_goes_31 ?_
      refine lv_iload_n hx hb dX6_goes_34 rfl (lv_at hl 2 rfl) ?_
      refine lv_iload_n hx hb dX6_goes_35 rfl (lv_at hl 2 rfl) ?_
      refine lv_aload_n hx hb dX6_goes_36 rfl (lv_at hl 0 rfl) ?_
      refine k_callVi (rest := [.int x2, .int x2, .ref (G.1 42)]) X hk (c_X6_places l G _  _ hw) (cwV 0 X.1.2.2.2.2 (gzV (aw_r15 _ (List.mem_of_getElem? (i := 14) rfl)) (aw_r15 _ (List.mem_of_getElem? (i := 15) rfl)) (aw_r15 _ (List.mem_of_getElem? (i := 16) rfl)) (aw_r1 _ (List.mem_of_getElem? (i := 5) rfl)) (aw_r15 _ (List.mem_of_getElem? (i := 17) rfl))) rfl rfl rfl hd_X6_places ⟨(Nat.le_of_ble_eq_true rfl), (Nat.le_of_ble_eq_true rfl)⟩) (wg_30 G _) rfl rfl hl.1 rfl (Nat.le_of_ble_eq_true rfl) dX6_goes_37 ⟨Nat.zero_le _, Nat.zero_le _⟩ (fun r37 σ36 H locs hw hk => ?_)
      refine lv_icmp_ge (tgt := 52) hx hb dX6_goes_40 (by decide) (fun c38 => ?_) (fun c38 => ?_)
      · replace hw := hw.1 c38
        refine lv_iconst (v := (0 : Int32)) hx hb dX6_goes_52 (by decide) ?_
        exact t_X6_goes_53 X Q _ ih _ _ _ _ _ _ _ _ hw hk hl
      · replace hw := hw.2 c38
        refine lv_aload_n hx hb dX6_goes_43 rfl (lv_at hl 0 rfl) ?_
        refine lv_iload_n hx hb dX6_goes_44 rfl (lv_at hl 2 rfl) ?_
        refine lv_iconst (v := (0 : Int32)) hx hb dX6_goes_45 (by decide) ?_
        refine k_callVi (rest := [.int x2, .ref (G.1 42)]) X hk (c_X6_ofPlace l G _ _ _ _ hw) (cwV 2 X.1.2.2.2.2 (gzV (aw_r21 _ (List.mem_of_getElem? (i := 4) rfl)) (aw_r21 _ (List.mem_of_getElem? (i := 5) rfl)) (aw_r21 _ (List.mem_of_getElem? (i := 6) rfl)) (aw_r1 _ (List.mem_of_getElem? (i := 5) rfl)) (aw_r21 _ (List.mem_of_getElem? (i := 7) rfl))) rfl rfl rfl hd_X6_ofPlace ⟨(Nat.le_of_ble_eq_true rfl), (Nat.le_of_ble_eq_true rfl)⟩) (wg_30 G _) rfl rfl hl.1 rfl (Nat.le_of_ble_eq_true rfl) dX6_goes_46 ⟨Nat.zero_le _, Nat.zero_le _⟩ (fun r44 σ43 H locs hw hk => ?_)
        refine lv_goto (tgt := 53) hx hb dX6_goes_49 (by decide) ?_
        exact t_X6_goes_53 X Q _ ih _ _ _ _ _ _ _ _ hw hk hl
def wp_X6_goes_2 (Q : Sg → Prop)  : Nat → Int32 → Int32 → Sg → Prop
  | 0, _, _, _ => False
  | n + 1, x1, x2, σ => ((480 : Int32) ≤ x2 → (∃ n0, wp_X6_goes_24 Q  n0 x1 (0 : Int32) σ)) ∧ (¬ ((480 : Int32) ≤ x2) → (vp_in x2 480 ∧ (∀ σ45 : Sg, σ45 = (put σ 41 (x2).toNatClampNeg (0 : Int32)) → (∀ x2_46 : Int32, x2_46 = (x2 + (1 : Int32)) → (wp_X6_goes_2 Q  n x1 x2_46 σ45)))))
set_option maxHeartbeats 4000000 in
set_option maxRecDepth 100000 in
theorem t_X6_goes_2 {p : Program} {l : Launch} {e : Env} {s : State} {m : MethodId} {args : Array Value} {below : List Frame} {meth : Method} {c : Code} {G : Gw} (X : KC p m meth c cX6_goes 5 s args wz_X6_goes RX6 none G) (Q : Sg → Prop)  : ∀ (n : Nat) (σ : Sg) (x1 x2 : Int32) (H : Heap) (locs : List Loc) (ls : Array Slot), wp_X6_goes_2 Q  n x1 x2 σ → WK G s H locs σ → lv_has ls 5 [(0, .ref (G.1 30)), (1, .int x1), (2, .int x2)] → W p l e rm_X6_goes s m args below meth c H locs 0 0 (ZV below args s G Q) (F0 m 2 ls []) := by
  have hx := X.1.1
  have hb := X.1.2.1
  intro n
  induction n with
  | zero =>
    intro σ x1 x2 H locs ls hw hk hl
    exact False.elim hw
  | succ n ih =>
    intro σ x1 x2 H locs ls hw hk hl
    rw [wp_X6_goes_2] at hw
    refine lv_iload_n hx hb dX6_goes_2 rfl (lv_at hl 2 rfl) ?_
    refine lv_sipush (v := (480 : Int32)) hx hb dX6_goes_3 (by decide) ?_
    refine lv_icmp_ge (tgt := 22) hx hb dX6_goes_6 (by decide) (fun c1 => ?_) (fun c1 => ?_)
    · replace hw := hw.1 c1
      refine lv_iconst (v := (0 : Int32)) hx hb dX6_goes_22 (by decide) ?_
      refine lv_istore_n (lv' := [(2, .int (0 : Int32)), (0, .ref (G.1 30)), (1, .int x1)]) hx hb dX6_goes_23 rfl hl (Nat.le_of_ble_eq_true rfl) rfl (fun ls hl => ?_)
      obtain ⟨n0, hw⟩ := hw
      exact t_X6_goes_24 X Q   n0 _ _ _ _ _ _ hw hk (lv_sub hl [1, 2, 0] rfl)
    · replace hw := hw.2 c1
      refine lv_aload_n hx hb dX6_goes_9 rfl (lv_at hl 0 rfl) ?_
      refine k_get 17 X hk (wg_30 G _) rfl (hz_wsX60 _) (Nat.le_of_ble_eq_true rfl) (List.mem_cons_of_mem _ (aw_r5 _ (List.mem_of_getElem? (i := 3) rfl))) rfl dX6_goes_10 ?_
      refine lv_iload_n hx hb dX6_goes_13 rfl (lv_at hl 2 rfl) ?_
      refine lv_iconst (v := (0 : Int32)) hx hb dX6_goes_14 (by decide) ?_
      refine k_iast X hk (wg_41 G _) (ws_41 G _) rfl hw.1 dX6_goes_15 (fun H locs hk => ?_)
      replace hw := hw.2
      obtain ⟨σ45, eσ45⟩ : ∃ y : Sg, y = (put σ 41 (x2).toNatClampNeg (0 : Int32)) := ⟨_, rfl⟩
      rw [← eσ45] at hk
      replace hw := hw σ45 eσ45
      obtain ⟨x2_46, ex2_46⟩ : ∃ y : Int32, y = (x2 + (1 : Int32)) := ⟨_, rfl⟩
      replace hw := hw x2_46 ex2_46
      refine lv_iinc (v := x2_46) (lv' := [(2, .int x2_46), (0, .ref (G.1 30)), (1, .int x1)]) hx hb dX6_goes_16 hl (k := 2) rfl (by rw [ex2_46]; rfl) (Nat.le_of_ble_eq_true rfl) rfl (fun ls hl => ?_)
      refine lv_goto (tgt := 2) hx hb dX6_goes_19 (by decide) ?_
      exact ih _ _ _ _ _ _ hw hk (lv_sub hl [1, 2, 0] rfl)
def wp_X6_goes (σ : Sg) (p1 : Int32) (Q : Sg → Prop) : Prop := ∃ n0, wp_X6_goes_2 Q  n0 p1 (0 : Int32) σ
set_option maxHeartbeats 4000000 in
set_option maxRecDepth 100000 in
theorem c_X6_goes (l : Launch) (G : Gw) (σ : Sg) (p1 : Int32) (Q : Sg → Prop) (hw : wp_X6_goes σ p1 Q) : MetV l yX6_goes wz_X6_goes rm_X6_goes G σ [.ref (G.1 30), .int p1] Q := by
  refine MetV.of cX6_goes 5 none (by decide) rfl (Nat.le_of_ble_eq_true rfl) ?_
  intro p e s m below meth c X hk ls hl
  have X : KC p m meth c cX6_goes 5 s _ wz_X6_goes RX6 none G := X
  have hl : lv_has ls 5 [(0, .ref (G.1 30)), (1, .int p1)] := hl
  unfold wp_X6_goes at hw
  have hx := X.1.1
  have hb := X.1.2.1
  refine lv_iconst (v := (0 : Int32)) hx hb dX6_goes_0 (by decide) ?_
  refine lv_istore_n (lv' := [(2, .int (0 : Int32)), (0, .ref (G.1 30)), (1, .int p1)]) hx hb dX6_goes_1 rfl hl (Nat.le_of_ble_eq_true rfl) rfl (fun ls hl => ?_)
  obtain ⟨n0, hw⟩ := hw
  exact t_X6_goes_2 X Q   n0 _ _ _ _ _ _ hw hk (lv_sub hl [1, 2, 0] rfl)
def rm_X6_plans : Room := { frames := 4, cells := 0, slots := 0, locals := 95 }
abbrev wz_X6_plans : List Cond := Cond.code yX6_plans cX6_plans 2 (some .int) :: wsA
theorem hd_X6_plans : yX6_plans.cls = RX6 ∧ yX6_plans.cls ≠ "java/lang/invoke/MethodHandle" ∧ yX6_plans.cls ≠ "java/lang/invoke/VarHandle" ∧ (parseMethodDescriptor yX6_plans.desc).map (fun d => d.parameters.length) = some 0 := by decide +kernel
def wp_X6_plans_20 (Q : Int32 → Sg → Prop)  (σ : Sg) : Prop := Q (σ 30 23) σ
set_option maxHeartbeats 4000000 in
set_option maxRecDepth 100000 in
theorem t_X6_plans_20 {p : Program} {l : Launch} {e : Env} {s : State} {m : MethodId} {args : Array Value} {below : List Frame} {meth : Method} {c : Code} {G : Gw} (X : KC p m meth c cX6_plans 2 s args wz_X6_plans RX6 (some .int) G) (Q : Int32 → Sg → Prop)  : ∀ (σ : Sg) (H : Heap) (locs : List Loc) (ls : Array Slot), wp_X6_plans_20 Q   σ → WK G s H locs σ → lv_has ls 2 [(0, .ref (G.1 30))] → W p l e rm_X6_plans s m args below meth c H locs 0 0 (ZI below args s G Q) (F0 m 20 ls []) := by
  have hx := X.1.1
  have hb := X.1.2.1
  intro σ H locs ls hw hk hl
  unfold wp_X6_plans_20 at hw
  refine lv_aload_n hx hb dX6_plans_20 rfl (lv_at hl 0 rfl) ?_
  refine k_get 23 X hk (wg_30 G _) rfl (hz_wsX60 _) (Nat.le_of_ble_eq_true rfl) (List.mem_cons_of_mem _ (aw_r43 _ (List.mem_of_getElem? (i := 14) rfl))) rfl dX6_plans_21 ?_
  exact k_iret X hk hw dX6_plans_24
def wp_X6_plans (σ : Sg) (Q : Int32 → Sg → Prop) : Prop := wp_X6_goes σ (50 : Int32) (fun σ1 => ((σ1 30 23) = 0 → (((σ1 30 24) = 0 → (wp_X6_plans_20 Q   σ1)) ∧ (¬ ((σ1 30 24) = 0) → (∀ x1_5 : Int32, x1_5 = ((σ1 30 24) - (σ1 30 24) / (1000 : Int32) * (1000 : Int32)) → (wp_X6_goes σ1 ((σ1 30 24) / (1000 : Int32)) (fun σ6 => Q x1_5 σ6)))))) ∧ (¬ ((σ1 30 23) = 0) → (wp_X6_plans_20 Q   σ1)))
set_option maxHeartbeats 4000000 in
set_option maxRecDepth 100000 in
theorem c_X6_plans (l : Launch) (G : Gw) (σ : Sg) (Q : Int32 → Sg → Prop) (hw : wp_X6_plans σ  Q) : MetI l yX6_plans wz_X6_plans rm_X6_plans G σ [.ref (G.1 30)] Q := by
  refine MetI.of cX6_plans 2 (some .int) (by decide) rfl (Nat.le_of_ble_eq_true rfl) ?_
  intro p e s m below meth c X hk ls hl
  have X : KC p m meth c cX6_plans 2 s _ wz_X6_plans RX6 (some .int) G := X
  have hl : lv_has ls 2 [(0, .ref (G.1 30))] := hl
  unfold wp_X6_plans at hw
  have hx := X.1.1
  have hb := X.1.2.1
  refine lv_aload_n hx hb dX6_plans_0 rfl (lv_at hl 0 rfl) ?_
  refine lv_bipush (v := (50 : Int32)) hx hb dX6_plans_1 (by decide) ?_
  refine k_callVv (rest := []) X hk (c_X6_goes l G _ _ _ hw) (cwV 1 X.1.2.2.2.2 (gzV (aw_r43 _ (List.mem_of_getElem? (i := 16) rfl)) (aw_r43 _ (List.mem_of_getElem? (i := 17) rfl)) (aw_r43 _ (List.mem_of_getElem? (i := 18) rfl)) (aw_r1 _ (List.mem_of_getElem? (i := 5) rfl)) (aw_r43 _ (List.mem_of_getElem? (i := 19) rfl))) rfl rfl rfl hd_X6_goes ⟨(Nat.le_of_ble_eq_true rfl), (Nat.le_of_ble_eq_true rfl)⟩) (wg_30 G _) rfl rfl hl.1 rfl (Nat.le_of_ble_eq_true rfl) dX6_plans_3 ⟨Nat.zero_le _, Nat.zero_le _⟩ (fun σ1 H locs hw hk => ?_)
  refine lv_aload_n hx hb dX6_plans_6 rfl (lv_at hl 0 rfl) ?_
  refine k_get 23 X hk (wg_30 G _) rfl (hz_wsX60 _) (Nat.le_of_ble_eq_true rfl) (List.mem_cons_of_mem _ (aw_r43 _ (List.mem_of_getElem? (i := 14) rfl))) rfl dX6_plans_7 ?_
  refine lv_if_ne (tgt := 20) hx hb dX6_plans_10 (by decide) (fun c3 => ?_) (fun c3 => ?_)
  · replace hw := hw.2 c3
    exact t_X6_plans_20 X Q   _  _ _ _ hw hk hl
  · replace hw := hw.1 c3
    refine lv_aload_n hx hb dX6_plans_13 rfl (lv_at hl 0 rfl) ?_
    refine k_get 24 X hk (wg_30 G _) rfl (hz_wsX60 _) (Nat.le_of_ble_eq_true rfl) (List.mem_cons_of_mem _ (aw_r43 _ (List.mem_of_getElem? (i := 15) rfl))) rfl dX6_plans_14 ?_
    refine lv_if_ne (tgt := 25) hx hb dX6_plans_17 (by decide) (fun c4 => ?_) (fun c4 => ?_)
    · replace hw := hw.2 c4
      refine lv_aload_n hx hb dX6_plans_25 rfl (lv_at hl 0 rfl) ?_
      refine k_get 24 X hk (wg_30 G _) rfl (hz_wsX60 _) (Nat.le_of_ble_eq_true rfl) (List.mem_cons_of_mem _ (aw_r43 _ (List.mem_of_getElem? (i := 15) rfl))) rfl dX6_plans_26 ?_
      refine lv_sipush (v := (1000 : Int32)) hx hb dX6_plans_29 (by decide) ?_
      refine lv_irem hx hb dX6_plans_32 (by decide) ?_
      refine lv_topi (fun x1_5 ex1_5 => ?_)
      replace hw := hw x1_5 ex1_5
      refine lv_istore_n (lv' := [(1, .int x1_5), (0, .ref (G.1 30))]) hx hb dX6_plans_33 rfl hl (Nat.le_of_ble_eq_true rfl) rfl (fun ls hl => ?_)
      refine lv_aload_n hx hb dX6_plans_34 rfl (lv_at hl 1 rfl) ?_
      refine lv_aload_n hx hb dX6_plans_35 rfl (lv_at hl 1 rfl) ?_
      refine k_get 24 X hk (wg_30 G _) rfl (hz_wsX60 _) (Nat.le_of_ble_eq_true rfl) (List.mem_cons_of_mem _ (aw_r43 _ (List.mem_of_getElem? (i := 15) rfl))) rfl dX6_plans_36 ?_
      refine lv_sipush (v := (1000 : Int32)) hx hb dX6_plans_39 (by decide) ?_
      refine lv_idiv hx hb dX6_plans_42 (by decide) ?_
      refine k_callVv (rest := []) X hk (c_X6_goes l G _ _ _ hw) (cwV 1 X.1.2.2.2.2 (gzV (aw_r43 _ (List.mem_of_getElem? (i := 16) rfl)) (aw_r43 _ (List.mem_of_getElem? (i := 17) rfl)) (aw_r43 _ (List.mem_of_getElem? (i := 18) rfl)) (aw_r1 _ (List.mem_of_getElem? (i := 5) rfl)) (aw_r43 _ (List.mem_of_getElem? (i := 19) rfl))) rfl rfl rfl hd_X6_goes ⟨(Nat.le_of_ble_eq_true rfl), (Nat.le_of_ble_eq_true rfl)⟩) (wg_30 G _) rfl rfl hl.1 rfl (Nat.le_of_ble_eq_true rfl) dX6_plans_43 ⟨Nat.zero_le _, Nat.zero_le _⟩ (fun σ6 H locs hw hk => ?_)
      refine lv_iload_n hx hb dX6_plans_46 rfl (lv_at hl 0 rfl) ?_
      exact k_iret X hk hw dX6_plans_47
    · replace hw := hw.1 c4
      exact t_X6_plans_20 X Q   _  _ _ _ hw hk hl
def rm_X6_wrong : Room := { frames := 5, cells := 0, slots := 0, locals := 116 }
abbrev wz_X6_wrong : List Cond := Cond.code yX6_wrong cX6_wrong 1 (some .int) :: wsA
theorem hd_X6_wrong : yX6_wrong.cls = RX6 ∧ yX6_wrong.cls ≠ "java/lang/invoke/MethodHandle" ∧ yX6_wrong.cls ≠ "java/lang/invoke/VarHandle" ∧ (parseMethodDescriptor yX6_wrong.desc).map (fun d => d.parameters.length) = some 0 := by decide +kernel
def wp_X6_wrong (σ : Sg) (Q : Int32 → Sg → Prop) : Prop := ∀ σ1 : Sg, σ1 = (put σ 30 0 (0 : Int32)) → (wp_X6_plans σ1  (fun r3 σ2 => Q r3 σ2))
set_option maxHeartbeats 4000000 in
set_option maxRecDepth 100000 in
theorem c_X6_wrong (l : Launch) (G : Gw) (σ : Sg) (Q : Int32 → Sg → Prop) (hw : wp_X6_wrong σ  Q) : MetI l yX6_wrong wz_X6_wrong rm_X6_wrong G σ [.ref (G.1 30)] Q := by
  refine MetI.of cX6_wrong 1 (some .int) (by decide) rfl (Nat.le_of_ble_eq_true rfl) ?_
  intro p e s m below meth c X hk ls hl
  have X : KC p m meth c cX6_wrong 1 s _ wz_X6_wrong RX6 (some .int) G := X
  have hl : lv_has ls 1 [(0, .ref (G.1 30))] := hl
  unfold wp_X6_wrong at hw
  have hx := X.1.1
  have hb := X.1.2.1
  refine lv_aload_n hx hb dX6_wrong_0 rfl (lv_at hl 0 rfl) ?_
  refine lv_iconst (v := (0 : Int32)) hx hb dX6_wrong_1 (by decide) ?_
  refine k_put 0 X hk (wg_30 G _) rfl (hz_wsX60 _) tyX6_ok nmX6 (Nat.le_of_ble_eq_true rfl) (List.mem_cons_of_mem _ (aw_r6 _ (List.mem_of_getElem? (i := 3) rfl))) rfl rfl (Nat.le_of_ble_eq_true rfl) (ws_30_0 G _ _) dX6_wrong_2 (fun H locs hk => ?_)
  obtain ⟨σ1, eσ1⟩ : ∃ y : Sg, y = (put σ 30 0 (0 : Int32)) := ⟨_, rfl⟩
  rw [← eσ1] at hk
  replace hw := hw σ1 eσ1
  refine lv_aload_n hx hb dX6_wrong_5 rfl (lv_at hl 0 rfl) ?_
  refine k_callVi (rest := []) X hk (c_X6_plans l G _  _ hw) (cwV 0 X.1.2.2.2.2 (gzV (aw_r43 _ (List.mem_of_getElem? (i := 10) rfl)) (aw_r43 _ (List.mem_of_getElem? (i := 11) rfl)) (aw_r43 _ (List.mem_of_getElem? (i := 12) rfl)) (aw_r1 _ (List.mem_of_getElem? (i := 5) rfl)) (aw_r43 _ (List.mem_of_getElem? (i := 13) rfl))) rfl rfl rfl hd_X6_plans ⟨(Nat.le_of_ble_eq_true rfl), (Nat.le_of_ble_eq_true rfl)⟩) (wg_30 G _) rfl rfl hl.1 rfl (Nat.le_of_ble_eq_true rfl) dX6_wrong_6 ⟨Nat.zero_le _, Nat.zero_le _⟩ (fun r3 σ2 H locs hw hk => ?_)
  exact k_iret X hk hw dX6_wrong_9
def rm_X6_planned : Room := { frames := 0, cells := 0, slots := 0, locals := 0 }
abbrev wz_X6_planned : List Cond := Cond.code yX6_planned cX6_planned 3 (some .int) :: wsA
theorem hd_X6_planned : yX6_planned.cls = RX6 ∧ yX6_planned.cls ≠ "java/lang/invoke/MethodHandle" ∧ yX6_planned.cls ≠ "java/lang/invoke/VarHandle" ∧ (parseMethodDescriptor yX6_planned.desc).map (fun d => d.parameters.length) = some 0 := by decide +kernel
def wp_X6_planned_4 (Q : Int32 → Sg → Prop)  : Nat → Int32 → Int32 → Sg → Prop
  | 0, _, _, _ => False
  | n + 1, x1, x2, σ => ((480 : Int32) ≤ x2 → (Q x1 σ)) ∧ (¬ ((480 : Int32) ≤ x2) → (vp_in x2 480 ∧ (∀ x1_2 : Int32, x1_2 = (x1 + (σ 41 (x2).toNatClampNeg)) → (∀ x2_3 : Int32, x2_3 = (x2 + (1 : Int32)) → (wp_X6_planned_4 Q  n x1_2 x2_3 σ)))))
set_option maxHeartbeats 4000000 in
set_option maxRecDepth 100000 in
theorem t_X6_planned_4 {p : Program} {l : Launch} {e : Env} {s : State} {m : MethodId} {args : Array Value} {below : List Frame} {meth : Method} {c : Code} {G : Gw} (X : KC p m meth c cX6_planned 3 s args wz_X6_planned RX6 (some .int) G) (Q : Int32 → Sg → Prop)  : ∀ (n : Nat) (σ : Sg) (x1 x2 : Int32) (H : Heap) (locs : List Loc) (ls : Array Slot), wp_X6_planned_4 Q  n x1 x2 σ → WK G s H locs σ → lv_has ls 3 [(0, .ref (G.1 30)), (1, .int x1), (2, .int x2)] → W p l e rm_X6_planned s m args below meth c H locs 0 0 (ZI below args s G Q) (F0 m 4 ls []) := by
  have hx := X.1.1
  have hb := X.1.2.1
  intro n
  induction n with
  | zero =>
    intro σ x1 x2 H locs ls hw hk hl
    exact False.elim hw
  | succ n ih =>
    intro σ x1 x2 H locs ls hw hk hl
    rw [wp_X6_planned_4] at hw
    refine lv_iload_n hx hb dX6_planned_4 rfl (lv_at hl 2 rfl) ?_
    refine lv_sipush (v := (480 : Int32)) hx hb dX6_planned_5 (by decide) ?_
    refine lv_icmp_ge (tgt := 26) hx hb dX6_planned_8 (by decide) (fun c1 => ?_) (fun c1 => ?_)
    · replace hw := hw.1 c1
      refine lv_iload_n hx hb dX6_planned_26 rfl (lv_at hl 1 rfl) ?_
      exact k_iret X hk hw dX6_planned_27
    · replace hw := hw.2 c1
      refine lv_iload_n hx hb dX6_planned_11 rfl (lv_at hl 1 rfl) ?_
      refine lv_aload_n hx hb dX6_planned_12 rfl (lv_at hl 0 rfl) ?_
      refine k_get 17 X hk (wg_30 G _) rfl (hz_wsX60 _) (Nat.le_of_ble_eq_true rfl) (List.mem_cons_of_mem _ (aw_r5 _ (List.mem_of_getElem? (i := 3) rfl))) rfl dX6_planned_13 ?_
      refine lv_iload_n hx hb dX6_planned_16 rfl (lv_at hl 2 rfl) ?_
      refine k_iald X hk (wg_41 G _) hw.1 dX6_planned_17 ?_
      replace hw := hw.2
      refine lv_iadd hx hb dX6_planned_18 ?_
      refine lv_topi (fun x1_2 ex1_2 => ?_)
      replace hw := hw x1_2 ex1_2
      refine lv_istore_n (lv' := [(1, .int x1_2), (0, .ref (G.1 30)), (2, .int x2)]) hx hb dX6_planned_19 rfl hl (Nat.le_of_ble_eq_true rfl) rfl (fun ls hl => ?_)
      obtain ⟨x2_3, ex2_3⟩ : ∃ y : Int32, y = (x2 + (1 : Int32)) := ⟨_, rfl⟩
      replace hw := hw x2_3 ex2_3
      refine lv_iinc (v := x2_3) (lv' := [(2, .int x2_3), (1, .int x1_2), (0, .ref (G.1 30))]) hx hb dX6_planned_20 hl (k := 2) rfl (by rw [ex2_3]; rfl) (Nat.le_of_ble_eq_true rfl) rfl (fun ls hl => ?_)
      refine lv_goto (tgt := 4) hx hb dX6_planned_23 (by decide) ?_
      exact ih _ _ _ _ _ _ hw hk (lv_sub hl [2, 1, 0] rfl)
def wp_X6_planned (σ : Sg) (Q : Int32 → Sg → Prop) : Prop := ∃ n0, wp_X6_planned_4 Q  n0 (0 : Int32) (0 : Int32) σ
set_option maxHeartbeats 4000000 in
set_option maxRecDepth 100000 in
theorem c_X6_planned (l : Launch) (G : Gw) (σ : Sg) (Q : Int32 → Sg → Prop) (hw : wp_X6_planned σ  Q) : MetI l yX6_planned wz_X6_planned rm_X6_planned G σ [.ref (G.1 30)] Q := by
  refine MetI.of cX6_planned 3 (some .int) (by decide) rfl (Nat.le_of_ble_eq_true rfl) ?_
  intro p e s m below meth c X hk ls hl
  have X : KC p m meth c cX6_planned 3 s _ wz_X6_planned RX6 (some .int) G := X
  have hl : lv_has ls 3 [(0, .ref (G.1 30))] := hl
  unfold wp_X6_planned at hw
  have hx := X.1.1
  have hb := X.1.2.1
  refine lv_iconst (v := (0 : Int32)) hx hb dX6_planned_0 (by decide) ?_
  refine lv_istore_n (lv' := [(1, .int (0 : Int32)), (0, .ref (G.1 30))]) hx hb dX6_planned_1 rfl hl (Nat.le_of_ble_eq_true rfl) rfl (fun ls hl => ?_)
  refine lv_iconst (v := (0 : Int32)) hx hb dX6_planned_2 (by decide) ?_
  refine lv_istore_n (lv' := [(2, .int (0 : Int32)), (1, .int (0 : Int32)), (0, .ref (G.1 30))]) hx hb dX6_planned_3 rfl hl (Nat.le_of_ble_eq_true rfl) rfl (fun ls hl => ?_)
  obtain ⟨n0, hw⟩ := hw
  exact t_X6_planned_4 X Q   n0 _ _ _ _ _ _ hw hk (lv_sub hl [2, 1, 0] rfl)
def rm_X6_planned_ : Room := { frames := 5, cells := 0, slots := 0, locals := 116 }
abbrev wz_X6_planned_ : List Cond := Cond.code yX6_planned_ cX6_planned_ 5 (some .int) :: wsA
theorem hd_X6_planned_ : yX6_planned_.cls = RX6 ∧ yX6_planned_.cls ≠ "java/lang/invoke/MethodHandle" ∧ yX6_planned_.cls ≠ "java/lang/invoke/VarHandle" ∧ (parseMethodDescriptor yX6_planned_.desc).map (fun d => d.parameters.length) = some 1 := by decide +kernel
def wp_X6_planned__61 (Q : Int32 → Sg → Prop) (K15 : Int32 → Int32 → Int32 → Sg → Prop) (x1 x4 y0 y1 : Int32) (σ : Sg) : Prop := ∀ x3_16 : Int32, x3_16 = (y0 + y1) → (∀ x4_17 : Int32, x4_17 = (x4 + (1 : Int32)) → (K15 x1 x3_16 x4_17 σ))
set_option maxHeartbeats 4000000 in
set_option maxRecDepth 100000 in
theorem t_X6_planned__61 {p : Program} {l : Launch} {e : Env} {s : State} {m : MethodId} {args : Array Value} {below : List Frame} {meth : Method} {c : Code} {G : Gw} (X : KC p m meth c cX6_planned_ 5 s args wz_X6_planned_ RX6 (some .int) G) (Q : Int32 → Sg → Prop) (K15 : Int32 → Int32 → Int32 → Sg → Prop) (hK15 : ∀ (σ : Sg) (x1 x3 x4 : Int32) (H : Heap) (locs : List Loc) (ls : Array Slot), K15 x1 x3 x4 σ → WK G s H locs σ → lv_has ls 5 [(0, .ref (G.1 30)), (1, .int x1), (3, .int x3), (4, .int x4)] → W p l e rm_X6_planned_ s m args below meth c H locs 0 0 (ZI below args s G Q) (F0 m 15 ls [])) : ∀ (σ : Sg) (x1 x4 y0 y1 : Int32) (H : Heap) (locs : List Loc) (ls : Array Slot), wp_X6_planned__61 Q K15 x1 x4 y0 y1 σ → WK G s H locs σ → lv_has ls 5 [(0, .ref (G.1 30)), (1, .int x1), (4, .int x4)] → W p l e rm_X6_planned_ s m args below meth c H locs 0 0 (ZI below args s G Q) (F0 m 61 ls [.int y1, .int y0]) := by
  have hx := X.1.1
  have hb := X.1.2.1
  intro σ x1 x4 y0 y1 H locs ls hw hk hl
  unfold wp_X6_planned__61 at hw
  refine lv_iadd hx hb dX6_planned__61 ?_
  refine lv_topi (fun x3_16 ex3_16 => ?_)
  replace hw := hw x3_16 ex3_16
  refine lv_istore_n (lv' := [(3, .int x3_16), (0, .ref (G.1 30)), (1, .int x1), (4, .int x4)]) hx hb dX6_planned__62 rfl hl (Nat.le_of_ble_eq_true rfl) rfl (fun ls hl => ?_)
  obtain ⟨x4_17, ex4_17⟩ : ∃ y : Int32, y = (x4 + (1 : Int32)) := ⟨_, rfl⟩
  replace hw := hw x4_17 ex4_17
  refine lv_iinc (v := x4_17) (lv' := [(4, .int x4_17), (3, .int x3_16), (0, .ref (G.1 30)), (1, .int x1)]) hx hb dX6_planned__63 hl (k := 3) rfl (by rw [ex4_17]; rfl) (Nat.le_of_ble_eq_true rfl) rfl (fun ls hl => ?_)
  refine lv_goto (tgt := 15) hx hb dX6_planned__66 (by decide) ?_
  exact hK15 _ _ _ _ _ _ _ hw hk (lv_sub hl [2, 3, 1, 0] rfl)
def wp_X6_planned__15 (Q : Int32 → Sg → Prop)  : Nat → Int32 → Int32 → Int32 → Sg → Prop
  | 0, _, _, _, _ => False
  | n + 1, x1, x3, x4, σ => wp_X6_places σ  (fun r5 σ4 => (r5 ≤ x4 → ((x1 = (0 : Int32) → (Q x3 σ4)) ∧ (x1 = (1 : Int32) → (Q (σ4 30 26) σ4)) ∧ (x1 = (2 : Int32) → (wp_X6_planned σ4  (fun r11 σ10 => Q r11 σ10))) ∧ (x1 = (3 : Int32) → (Q x3 σ4)) ∧ (x1 = (4 : Int32) → (Q x3 σ4)) ∧ (¬ x1 = (0 : Int32) → ¬ x1 = (1 : Int32) → ¬ x1 = (2 : Int32) → ¬ x1 = (3 : Int32) → ¬ x1 = (4 : Int32) → (Q (-1 : Int32) σ4)))) ∧ (¬ (r5 ≤ x4) → ((x1 = 0 → (vp_in x4 8 ∧ (wp_X6_planned__61 Q (fun z1 z3 z4 σ => wp_X6_planned__15 Q  n z1 z3 z4 σ) x1 x4 x3 (σ4 44 (x4).toNatClampNeg) σ4))) ∧ (¬ (x1 = 0) → ((x1 = (3 : Int32) → (vp_in x4 8 ∧ (wp_X6_planned__61 Q (fun z1 z3 z4 σ => wp_X6_planned__15 Q  n z1 z3 z4 σ) x1 x4 x3 (σ4 42 (x4).toNatClampNeg) σ4))) ∧ (¬ (x1 = (3 : Int32)) → (vp_in x4 8 ∧ (wp_X6_planned__61 Q (fun z1 z3 z4 σ => wp_X6_planned__15 Q  n z1 z3 z4 σ) x1 x4 x3 (σ4 43 (x4).toNatClampNeg) σ4))))))))
set_option maxHeartbeats 4000000 in
set_option maxRecDepth 100000 in
theorem t_X6_planned__15 {p : Program} {l : Launch} {e : Env} {s : State} {m : MethodId} {args : Array Value} {below : List Frame} {meth : Method} {c : Code} {G : Gw} (X : KC p m meth c cX6_planned_ 5 s args wz_X6_planned_ RX6 (some .int) G) (Q : Int32 → Sg → Prop)  : ∀ (n : Nat) (σ : Sg) (x1 x3 x4 : Int32) (H : Heap) (locs : List Loc) (ls : Array Slot), wp_X6_planned__15 Q  n x1 x3 x4 σ → WK G s H locs σ → lv_has ls 5 [(0, .ref (G.1 30)), (1, .int x1), (3, .int x3), (4, .int x4)] → W p l e rm_X6_planned_ s m args below meth c H locs 0 0 (ZI below args s G Q) (F0 m 15 ls []) := by
  have hx := X.1.1
  have hb := X.1.2.1
  intro n
  induction n with
  | zero =>
    intro σ x1 x3 x4 H locs ls hw hk hl
    exact False.elim hw
  | succ n ih =>
    intro σ x1 x3 x4 H locs ls hw hk hl
    rw [wp_X6_planned__15] at hw
    refine lv_iload hx hb dX6_planned__15 (lv_at hl 3 rfl) ?_
    refine lv_aload_n hx hb dX6_planned__17 rfl (lv_at hl 0 rfl) ?_
    refine k_callVi (rest := [.int x4]) X hk (c_X6_places l G _  _ hw) (cwV 0 X.1.2.2.2.2 (gzV (aw_r15 _ (List.mem_of_getElem? (i := 14) rfl)) (aw_r15 _ (List.mem_of_getElem? (i := 15) rfl)) (aw_r15 _ (List.mem_of_getElem? (i := 16) rfl)) (aw_r1 _ (List.mem_of_getElem? (i := 5) rfl)) (aw_r15 _ (List.mem_of_getElem? (i := 17) rfl))) rfl rfl rfl hd_X6_places ⟨(Nat.le_of_ble_eq_true rfl), (Nat.le_of_ble_eq_true rfl)⟩) (wg_30 G _) rfl rfl hl.1 rfl (Nat.le_of_ble_eq_true rfl) dX6_planned__18 ⟨Nat.zero_le _, Nat.zero_le _⟩ (fun r5 σ4 H locs hw hk => ?_)
    refine lv_icmp_ge (tgt := 69) hx hb dX6_planned__21 (by decide) (fun c6 => ?_) (fun c6 => ?_)
    · replace hw := hw.1 c6
      refine lv_iload_n hx hb dX6_planned__69 rfl (lv_at hl 1 rfl) ?_
      by_cases c7 : x1 = (0 : Int32)
      · have ec7 : (x1).toInt = 0 := by rw [c7]; rfl
        refine lv_tableIn (tgt := 104) hx hb dX6_planned__70 (by rw [ec7]; decide) (by rw [ec7]; decide) (by rw [ec7]; rfl) (by decide) ?_
        replace hw := hw.1 c7
        refine lv_iload_n hx hb dX6_planned__104 rfl (lv_at hl 2 rfl) ?_
        exact k_iret X hk hw dX6_planned__105
      replace hw := hw.2
      by_cases c8 : x1 = (1 : Int32)
      · have ec8 : (x1).toInt = 1 := by rw [c8]; rfl
        refine lv_tableIn (tgt := 106) hx hb dX6_planned__70 (by rw [ec8]; decide) (by rw [ec8]; decide) (by rw [ec8]; rfl) (by decide) ?_
        replace hw := hw.1 c8
        refine lv_aload_n hx hb dX6_planned__106 rfl (lv_at hl 0 rfl) ?_
        refine k_get 26 X hk (wg_30 G _) rfl (hz_wsX60 _) (Nat.le_of_ble_eq_true rfl) (List.mem_cons_of_mem _ (aw_r43 _ (List.mem_of_getElem? (i := 21) rfl))) rfl dX6_planned__107 ?_
        exact k_iret X hk hw dX6_planned__110
      replace hw := hw.2
      by_cases c9 : x1 = (2 : Int32)
      · have ec9 : (x1).toInt = 2 := by rw [c9]; rfl
        refine lv_tableIn (tgt := 111) hx hb dX6_planned__70 (by rw [ec9]; decide) (by rw [ec9]; decide) (by rw [ec9]; rfl) (by decide) ?_
        replace hw := hw.1 c9
        refine lv_aload_n hx hb dX6_planned__111 rfl (lv_at hl 0 rfl) ?_
        refine k_callVi (rest := []) X hk (c_X6_planned l G _  _ hw) (cwV 0 X.1.2.2.2.2 (gzV (aw_r45 _ (List.mem_of_getElem? (i := 7) rfl)) (aw_r45 _ (List.mem_of_getElem? (i := 8) rfl)) (aw_r45 _ (List.mem_of_getElem? (i := 9) rfl)) (aw_r1 _ (List.mem_of_getElem? (i := 5) rfl)) (aw_r45 _ (List.mem_of_getElem? (i := 10) rfl))) rfl rfl rfl hd_X6_planned ⟨(Nat.le_of_ble_eq_true rfl), (Nat.le_of_ble_eq_true rfl)⟩) (wg_30 G _) rfl rfl hl.1 rfl (Nat.le_of_ble_eq_true rfl) dX6_planned__112 ⟨Nat.zero_le _, Nat.zero_le _⟩ (fun r11 σ10 H locs hw hk => ?_)
        exact k_iret X hk hw dX6_planned__115
      replace hw := hw.2
      by_cases c12 : x1 = (3 : Int32)
      · have ec12 : (x1).toInt = 3 := by rw [c12]; rfl
        refine lv_tableIn (tgt := 104) hx hb dX6_planned__70 (by rw [ec12]; decide) (by rw [ec12]; decide) (by rw [ec12]; rfl) (by decide) ?_
        replace hw := hw.1 c12
        refine lv_iload_n hx hb dX6_planned__104 rfl (lv_at hl 2 rfl) ?_
        exact k_iret X hk hw dX6_planned__105
      replace hw := hw.2
      by_cases c13 : x1 = (4 : Int32)
      · have ec13 : (x1).toInt = 4 := by rw [c13]; rfl
        refine lv_tableIn (tgt := 104) hx hb dX6_planned__70 (by rw [ec13]; decide) (by rw [ec13]; decide) (by rw [ec13]; rfl) (by decide) ?_
        replace hw := hw.1 c13
        refine lv_iload_n hx hb dX6_planned__104 rfl (lv_at hl 2 rfl) ?_
        exact k_iret X hk hw dX6_planned__105
      replace hw := hw.2
      have ec7 := lv_neT (a := 0) c7 rfl
      have ec8 := lv_neT (a := 1) c8 rfl
      have ec9 := lv_neT (a := 2) c9 rfl
      have ec12 := lv_neT (a := 3) c12 rfl
      have ec13 := lv_neT (a := 4) c13 rfl
      refine lv_tableOut (tgt := 116) hx hb dX6_planned__70 (by omega) (by decide) ?_
      replace hw := hw c7 c8 c9 c12 c13
      refine lv_iconst (v := (-1 : Int32)) hx hb dX6_planned__116 (by decide) ?_
      exact k_iret X hk hw dX6_planned__117
    · replace hw := hw.2 c6
      refine lv_iload_n hx hb dX6_planned__24 rfl (lv_at hl 2 rfl) ?_
      refine lv_iload_n hx hb dX6_planned__25 rfl (lv_at hl 1 rfl) ?_
      refine lv_if_ne (tgt := 39) hx hb dX6_planned__26 (by decide) (fun c14 => ?_) (fun c14 => ?_)
      · replace hw := hw.2 c14
        refine lv_iload_n hx hb dX6_planned__39 rfl (lv_at hl 1 rfl) ?_
        refine lv_iconst (v := (3 : Int32)) hx hb dX6_planned__40 (by decide) ?_
        refine lv_icmp_ne (tgt := 54) hx hb dX6_planned__41 (by decide) (fun c15 => ?_) (fun c15 => ?_)
        · replace hw := hw.2 c15
          refine lv_aload_n hx hb dX6_planned__54 rfl (lv_at hl 0 rfl) ?_
          refine k_get 19 X hk (wg_30 G _) rfl (hz_wsX60 _) (Nat.le_of_ble_eq_true rfl) (List.mem_cons_of_mem _ (aw_r5 _ (List.mem_of_getElem? (i := 5) rfl))) rfl dX6_planned__55 ?_
          refine lv_iload hx hb dX6_planned__58 (lv_at hl 3 rfl) ?_
          refine k_iald X hk (wg_43 G _) hw.1 dX6_planned__60 ?_
          replace hw := hw.2
          exact t_X6_planned__61 X Q _ ih _ _ _ _ _ _ _ _ hw hk (lv_sub hl [0, 1, 3] rfl)
        · replace hw := hw.1 c15
          refine lv_aload_n hx hb dX6_planned__44 rfl (lv_at hl 0 rfl) ?_
          refine k_get 18 X hk (wg_30 G _) rfl (hz_wsX60 _) (Nat.le_of_ble_eq_true rfl) (List.mem_cons_of_mem _ (aw_r5 _ (List.mem_of_getElem? (i := 4) rfl))) rfl dX6_planned__45 ?_
          refine lv_iload hx hb dX6_planned__48 (lv_at hl 3 rfl) ?_
          refine k_iald X hk (wg_42 G _) hw.1 dX6_planned__50 ?_
          replace hw := hw.2
          refine lv_goto (tgt := 61) hx hb dX6_planned__51 (by decide) ?_
          exact t_X6_planned__61 X Q _ ih _ _ _ _ _ _ _ _ hw hk (lv_sub hl [0, 1, 3] rfl)
      · replace hw := hw.1 c14
        refine lv_aload_n hx hb dX6_planned__29 rfl (lv_at hl 0 rfl) ?_
        refine k_get 20 X hk (wg_30 G _) rfl (hz_wsX60 _) (Nat.le_of_ble_eq_true rfl) (List.mem_cons_of_mem _ (aw_r5 _ (List.mem_of_getElem? (i := 6) rfl))) rfl dX6_planned__30 ?_
        refine lv_iload hx hb dX6_planned__33 (lv_at hl 3 rfl) ?_
        refine k_iald X hk (wg_44 G _) hw.1 dX6_planned__35 ?_
        replace hw := hw.2
        refine lv_goto (tgt := 61) hx hb dX6_planned__36 (by decide) ?_
        exact t_X6_planned__61 X Q _ ih _ _ _ _ _ _ _ _ hw hk (lv_sub hl [0, 1, 3] rfl)
def wp_X6_planned_ (σ : Sg) (p1 : Int32) (Q : Int32 → Sg → Prop) : Prop := ∀ σ1 : Sg, σ1 = (put σ 30 0 (0 : Int32)) → (wp_X6_plans σ1  (fun r3 σ2 => ∃ n0, wp_X6_planned__15 Q  n0 p1 (0 : Int32) (0 : Int32) σ2))
set_option maxHeartbeats 4000000 in
set_option maxRecDepth 100000 in
theorem c_X6_planned_ (l : Launch) (G : Gw) (σ : Sg) (p1 : Int32) (Q : Int32 → Sg → Prop) (hw : wp_X6_planned_ σ p1 Q) : MetI l yX6_planned_ wz_X6_planned_ rm_X6_planned_ G σ [.ref (G.1 30), .int p1] Q := by
  refine MetI.of cX6_planned_ 5 (some .int) (by decide) rfl (Nat.le_of_ble_eq_true rfl) ?_
  intro p e s m below meth c X hk ls hl
  have X : KC p m meth c cX6_planned_ 5 s _ wz_X6_planned_ RX6 (some .int) G := X
  have hl : lv_has ls 5 [(0, .ref (G.1 30)), (1, .int p1)] := hl
  unfold wp_X6_planned_ at hw
  have hx := X.1.1
  have hb := X.1.2.1
  refine lv_aload_n hx hb dX6_planned__0 rfl (lv_at hl 0 rfl) ?_
  refine lv_iconst (v := (0 : Int32)) hx hb dX6_planned__1 (by decide) ?_
  refine k_put 0 X hk (wg_30 G _) rfl (hz_wsX60 _) tyX6_ok nmX6 (Nat.le_of_ble_eq_true rfl) (List.mem_cons_of_mem _ (aw_r6 _ (List.mem_of_getElem? (i := 3) rfl))) rfl rfl (Nat.le_of_ble_eq_true rfl) (ws_30_0 G _ _) dX6_planned__2 (fun H locs hk => ?_)
  obtain ⟨σ1, eσ1⟩ : ∃ y : Sg, y = (put σ 30 0 (0 : Int32)) := ⟨_, rfl⟩
  rw [← eσ1] at hk
  replace hw := hw σ1 eσ1
  refine lv_aload_n hx hb dX6_planned__5 rfl (lv_at hl 0 rfl) ?_
  refine k_callVi (rest := []) X hk (c_X6_plans l G _  _ hw) (cwV 0 X.1.2.2.2.2 (gzV (aw_r43 _ (List.mem_of_getElem? (i := 10) rfl)) (aw_r43 _ (List.mem_of_getElem? (i := 11) rfl)) (aw_r43 _ (List.mem_of_getElem? (i := 12) rfl)) (aw_r1 _ (List.mem_of_getElem? (i := 5) rfl)) (aw_r43 _ (List.mem_of_getElem? (i := 13) rfl))) rfl rfl rfl hd_X6_plans ⟨(Nat.le_of_ble_eq_true rfl), (Nat.le_of_ble_eq_true rfl)⟩) (wg_30 G _) rfl rfl hl.1 rfl (Nat.le_of_ble_eq_true rfl) dX6_planned__6 ⟨Nat.zero_le _, Nat.zero_le _⟩ (fun r3 σ2 H locs hw hk => ?_)
  refine lv_istore_n (lv' := [(2, .int r3), (0, .ref (G.1 30)), (1, .int p1)]) hx hb dX6_planned__9 rfl hl (Nat.le_of_ble_eq_true rfl) rfl (fun ls hl => ?_)
  refine lv_iconst (v := (0 : Int32)) hx hb dX6_planned__10 (by decide) ?_
  refine lv_istore_n (lv' := [(3, .int (0 : Int32)), (2, .int r3), (0, .ref (G.1 30)), (1, .int p1)]) hx hb dX6_planned__11 rfl hl (Nat.le_of_ble_eq_true rfl) rfl (fun ls hl => ?_)
  refine lv_iconst (v := (0 : Int32)) hx hb dX6_planned__12 (by decide) ?_
  refine lv_istore (lv' := [(4, .int (0 : Int32)), (3, .int (0 : Int32)), (2, .int r3), (0, .ref (G.1 30)), (1, .int p1)]) hx hb dX6_planned__13 hl (Nat.le_of_ble_eq_true rfl) rfl (fun ls hl => ?_)
  obtain ⟨n0, hw⟩ := hw
  exact t_X6_planned__15 X Q   n0 _ _ _ _ _ _ _ hw hk (lv_sub hl [3, 4, 1, 0] rfl)
def rm_X6_there : Room := { frames := 5, cells := 0, slots := 0, locals := 116 }
abbrev wz_X6_there : List Cond := Cond.code yX6_there cX6_there 5 (some .int) :: wsA
theorem hd_X6_there : yX6_there.cls = RX6 ∧ yX6_there.cls ≠ "java/lang/invoke/MethodHandle" ∧ yX6_there.cls ≠ "java/lang/invoke/VarHandle" ∧ (parseMethodDescriptor yX6_there.desc).map (fun d => d.parameters.length) = some 3 := by decide +kernel
def wp_X6_there (σ : Sg) (p1 p2 p3 : Int32) (Q : Int32 → Sg → Prop) : Prop := ∀ σ1 : Sg, σ1 = (put σ 30 0 (0 : Int32)) → (wp_X6_isPlace σ1 p1 (fun r3 σ2 => (r3 = 0 → (Q (-1 : Int32) σ2)) ∧ (¬ (r3 = 0) → (wp_X6_isIn σ2 p2 (0 : Int32) (50 : Int32) (fun r6 σ5 => (r6 = 0 → (Q (-1 : Int32) σ5)) ∧ (¬ (r6 = 0) → (wp_X6_isIn σ5 p3 (0 : Int32) (2 : Int32) (fun r9 σ8 => (r9 = 0 → (Q (-1 : Int32) σ8)) ∧ (¬ (r9 = 0) → (wp_X6_plans σ8  (fun r12 σ11 => ((σ11 30 25) ≤ p2 → (Q (-1 : Int32) σ11)) ∧ (¬ ((σ11 30 25) ≤ p2) → (vp_in ((((24 : Int32) * p2) + ((3 : Int32) * p1)) + p3) 1224 ∧ (Q (σ11 45 (((((24 : Int32) * p2) + ((3 : Int32) * p1)) + p3)).toNatClampNeg) σ11))))))))))))))
set_option maxHeartbeats 4000000 in
set_option maxRecDepth 100000 in
theorem c_X6_there (l : Launch) (G : Gw) (σ : Sg) (p1 p2 p3 : Int32) (Q : Int32 → Sg → Prop) (hw : wp_X6_there σ p1 p2 p3 Q) : MetI l yX6_there wz_X6_there rm_X6_there G σ [.ref (G.1 30), .int p1, .int p2, .int p3] Q := by
  refine MetI.of cX6_there 5 (some .int) (by decide) rfl (Nat.le_of_ble_eq_true rfl) ?_
  intro p e s m below meth c X hk ls hl
  have X : KC p m meth c cX6_there 5 s _ wz_X6_there RX6 (some .int) G := X
  have hl : lv_has ls 5 [(0, .ref (G.1 30)), (1, .int p1), (2, .int p2), (3, .int p3)] := hl
  unfold wp_X6_there at hw
  have hx := X.1.1
  have hb := X.1.2.1
  refine lv_aload_n hx hb dX6_there_0 rfl (lv_at hl 0 rfl) ?_
  refine lv_iconst (v := (0 : Int32)) hx hb dX6_there_1 (by decide) ?_
  refine k_put 0 X hk (wg_30 G _) rfl (hz_wsX60 _) tyX6_ok nmX6 (Nat.le_of_ble_eq_true rfl) (List.mem_cons_of_mem _ (aw_r6 _ (List.mem_of_getElem? (i := 3) rfl))) rfl rfl (Nat.le_of_ble_eq_true rfl) (ws_30_0 G _ _) dX6_there_2 (fun H locs hk => ?_)
  obtain ⟨σ1, eσ1⟩ : ∃ y : Sg, y = (put σ 30 0 (0 : Int32)) := ⟨_, rfl⟩
  rw [← eσ1] at hk
  replace hw := hw σ1 eσ1
  refine lv_aload_n hx hb dX6_there_5 rfl (lv_at hl 0 rfl) ?_
  refine lv_iload_n hx hb dX6_there_6 rfl (lv_at hl 1 rfl) ?_
  refine k_callVi (rest := []) X hk (c_X6_isPlace l G _ _ _ hw) (cwV 1 X.1.2.2.2.2 (gzV (aw_r20 _ (List.mem_of_getElem? (i := 0) rfl)) (aw_r20 _ (List.mem_of_getElem? (i := 1) rfl)) (aw_r20 _ (List.mem_of_getElem? (i := 2) rfl)) (aw_r1 _ (List.mem_of_getElem? (i := 5) rfl)) (aw_r20 _ (List.mem_of_getElem? (i := 3) rfl))) rfl rfl rfl hd_X6_isPlace ⟨(Nat.le_of_ble_eq_true rfl), (Nat.le_of_ble_eq_true rfl)⟩) (wg_30 G _) rfl rfl hl.1 rfl (Nat.le_of_ble_eq_true rfl) dX6_there_7 ⟨Nat.zero_le _, Nat.zero_le _⟩ (fun r3 σ2 H locs hw hk => ?_)
  refine lv_if_eq (tgt := 32) hx hb dX6_there_10 (by decide) (fun c4 => ?_) (fun c4 => ?_)
  · replace hw := hw.1 c4
    refine lv_iconst (v := (-1 : Int32)) hx hb dX6_there_32 (by decide) ?_
    exact k_iret X hk hw dX6_there_33
  · replace hw := hw.2 c4
    refine lv_iload_n hx hb dX6_there_13 rfl (lv_at hl 2 rfl) ?_
    refine lv_iconst (v := (0 : Int32)) hx hb dX6_there_14 (by decide) ?_
    refine lv_bipush (v := (50 : Int32)) hx hb dX6_there_15 (by decide) ?_
    refine k_callSi (rest := []) X hk (c_X6_isIn l G _ _ _ _ _ hw) (va_cwS 3 X.1.2.2.2.2 (gzS (aw_r6 _ (List.mem_of_getElem? (i := 17) rfl)) (aw_r6 _ (List.mem_of_getElem? (i := 18) rfl)) (aw_r1 _ (List.mem_of_getElem? (i := 5) rfl)) (aw_r6 _ (List.mem_of_getElem? (i := 19) rfl))) rfl rfl rfl hds_X6_isIn ⟨(Nat.le_of_ble_eq_true rfl), (Nat.le_of_ble_eq_true rfl)⟩) rfl hl.1 rfl (Nat.le_of_ble_eq_true rfl) dX6_there_17 ⟨Nat.zero_le _, Nat.zero_le _⟩ (fun r6 σ5 H locs hw hk => ?_)
    refine lv_if_eq (tgt := 32) hx hb dX6_there_20 (by decide) (fun c7 => ?_) (fun c7 => ?_)
    · replace hw := hw.1 c7
      refine lv_iconst (v := (-1 : Int32)) hx hb dX6_there_32 (by decide) ?_
      exact k_iret X hk hw dX6_there_33
    · replace hw := hw.2 c7
      refine lv_iload_n hx hb dX6_there_23 rfl (lv_at hl 3 rfl) ?_
      refine lv_iconst (v := (0 : Int32)) hx hb dX6_there_24 (by decide) ?_
      refine lv_iconst (v := (2 : Int32)) hx hb dX6_there_25 (by decide) ?_
      refine k_callSi (rest := []) X hk (c_X6_isIn l G _ _ _ _ _ hw) (va_cwS 3 X.1.2.2.2.2 (gzS (aw_r6 _ (List.mem_of_getElem? (i := 17) rfl)) (aw_r6 _ (List.mem_of_getElem? (i := 18) rfl)) (aw_r1 _ (List.mem_of_getElem? (i := 5) rfl)) (aw_r6 _ (List.mem_of_getElem? (i := 19) rfl))) rfl rfl rfl hds_X6_isIn ⟨(Nat.le_of_ble_eq_true rfl), (Nat.le_of_ble_eq_true rfl)⟩) rfl hl.1 rfl (Nat.le_of_ble_eq_true rfl) dX6_there_26 ⟨Nat.zero_le _, Nat.zero_le _⟩ (fun r9 σ8 H locs hw hk => ?_)
      refine lv_if_ne (tgt := 34) hx hb dX6_there_29 (by decide) (fun c10 => ?_) (fun c10 => ?_)
      · replace hw := hw.2 c10
        refine lv_aload_n hx hb dX6_there_34 rfl (lv_at hl 0 rfl) ?_
        refine k_callVi (rest := []) X hk (c_X6_plans l G _  _ hw) (cwV 0 X.1.2.2.2.2 (gzV (aw_r43 _ (List.mem_of_getElem? (i := 10) rfl)) (aw_r43 _ (List.mem_of_getElem? (i := 11) rfl)) (aw_r43 _ (List.mem_of_getElem? (i := 12) rfl)) (aw_r1 _ (List.mem_of_getElem? (i := 5) rfl)) (aw_r43 _ (List.mem_of_getElem? (i := 13) rfl))) rfl rfl rfl hd_X6_plans ⟨(Nat.le_of_ble_eq_true rfl), (Nat.le_of_ble_eq_true rfl)⟩) (wg_30 G _) rfl rfl hl.1 rfl (Nat.le_of_ble_eq_true rfl) dX6_there_35 ⟨Nat.zero_le _, Nat.zero_le _⟩ (fun r12 σ11 H locs hw hk => ?_)
        refine lv_istore (lv' := [(4, .int r12), (0, .ref (G.1 30)), (1, .int p1), (2, .int p2), (3, .int p3)]) hx hb dX6_there_38 hl (Nat.le_of_ble_eq_true rfl) rfl (fun ls hl => ?_)
        refine lv_iload_n hx hb dX6_there_40 rfl (lv_at hl 3 rfl) ?_
        refine lv_aload_n hx hb dX6_there_41 rfl (lv_at hl 1 rfl) ?_
        refine k_get 25 X hk (wg_30 G _) rfl (hz_wsX60 _) (Nat.le_of_ble_eq_true rfl) (List.mem_cons_of_mem _ (aw_r43 _ (List.mem_of_getElem? (i := 20) rfl))) rfl dX6_there_42 ?_
        refine lv_icmp_ge (tgt := 66) hx hb dX6_there_45 (by decide) (fun c13 => ?_) (fun c13 => ?_)
        · replace hw := hw.1 c13
          refine lv_iconst (v := (-1 : Int32)) hx hb dX6_there_66 (by decide) ?_
          exact k_iret X hk hw dX6_there_67
        · replace hw := hw.2 c13
          refine lv_aload_n hx hb dX6_there_48 rfl (lv_at hl 1 rfl) ?_
          refine k_get 21 X hk (wg_30 G _) rfl (hz_wsX60 _) (Nat.le_of_ble_eq_true rfl) (List.mem_cons_of_mem _ (aw_r5 _ (List.mem_of_getElem? (i := 7) rfl))) rfl dX6_there_49 ?_
          refine lv_bipush (v := (24 : Int32)) hx hb dX6_there_52 (by decide) ?_
          refine lv_iload_n hx hb dX6_there_54 rfl (lv_at hl 3 rfl) ?_
          refine lv_imul hx hb dX6_there_55 ?_
          refine lv_iconst (v := (3 : Int32)) hx hb dX6_there_56 (by decide) ?_
          refine lv_iload_n hx hb dX6_there_57 rfl (lv_at hl 2 rfl) ?_
          refine lv_imul hx hb dX6_there_58 ?_
          refine lv_iadd hx hb dX6_there_59 ?_
          refine lv_iload_n hx hb dX6_there_60 rfl (lv_at hl 4 rfl) ?_
          refine lv_iadd hx hb dX6_there_61 ?_
          refine k_iald X hk (wg_45 G _) hw.1 dX6_there_62 ?_
          replace hw := hw.2
          refine lv_goto (tgt := 67) hx hb dX6_there_63 (by decide) ?_
          exact k_iret X hk hw dX6_there_67
      · replace hw := hw.1 c10
        refine lv_iconst (v := (-1 : Int32)) hx hb dX6_there_32 (by decide) ?_
        exact k_iret X hk hw dX6_there_33
