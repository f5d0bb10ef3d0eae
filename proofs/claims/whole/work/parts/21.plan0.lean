def rm_X1_part : Room := { frames := 0, cells := 0, slots := 0, locals := 0 }
abbrev wz_X1_part : List Cond := Cond.code yX1_part cX1_part 3 (some .int) :: wsA
theorem hd_X1_part : yX1_part.cls = RX1 ∧ yX1_part.cls ≠ "java/lang/invoke/MethodHandle" ∧ yX1_part.cls ≠ "java/lang/invoke/VarHandle" ∧ (parseMethodDescriptor yX1_part.desc).map (fun d => d.parameters.length) = some 2 := by decide +kernel
def wp_X1_part (σ : Sg) (p1 p2 : Int32) (Q : Int32 → Sg → Prop) : Prop := vp_in ((p1 * (4 : Int32)) + p2) 160 ∧ (Q (σ 13 (((p1 * (4 : Int32)) + p2)).toNatClampNeg) σ)
set_option maxHeartbeats 4000000 in
set_option maxRecDepth 100000 in
theorem c_X1_part (l : Launch) (G : Gw) (σ : Sg) (p1 p2 : Int32) (Q : Int32 → Sg → Prop) (hw : wp_X1_part σ p1 p2 Q) : MetI l yX1_part wz_X1_part rm_X1_part G σ [.ref (G.1 2), .int p1, .int p2] Q := by
  refine MetI.of cX1_part 3 (some .int) (by decide) rfl (Nat.le_of_ble_eq_true rfl) ?_
  intro p e s m below meth c X hk ls hl
  have X : KC p m meth c cX1_part 3 s _ wz_X1_part RX1 (some .int) G := X
  have hl : lv_has ls 3 [(0, .ref (G.1 2)), (1, .int p1), (2, .int p2)] := hl
  unfold wp_X1_part at hw
  have hx := X.1.1
  have hb := X.1.2.1
  refine lv_aload_n hx hb dX1_part_0 rfl (lv_at hl 0 rfl) ?_
  refine k_get 9 X hk (wg_2 G _) rfl (hz_wsX10 _) (Nat.le_of_ble_eq_true rfl) (List.mem_cons_of_mem _ (aw_r3 _ (List.mem_of_getElem? (i := 0) rfl))) rfl dX1_part_1 ?_
  refine lv_iload_n hx hb dX1_part_4 rfl (lv_at hl 1 rfl) ?_
  refine lv_iconst (v := (4 : Int32)) hx hb dX1_part_5 (by decide) ?_
  refine lv_imul hx hb dX1_part_6 ?_
  refine lv_iload_n hx hb dX1_part_7 rfl (lv_at hl 2 rfl) ?_
  refine lv_iadd hx hb dX1_part_8 ?_
  refine k_iald X hk (wg_13 G _) hw.1 dX1_part_9 ?_
  replace hw := hw.2
  exact k_iret X hk hw dX1_part_10
def rm_X1_moveFits : Room := { frames := 1, cells := 0, slots := 0, locals := 21 }
abbrev wz_X1_moveFits : List Cond := Cond.code yX1_moveFits cX1_moveFits 3 (some .boolean) :: wsA
theorem hd_X1_moveFits : yX1_moveFits.cls = RX1 ∧ yX1_moveFits.cls ≠ "java/lang/invoke/MethodHandle" ∧ yX1_moveFits.cls ≠ "java/lang/invoke/VarHandle" ∧ (parseMethodDescriptor yX1_moveFits.desc).map (fun d => d.parameters.length) = some 2 := by decide +kernel
def wp_X1_moveFits (σ : Sg) (p1 p2 : Int32) (Q : Int32 → Sg → Prop) : Prop := (p1 = (0 : Int32) → ((p2 < 0 → (bz (0 : Int32) ∧ Q (0 : Int32) σ)) ∧ (¬ (p2 < 0) → (((40 : Int32) < p2 → (bz (0 : Int32) ∧ Q (0 : Int32) σ)) ∧ (¬ ((40 : Int32) < p2) → (bz (1 : Int32) ∧ Q (1 : Int32) σ)))))) ∧ (p1 = (1 : Int32) → (wp_X3_hasRoad σ p2 (fun r6 σ5 => bz r6 ∧ Q r6 σ5))) ∧ (¬ p1 = (0 : Int32) → ¬ p1 = (1 : Int32) → ((p2 < (1 : Int32) → (bz (0 : Int32) ∧ Q (0 : Int32) σ)) ∧ (¬ (p2 < (1 : Int32)) → (((60 : Int32) < p2 → (bz (0 : Int32) ∧ Q (0 : Int32) σ)) ∧ (¬ ((60 : Int32) < p2) → (bz (1 : Int32) ∧ Q (1 : Int32) σ))))))
set_option maxHeartbeats 4000000 in
set_option maxRecDepth 100000 in
theorem c_X1_moveFits (l : Launch) (G : Gw) (σ : Sg) (p1 p2 : Int32) (Q : Int32 → Sg → Prop) (hw : wp_X1_moveFits σ p1 p2 Q) : MetI l yX1_moveFits wz_X1_moveFits rm_X1_moveFits G σ [.ref (G.1 2), .int p1, .int p2] Q := by
  refine MetI.of cX1_moveFits 3 (some .boolean) (by decide) rfl (Nat.le_of_ble_eq_true rfl) ?_
  intro p e s m below meth c X hk ls hl
  have X : KC p m meth c cX1_moveFits 3 s _ wz_X1_moveFits RX1 (some .boolean) G := X
  have hl : lv_has ls 3 [(0, .ref (G.1 2)), (1, .int p1), (2, .int p2)] := hl
  unfold wp_X1_moveFits at hw
  have hx := X.1.1
  have hb := X.1.2.1
  refine lv_iload_n hx hb dX1_moveFits_0 rfl (lv_at hl 1 rfl) ?_
  by_cases c1 : p1 = (0 : Int32)
  · have ec1 : (p1).toInt = 0 := by rw [c1]; rfl
    refine lv_lookup (tgt := 28) (off := 27) hx hb dX1_moveFits_1 rfl (by rw [ec1]; try rfl) (by decide) ?_
    replace hw := hw.1 c1
    refine lv_iload_n hx hb dX1_moveFits_28 rfl (lv_at hl 2 rfl) ?_
    refine lv_if_lt (tgt := 42) hx hb dX1_moveFits_29 (by decide) (fun c2 => ?_) (fun c2 => ?_)
    · replace hw := hw.1 c2
      refine lv_iconst (v := (0 : Int32)) hx hb dX1_moveFits_42 (by decide) ?_
      exact k_zret X hk hw dX1_moveFits_43
    · replace hw := hw.2 c2
      refine lv_iload_n hx hb dX1_moveFits_32 rfl (lv_at hl 2 rfl) ?_
      refine lv_bipush (v := (40 : Int32)) hx hb dX1_moveFits_33 (by decide) ?_
      refine lv_icmp_gt (tgt := 42) hx hb dX1_moveFits_35 (by decide) (fun c3 => ?_) (fun c3 => ?_)
      · replace hw := hw.1 c3
        refine lv_iconst (v := (0 : Int32)) hx hb dX1_moveFits_42 (by decide) ?_
        exact k_zret X hk hw dX1_moveFits_43
      · replace hw := hw.2 c3
        refine lv_iconst (v := (1 : Int32)) hx hb dX1_moveFits_38 (by decide) ?_
        refine lv_goto (tgt := 43) hx hb dX1_moveFits_39 (by decide) ?_
        exact k_zret X hk hw dX1_moveFits_43
  replace hw := hw.2
  by_cases c4 : p1 = (1 : Int32)
  · have ec4 : (p1).toInt = 1 := by rw [c4]; rfl
    refine lv_lookup (tgt := 44) (off := 43) hx hb dX1_moveFits_1 rfl (by rw [ec4]; try rfl) (by decide) ?_
    replace hw := hw.1 c4
    refine lv_aload_n hx hb dX1_moveFits_44 rfl (lv_at hl 0 rfl) ?_
    refine k_get 8 X hk (wg_2 G _) rfl (hz_wsX10 _) (Nat.le_of_ble_eq_true rfl) (List.mem_cons_of_mem _ (aw_r3 _ (List.mem_of_getElem? (i := 3) rfl))) rfl dX1_moveFits_45 ?_
    refine lv_iload_n hx hb dX1_moveFits_48 rfl (lv_at hl 2 rfl) ?_
    refine k_callVi (rest := []) X hk (c_X3_hasRoad l G _ _ _ hw) (cwV 1 X.1.2.2.2.2 (gzV (aw_r13 _ (List.mem_of_getElem? (i := 5) rfl)) (aw_r12 _ (List.mem_of_getElem? (i := 16) rfl)) (aw_r12 _ (List.mem_of_getElem? (i := 17) rfl)) (aw_r1 _ (List.mem_of_getElem? (i := 15) rfl)) (aw_r12 _ (List.mem_of_getElem? (i := 18) rfl))) rfl rfl rfl hd_X3_hasRoad ⟨(Nat.le_of_ble_eq_true rfl), (Nat.le_of_ble_eq_true rfl)⟩) (wg_1 G _) rfl rfl hl.1 rfl (Nat.le_of_ble_eq_true rfl) dX1_moveFits_49 ⟨Nat.zero_le _, Nat.zero_le _⟩ (fun r6 σ5 H locs hw hk => ?_)
    exact k_zret X hk hw dX1_moveFits_52
  replace hw := hw.2
  have ec1 := lv_neT (a := 0) c1 rfl
  have ec4 := lv_neT (a := 1) c4 rfl
  refine lv_lookup (tgt := 53) (off := 52) hx hb dX1_moveFits_1 rfl (by show Op.lookupswitch.offset [(0, 27), (1, 43)] 52 _ = _; rw [lv_osw (a := 0) c1 rfl, lv_osw (a := 1) c4 rfl]; try rfl) (by decide) ?_
  replace hw := hw c1 c4
  refine lv_iload_n hx hb dX1_moveFits_53 rfl (lv_at hl 2 rfl) ?_
  refine lv_iconst (v := (1 : Int32)) hx hb dX1_moveFits_54 (by decide) ?_
  refine lv_icmp_lt (tgt := 68) hx hb dX1_moveFits_55 (by decide) (fun c7 => ?_) (fun c7 => ?_)
  · replace hw := hw.1 c7
    refine lv_iconst (v := (0 : Int32)) hx hb dX1_moveFits_68 (by decide) ?_
    exact k_zret X hk hw dX1_moveFits_69
  · replace hw := hw.2 c7
    refine lv_iload_n hx hb dX1_moveFits_58 rfl (lv_at hl 2 rfl) ?_
    refine lv_bipush (v := (60 : Int32)) hx hb dX1_moveFits_59 (by decide) ?_
    refine lv_icmp_gt (tgt := 68) hx hb dX1_moveFits_61 (by decide) (fun c8 => ?_) (fun c8 => ?_)
    · replace hw := hw.1 c8
      refine lv_iconst (v := (0 : Int32)) hx hb dX1_moveFits_68 (by decide) ?_
      exact k_zret X hk hw dX1_moveFits_69
    · replace hw := hw.2 c8
      refine lv_iconst (v := (1 : Int32)) hx hb dX1_moveFits_64 (by decide) ?_
      refine lv_goto (tgt := 69) hx hb dX1_moveFits_65 (by decide) ?_
      exact k_zret X hk hw dX1_moveFits_69
def rm_X1_add : Room := { frames := 0, cells := 0, slots := 0, locals := 0 }
abbrev wz_X1_add : List Cond := Cond.code yX1_add cX1_add 6 (some .int) :: wsA
theorem hd_X1_add : yX1_add.cls = RX1 ∧ yX1_add.cls ≠ "java/lang/invoke/MethodHandle" ∧ yX1_add.cls ≠ "java/lang/invoke/VarHandle" ∧ (parseMethodDescriptor yX1_add.desc).map (fun d => d.parameters.length) = some 4 := by decide +kernel
def wp_X1_add_45 (Q : Int32 → Sg → Prop)  (x4 x5 y1 y2 : Int32) (σ : Sg) : Prop := vp_in y1 160 ∧ (∀ σ5 : Sg, σ5 = (put σ 13 (y1).toNatClampNeg y2) → (vp_in (x5 + (3 : Int32)) 160 ∧ (∀ σ6 : Sg, σ6 = (put σ5 13 ((x5 + (3 : Int32))).toNatClampNeg x4) → (∀ σ7 : Sg, σ7 = (put σ6 2 0 ((σ6 2 0) + (1 : Int32))) → (Q ((σ7 2 0) - (1 : Int32)) σ7)))))
set_option maxHeartbeats 4000000 in
set_option maxRecDepth 100000 in
theorem t_X1_add_45 {p : Program} {l : Launch} {e : Env} {s : State} {m : MethodId} {args : Array Value} {below : List Frame} {meth : Method} {c : Code} {G : Gw} (X : KC p m meth c cX1_add 6 s args wz_X1_add RX1 (some .int) G) (Q : Int32 → Sg → Prop)  : ∀ (σ : Sg) (x4 x5 y1 y2 : Int32) (H : Heap) (locs : List Loc) (ls : Array Slot), wp_X1_add_45 Q  x4 x5 y1 y2 σ → WK G s H locs σ → lv_has ls 6 [(0, .ref (G.1 2)), (4, .int x4), (5, .int x5)] → W p l e rm_X1_add s m args below meth c H locs 0 0 (ZI below args s G Q) (F0 m 45 ls [.int y2, .int y1, .ref (G.1 13)]) := by
  have hx := X.1.1
  have hb := X.1.2.1
  intro σ x4 x5 y1 y2 H locs ls hw hk hl
  unfold wp_X1_add_45 at hw
  refine k_iast X hk (wg_13 G _) (ws_13 G _) rfl hw.1 dX1_add_45 (fun H locs hk => ?_)
  replace hw := hw.2
  obtain ⟨σ5, eσ5⟩ : ∃ y : Sg, y = (put σ 13 (y1).toNatClampNeg y2) := ⟨_, rfl⟩
  rw [← eσ5] at hk
  replace hw := hw σ5 eσ5
  refine lv_aload_n hx hb dX1_add_46 rfl (lv_at hl 0 rfl) ?_
  refine k_get 9 X hk (wg_2 G _) rfl (hz_wsX10 _) (Nat.le_of_ble_eq_true rfl) (List.mem_cons_of_mem _ (aw_r3 _ (List.mem_of_getElem? (i := 0) rfl))) rfl dX1_add_47 ?_
  refine lv_iload hx hb dX1_add_50 (lv_at hl 2 rfl) ?_
  refine lv_iconst (v := (3 : Int32)) hx hb dX1_add_52 (by decide) ?_
  refine lv_iadd hx hb dX1_add_53 ?_
  refine lv_iload hx hb dX1_add_54 (lv_at hl 1 rfl) ?_
  refine k_iast X hk (wg_13 G _) (ws_13 G _) rfl hw.1 dX1_add_56 (fun H locs hk => ?_)
  replace hw := hw.2
  obtain ⟨σ6, eσ6⟩ : ∃ y : Sg, y = (put σ5 13 ((x5 + (3 : Int32))).toNatClampNeg x4) := ⟨_, rfl⟩
  rw [← eσ6] at hk
  replace hw := hw σ6 eσ6
  refine lv_aload_n hx hb dX1_add_57 rfl (lv_at hl 0 rfl) ?_
  refine lv_dup hx hb dX1_add_58 rfl ?_
  refine k_get 0 X hk (wg_2 G _) rfl (hz_wsX10 _) (Nat.le_of_ble_eq_true rfl) (List.mem_cons_of_mem _ (aw_r14 _ (List.mem_of_getElem? (i := 6) rfl))) rfl dX1_add_59 ?_
  refine lv_iconst (v := (1 : Int32)) hx hb dX1_add_62 (by decide) ?_
  refine lv_iadd hx hb dX1_add_63 ?_
  refine k_put 0 X hk (wg_2 G _) rfl (hz_wsX10 _) tyX1_ok nmX1 (Nat.le_of_ble_eq_true rfl) (List.mem_cons_of_mem _ (aw_r14 _ (List.mem_of_getElem? (i := 6) rfl))) rfl rfl (Nat.le_of_ble_eq_true rfl) (ws_2_0 G _ _) dX1_add_64 (fun H locs hk => ?_)
  obtain ⟨σ7, eσ7⟩ : ∃ y : Sg, y = (put σ6 2 0 ((σ6 2 0) + (1 : Int32))) := ⟨_, rfl⟩
  rw [← eσ7] at hk
  replace hw := hw σ7 eσ7
  refine lv_aload_n hx hb dX1_add_67 rfl (lv_at hl 0 rfl) ?_
  refine k_get 0 X hk (wg_2 G _) rfl (hz_wsX10 _) (Nat.le_of_ble_eq_true rfl) (List.mem_cons_of_mem _ (aw_r14 _ (List.mem_of_getElem? (i := 6) rfl))) rfl dX1_add_68 ?_
  refine lv_iconst (v := (1 : Int32)) hx hb dX1_add_71 (by decide) ?_
  refine lv_isub hx hb dX1_add_72 ?_
  exact k_iret X hk hw dX1_add_73
def wp_X1_add (σ : Sg) (p1 p2 p3 p4 : Int32) (Q : Int32 → Sg → Prop) : Prop := ∀ x5_1 : Int32, x5_1 = ((σ 2 0) * (4 : Int32)) → (vp_in (x5_1 + (0 : Int32)) 160 ∧ (∀ σ2 : Sg, σ2 = (put σ 13 ((x5_1 + (0 : Int32))).toNatClampNeg p1) → (vp_in (x5_1 + (1 : Int32)) 160 ∧ (∀ σ3 : Sg, σ3 = (put σ2 13 ((x5_1 + (1 : Int32))).toNatClampNeg p2) → ((p3 = 0 → (wp_X1_add_45 Q  p4 x5_1 (x5_1 + (2 : Int32)) (0 : Int32) σ3)) ∧ (¬ (p3 = 0) → (wp_X1_add_45 Q  p4 x5_1 (x5_1 + (2 : Int32)) (1 : Int32) σ3)))))))
set_option maxHeartbeats 4000000 in
set_option maxRecDepth 100000 in
theorem c_X1_add (l : Launch) (G : Gw) (σ : Sg) (p1 p2 p3 p4 : Int32) (Q : Int32 → Sg → Prop) (hw : wp_X1_add σ p1 p2 p3 p4 Q) : MetI l yX1_add wz_X1_add rm_X1_add G σ [.ref (G.1 2), .int p1, .int p2, .int p3, .int p4] Q := by
  refine MetI.of cX1_add 6 (some .int) (by decide) rfl (Nat.le_of_ble_eq_true rfl) ?_
  intro p e s m below meth c X hk ls hl
  have X : KC p m meth c cX1_add 6 s _ wz_X1_add RX1 (some .int) G := X
  have hl : lv_has ls 6 [(0, .ref (G.1 2)), (1, .int p1), (2, .int p2), (3, .int p3), (4, .int p4)] := hl
  unfold wp_X1_add at hw
  have hx := X.1.1
  have hb := X.1.2.1
  refine lv_aload_n hx hb dX1_add_0 rfl (lv_at hl 0 rfl) ?_
  refine k_get 0 X hk (wg_2 G _) rfl (hz_wsX10 _) (Nat.le_of_ble_eq_true rfl) (List.mem_cons_of_mem _ (aw_r14 _ (List.mem_of_getElem? (i := 6) rfl))) rfl dX1_add_1 ?_
  refine lv_iconst (v := (4 : Int32)) hx hb dX1_add_4 (by decide) ?_
  refine lv_imul hx hb dX1_add_5 ?_
  refine lv_topi (fun x5_1 ex5_1 => ?_)
  replace hw := hw x5_1 ex5_1
  refine lv_istore (lv' := [(5, .int x5_1), (0, .ref (G.1 2)), (1, .int p1), (2, .int p2), (3, .int p3), (4, .int p4)]) hx hb dX1_add_6 hl (Nat.le_of_ble_eq_true rfl) rfl (fun ls hl => ?_)
  refine lv_aload_n hx hb dX1_add_8 rfl (lv_at hl 1 rfl) ?_
  refine k_get 9 X hk (wg_2 G _) rfl (hz_wsX10 _) (Nat.le_of_ble_eq_true rfl) (List.mem_cons_of_mem _ (aw_r3 _ (List.mem_of_getElem? (i := 0) rfl))) rfl dX1_add_9 ?_
  refine lv_iload hx hb dX1_add_12 (lv_at hl 0 rfl) ?_
  refine lv_iconst (v := (0 : Int32)) hx hb dX1_add_14 (by decide) ?_
  refine lv_iadd hx hb dX1_add_15 ?_
  refine lv_iload_n hx hb dX1_add_16 rfl (lv_at hl 2 rfl) ?_
  refine k_iast X hk (wg_13 G _) (ws_13 G _) rfl hw.1 dX1_add_17 (fun H locs hk => ?_)
  replace hw := hw.2
  obtain ⟨σ2, eσ2⟩ : ∃ y : Sg, y = (put σ 13 ((x5_1 + (0 : Int32))).toNatClampNeg p1) := ⟨_, rfl⟩
  rw [← eσ2] at hk
  replace hw := hw σ2 eσ2
  refine lv_aload_n hx hb dX1_add_18 rfl (lv_at hl 1 rfl) ?_
  refine k_get 9 X hk (wg_2 G _) rfl (hz_wsX10 _) (Nat.le_of_ble_eq_true rfl) (List.mem_cons_of_mem _ (aw_r3 _ (List.mem_of_getElem? (i := 0) rfl))) rfl dX1_add_19 ?_
  refine lv_iload hx hb dX1_add_22 (lv_at hl 0 rfl) ?_
  refine lv_iconst (v := (1 : Int32)) hx hb dX1_add_24 (by decide) ?_
  refine lv_iadd hx hb dX1_add_25 ?_
  refine lv_iload_n hx hb dX1_add_26 rfl (lv_at hl 3 rfl) ?_
  refine k_iast X hk (wg_13 G _) (ws_13 G _) rfl hw.1 dX1_add_27 (fun H locs hk => ?_)
  replace hw := hw.2
  obtain ⟨σ3, eσ3⟩ : ∃ y : Sg, y = (put σ2 13 ((x5_1 + (1 : Int32))).toNatClampNeg p2) := ⟨_, rfl⟩
  rw [← eσ3] at hk
  replace hw := hw σ3 eσ3
  refine lv_aload_n hx hb dX1_add_28 rfl (lv_at hl 1 rfl) ?_
  refine k_get 9 X hk (wg_2 G _) rfl (hz_wsX10 _) (Nat.le_of_ble_eq_true rfl) (List.mem_cons_of_mem _ (aw_r3 _ (List.mem_of_getElem? (i := 0) rfl))) rfl dX1_add_29 ?_
  refine lv_iload hx hb dX1_add_32 (lv_at hl 0 rfl) ?_
  refine lv_iconst (v := (2 : Int32)) hx hb dX1_add_34 (by decide) ?_
  refine lv_iadd hx hb dX1_add_35 ?_
  refine lv_iload_n hx hb dX1_add_36 rfl (lv_at hl 4 rfl) ?_
  refine lv_if_eq (tgt := 44) hx hb dX1_add_37 (by decide) (fun c4 => ?_) (fun c4 => ?_)
  · replace hw := hw.1 c4
    refine lv_iconst (v := (0 : Int32)) hx hb dX1_add_44 (by decide) ?_
    exact t_X1_add_45 X Q   _ _ _ _ _ _ _ _ hw hk (lv_sub hl [1, 5, 0] rfl)
  · replace hw := hw.2 c4
    refine lv_iconst (v := (1 : Int32)) hx hb dX1_add_40 (by decide) ?_
    refine lv_goto (tgt := 45) hx hb dX1_add_41 (by decide) ?_
    exact t_X1_add_45 X Q   _ _ _ _ _ _ _ _ hw hk (lv_sub hl [1, 5, 0] rfl)
def rm_X1_forgetRoad : Room := { frames := 1, cells := 0, slots := 0, locals := 22 }
abbrev wz_X1_forgetRoad : List Cond := Cond.code yX1_forgetRoad cX1_forgetRoad 4 none :: wsA
theorem hd_X1_forgetRoad : yX1_forgetRoad.cls = RX1 ∧ yX1_forgetRoad.cls ≠ "java/lang/invoke/MethodHandle" ∧ yX1_forgetRoad.cls ≠ "java/lang/invoke/VarHandle" ∧ (parseMethodDescriptor yX1_forgetRoad.desc).map (fun d => d.parameters.length) = some 1 := by decide +kernel
def wp_X1_forgetRoad_43 (Q : Sg → Prop) (K4 : Int32 → Int32 → Int32 → Sg → Prop) (x1 x2 x3 : Int32) (σ : Sg) : Prop := ∀ x3_6 : Int32, x3_6 = (x3 + (1 : Int32)) → (K4 x1 x2 x3_6 σ)
set_option maxHeartbeats 4000000 in
set_option maxRecDepth 100000 in
theorem t_X1_forgetRoad_43 {p : Program} {l : Launch} {e : Env} {s : State} {m : MethodId} {args : Array Value} {below : List Frame} {meth : Method} {c : Code} {G : Gw} (X : KC p m meth c cX1_forgetRoad 4 s args wz_X1_forgetRoad RX1 none G) (Q : Sg → Prop) (K4 : Int32 → Int32 → Int32 → Sg → Prop) (hK4 : ∀ (σ : Sg) (x1 x2 x3 : Int32) (H : Heap) (locs : List Loc) (ls : Array Slot), K4 x1 x2 x3 σ → WK G s H locs σ → lv_has ls 4 [(0, .ref (G.1 2)), (1, .int x1), (2, .int x2), (3, .int x3)] → W p l e rm_X1_forgetRoad s m args below meth c H locs 0 0 (ZV below args s G Q) (F0 m 4 ls [])) : ∀ (σ : Sg) (x1 x2 x3 : Int32) (H : Heap) (locs : List Loc) (ls : Array Slot), wp_X1_forgetRoad_43 Q K4 x1 x2 x3 σ → WK G s H locs σ → lv_has ls 4 [(0, .ref (G.1 2)), (1, .int x1), (2, .int x2), (3, .int x3)] → W p l e rm_X1_forgetRoad s m args below meth c H locs 0 0 (ZV below args s G Q) (F0 m 43 ls []) := by
  have hx := X.1.1
  have hb := X.1.2.1
  intro σ x1 x2 x3 H locs ls hw hk hl
  unfold wp_X1_forgetRoad_43 at hw
  obtain ⟨x3_6, ex3_6⟩ : ∃ y : Int32, y = (x3 + (1 : Int32)) := ⟨_, rfl⟩
  replace hw := hw x3_6 ex3_6
  refine lv_iinc (v := x3_6) (lv' := [(3, .int x3_6), (0, .ref (G.1 2)), (1, .int x1), (2, .int x2)]) hx hb dX1_forgetRoad_43 hl (k := 3) rfl (by rw [ex3_6]; rfl) (Nat.le_of_ble_eq_true rfl) rfl (fun ls hl => ?_)
  refine lv_goto (tgt := 4) hx hb dX1_forgetRoad_46 (by decide) ?_
  exact hK4 _ _ _ _ _ _ _ hw hk (lv_sub hl [1, 2, 3, 0] rfl)
def wp_X1_forgetRoad_4 (Q : Sg → Prop)  : Nat → Int32 → Int32 → Int32 → Sg → Prop
  | 0, _, _, _, _ => False
  | n + 1, x1, x2, x3, σ => ((σ 2 0) ≤ x3 → (∀ σ2 : Sg, σ2 = (put σ 2 0 x2) → (Q σ2))) ∧ (¬ ((σ 2 0) ≤ x3) → (wp_X1_part σ x3 (1 : Int32) (fun r4 σ3 => (r4 = x1 → (wp_X1_forgetRoad_43 Q (fun z1 z2 z3 σ => wp_X1_forgetRoad_4 Q  n z1 z2 z3 σ) x1 x2 x3 σ3)) ∧ (¬ (r4 = x1) → (k_cpyok (x3 * (4 : Int32)) (x2 * (4 : Int32)) (4 : Int32) 160 160 ∧ (∀ σ7 : Sg, σ7 = (setA σ3 13 (va_cpy (σ3 13) (σ3 13) ((x3 * (4 : Int32))).toNatClampNeg ((x2 * (4 : Int32))).toNatClampNeg ((4 : Int32)).toNatClampNeg)) → (∀ x2_8 : Int32, x2_8 = (x2 + (1 : Int32)) → (wp_X1_forgetRoad_43 Q (fun z1 z2 z3 σ => wp_X1_forgetRoad_4 Q  n z1 z2 z3 σ) x1 x2_8 x3 σ7))))))))
set_option maxHeartbeats 4000000 in
set_option maxRecDepth 100000 in
theorem t_X1_forgetRoad_4 {p : Program} {l : Launch} {e : Env} {s : State} {m : MethodId} {args : Array Value} {below : List Frame} {meth : Method} {c : Code} {G : Gw} (X : KC p m meth c cX1_forgetRoad 4 s args wz_X1_forgetRoad RX1 none G) (Q : Sg → Prop)  : ∀ (n : Nat) (σ : Sg) (x1 x2 x3 : Int32) (H : Heap) (locs : List Loc) (ls : Array Slot), wp_X1_forgetRoad_4 Q  n x1 x2 x3 σ → WK G s H locs σ → lv_has ls 4 [(0, .ref (G.1 2)), (1, .int x1), (2, .int x2), (3, .int x3)] → W p l e rm_X1_forgetRoad s m args below meth c H locs 0 0 (ZV below args s G Q) (F0 m 4 ls []) := by
  have hx := X.1.1
  have hb := X.1.2.1
  intro n
  induction n with
  | zero =>
    intro σ x1 x2 x3 H locs ls hw hk hl
    exact False.elim hw
  | succ n ih =>
    intro σ x1 x2 x3 H locs ls hw hk hl
    rw [wp_X1_forgetRoad_4] at hw
    refine lv_iload_n hx hb dX1_forgetRoad_4 rfl (lv_at hl 3 rfl) ?_
    refine lv_aload_n hx hb dX1_forgetRoad_5 rfl (lv_at hl 0 rfl) ?_
    refine k_get 0 X hk (wg_2 G _) rfl (hz_wsX10 _) (Nat.le_of_ble_eq_true rfl) (List.mem_cons_of_mem _ (aw_r14 _ (List.mem_of_getElem? (i := 6) rfl))) rfl dX1_forgetRoad_6 ?_
    refine lv_icmp_ge (tgt := 49) hx hb dX1_forgetRoad_9 (by decide) (fun c1 => ?_) (fun c1 => ?_)
    · replace hw := hw.1 c1
      refine lv_aload_n hx hb dX1_forgetRoad_49 rfl (lv_at hl 0 rfl) ?_
      refine lv_iload_n hx hb dX1_forgetRoad_50 rfl (lv_at hl 2 rfl) ?_
      refine k_put 0 X hk (wg_2 G _) rfl (hz_wsX10 _) tyX1_ok nmX1 (Nat.le_of_ble_eq_true rfl) (List.mem_cons_of_mem _ (aw_r14 _ (List.mem_of_getElem? (i := 6) rfl))) rfl rfl (Nat.le_of_ble_eq_true rfl) (ws_2_0 G _ _) dX1_forgetRoad_51 (fun H locs hk => ?_)
      obtain ⟨σ2, eσ2⟩ : ∃ y : Sg, y = (put σ 2 0 x2) := ⟨_, rfl⟩
      rw [← eσ2] at hk
      replace hw := hw σ2 eσ2
      exact k_vret X hk hw dX1_forgetRoad_54
    · replace hw := hw.2 c1
      refine lv_aload_n hx hb dX1_forgetRoad_12 rfl (lv_at hl 0 rfl) ?_
      refine lv_iload_n hx hb dX1_forgetRoad_13 rfl (lv_at hl 3 rfl) ?_
      refine lv_iconst (v := (1 : Int32)) hx hb dX1_forgetRoad_14 (by decide) ?_
      refine k_callVi (rest := []) X hk (c_X1_part l G _ _ _ _ hw) (cwV 2 X.1.2.2.2.2 (gzV (aw_r21 _ (List.mem_of_getElem? (i := 17) rfl)) (aw_r21 _ (List.mem_of_getElem? (i := 18) rfl)) (aw_r21 _ (List.mem_of_getElem? (i := 19) rfl)) (aw_r1 _ (List.mem_of_getElem? (i := 19) rfl)) (aw_r21 _ (List.mem_of_getElem? (i := 20) rfl))) rfl rfl rfl hd_X1_part ⟨(Nat.le_of_ble_eq_true rfl), (Nat.le_of_ble_eq_true rfl)⟩) (wg_2 G _) rfl rfl hl.1 rfl (Nat.le_of_ble_eq_true rfl) dX1_forgetRoad_15 ⟨Nat.zero_le _, Nat.zero_le _⟩ (fun r4 σ3 H locs hw hk => ?_)
      refine lv_iload_n hx hb dX1_forgetRoad_18 rfl (lv_at hl 1 rfl) ?_
      refine lv_icmp_eq (tgt := 43) hx hb dX1_forgetRoad_19 (by decide) (fun c5 => ?_) (fun c5 => ?_)
      · replace hw := hw.1 c5
        exact t_X1_forgetRoad_43 X Q _ ih _ _ _ _ _ _ _ hw hk hl
      · replace hw := hw.2 c5
        refine lv_aload_n hx hb dX1_forgetRoad_22 rfl (lv_at hl 0 rfl) ?_
        refine k_get 9 X hk (wg_2 G _) rfl (hz_wsX10 _) (Nat.le_of_ble_eq_true rfl) (List.mem_cons_of_mem _ (aw_r3 _ (List.mem_of_getElem? (i := 0) rfl))) rfl dX1_forgetRoad_23 ?_
        refine lv_iload_n hx hb dX1_forgetRoad_26 rfl (lv_at hl 3 rfl) ?_
        refine lv_iconst (v := (4 : Int32)) hx hb dX1_forgetRoad_27 (by decide) ?_
        refine lv_imul hx hb dX1_forgetRoad_28 ?_
        refine lv_aload_n hx hb dX1_forgetRoad_29 rfl (lv_at hl 0 rfl) ?_
        refine k_get 9 X hk (wg_2 G _) rfl (hz_wsX10 _) (Nat.le_of_ble_eq_true rfl) (List.mem_cons_of_mem _ (aw_r3 _ (List.mem_of_getElem? (i := 0) rfl))) rfl dX1_forgetRoad_30 ?_
        refine lv_iload_n hx hb dX1_forgetRoad_33 rfl (lv_at hl 2 rfl) ?_
        refine lv_iconst (v := (4 : Int32)) hx hb dX1_forgetRoad_34 (by decide) ?_
        refine lv_imul hx hb dX1_forgetRoad_35 ?_
        refine lv_iconst (v := (4 : Int32)) hx hb dX1_forgetRoad_36 (by decide) ?_
        refine k_copy X hk hl.1 (List.mem_cons_of_mem _ (aw_r21 _ (List.mem_of_getElem? (i := 16) rfl))) (List.mem_cons_of_mem _ (aw_r7 _ (List.mem_of_getElem? (i := 9) rfl))) (List.mem_cons_of_mem _ (aw_r7 _ (List.mem_of_getElem? (i := 10) rfl))) (List.mem_cons_of_mem _ (aw_r7 _ (List.mem_of_getElem? (i := 11) rfl))) (wg_13 G _) (wg_13 G _) (ws_13 G _) hw.1 (Nat.le_of_ble_eq_true rfl) (Nat.le_of_ble_eq_true rfl) dX1_forgetRoad_37 (fun H locs hk => ?_)
        replace hw := hw.2
        obtain ⟨σ7, eσ7⟩ : ∃ y : Sg, y = (setA σ3 13 (va_cpy (σ3 13) (σ3 13) ((x3 * (4 : Int32))).toNatClampNeg ((x2 * (4 : Int32))).toNatClampNeg ((4 : Int32)).toNatClampNeg)) := ⟨_, rfl⟩
        rw [← eσ7] at hk
        replace hw := hw σ7 eσ7
        obtain ⟨x2_8, ex2_8⟩ : ∃ y : Int32, y = (x2 + (1 : Int32)) := ⟨_, rfl⟩
        replace hw := hw x2_8 ex2_8
        refine lv_iinc (v := x2_8) (lv' := [(2, .int x2_8), (0, .ref (G.1 2)), (1, .int x1), (3, .int x3)]) hx hb dX1_forgetRoad_40 hl (k := 2) rfl (by rw [ex2_8]; rfl) (Nat.le_of_ble_eq_true rfl) rfl (fun ls hl => ?_)
        exact t_X1_forgetRoad_43 X Q _ ih _ _ _ _ _ _ _ hw hk (lv_sub hl [1, 2, 0, 3] rfl)
def wp_X1_forgetRoad (σ : Sg) (p1 : Int32) (Q : Sg → Prop) : Prop := ∃ n0, wp_X1_forgetRoad_4 Q  n0 p1 (0 : Int32) (0 : Int32) σ
set_option maxHeartbeats 4000000 in
set_option maxRecDepth 100000 in
theorem c_X1_forgetRoad (l : Launch) (G : Gw) (σ : Sg) (p1 : Int32) (Q : Sg → Prop) (hw : wp_X1_forgetRoad σ p1 Q) : MetV l yX1_forgetRoad wz_X1_forgetRoad rm_X1_forgetRoad G σ [.ref (G.1 2), .int p1] Q := by
  refine MetV.of cX1_forgetRoad 4 none (by decide) rfl (Nat.le_of_ble_eq_true rfl) ?_
  intro p e s m below meth c X hk ls hl
  have X : KC p m meth c cX1_forgetRoad 4 s _ wz_X1_forgetRoad RX1 none G := X
  have hl : lv_has ls 4 [(0, .ref (G.1 2)), (1, .int p1)] := hl
  unfold wp_X1_forgetRoad at hw
  have hx := X.1.1
  have hb := X.1.2.1
  refine lv_iconst (v := (0 : Int32)) hx hb dX1_forgetRoad_0 (by decide) ?_
  refine lv_istore_n (lv' := [(2, .int (0 : Int32)), (0, .ref (G.1 2)), (1, .int p1)]) hx hb dX1_forgetRoad_1 rfl hl (Nat.le_of_ble_eq_true rfl) rfl (fun ls hl => ?_)
  refine lv_iconst (v := (0 : Int32)) hx hb dX1_forgetRoad_2 (by decide) ?_
  refine lv_istore_n (lv' := [(3, .int (0 : Int32)), (2, .int (0 : Int32)), (0, .ref (G.1 2)), (1, .int p1)]) hx hb dX1_forgetRoad_3 rfl hl (Nat.le_of_ble_eq_true rfl) rfl (fun ls hl => ?_)
  obtain ⟨n0, hw⟩ := hw
  exact t_X1_forgetRoad_4 X Q   n0 _ _ _ _ _ _ _ hw hk (lv_sub hl [2, 3, 1, 0] rfl)
def rm_X1_sum : Room := { frames := 0, cells := 0, slots := 0, locals := 0 }
abbrev wz_X1_sum : List Cond := Cond.code yX1_sum cX1_sum 4 (some .int) :: wsA
theorem hd_X1_sum : yX1_sum.cls = RX1 ∧ yX1_sum.cls ≠ "java/lang/invoke/MethodHandle" ∧ yX1_sum.cls ≠ "java/lang/invoke/VarHandle" ∧ (parseMethodDescriptor yX1_sum.desc).map (fun d => d.parameters.length) = some 1 := by decide +kernel
def wp_X1_sumk10_4 (Q : Int32 → Sg → Prop)  : Nat → Int32 → Int32 → Sg → Prop
  | 0, _, _, _ => False
  | n + 1, x2, x3, σ => ((σ 1 0) ≤ x3 → (Q x2 σ)) ∧ (¬ ((σ 1 0) ≤ x3) → (vp_in x3 8 ∧ (∀ x2_2 : Int32, x2_2 = (x2 + (σ 10 (x3).toNatClampNeg)) → (∀ x3_3 : Int32, x3_3 = (x3 + (1 : Int32)) → (wp_X1_sumk10_4 Q  n x2_2 x3_3 σ)))))
set_option maxHeartbeats 4000000 in
set_option maxRecDepth 100000 in
theorem t_X1_sumk10_4 {p : Program} {l : Launch} {e : Env} {s : State} {m : MethodId} {args : Array Value} {below : List Frame} {meth : Method} {c : Code} {G : Gw} (X : KC p m meth c cX1_sum 4 s args wz_X1_sum RX1 (some .int) G) (Q : Int32 → Sg → Prop)  : ∀ (n : Nat) (σ : Sg) (x2 x3 : Int32) (H : Heap) (locs : List Loc) (ls : Array Slot), wp_X1_sumk10_4 Q  n x2 x3 σ → WK G s H locs σ → lv_has ls 4 [(0, .ref (G.1 2)), (1, .ref (G.1 10)), (2, .int x2), (3, .int x3)] → W p l e rm_X1_sum s m args below meth c H locs 0 0 (ZI below args s G Q) (F0 m 4 ls []) := by
  have hx := X.1.1
  have hb := X.1.2.1
  intro n
  induction n with
  | zero =>
    intro σ x2 x3 H locs ls hw hk hl
    exact False.elim hw
  | succ n ih =>
    intro σ x2 x3 H locs ls hw hk hl
    rw [wp_X1_sumk10_4] at hw
    refine lv_iload_n hx hb dX1_sum_4 rfl (lv_at hl 3 rfl) ?_
    refine lv_aload_n hx hb dX1_sum_5 rfl (lv_at hl 0 rfl) ?_
    refine k_get 8 X hk (wg_2 G _) rfl (hz_wsX10 _) (Nat.le_of_ble_eq_true rfl) (List.mem_cons_of_mem _ (aw_r3 _ (List.mem_of_getElem? (i := 3) rfl))) rfl dX1_sum_6 ?_
    refine k_get 0 X hk (wg_1 G _) rfl (hz_wsX30 _) (Nat.le_of_ble_eq_true rfl) (List.mem_cons_of_mem _ (aw_r41 _ (List.mem_of_getElem? (i := 16) rfl))) rfl dX1_sum_9 ?_
    refine lv_icmp_ge (tgt := 27) hx hb dX1_sum_12 (by decide) (fun c1 => ?_) (fun c1 => ?_)
    · replace hw := hw.1 c1
      refine lv_iload_n hx hb dX1_sum_27 rfl (lv_at hl 2 rfl) ?_
      exact k_iret X hk hw dX1_sum_28
    · replace hw := hw.2 c1
      refine lv_iload_n hx hb dX1_sum_15 rfl (lv_at hl 2 rfl) ?_
      refine lv_aload_n hx hb dX1_sum_16 rfl (lv_at hl 1 rfl) ?_
      refine lv_iload_n hx hb dX1_sum_17 rfl (lv_at hl 3 rfl) ?_
      refine k_iald X hk (wg_10 G _) hw.1 dX1_sum_18 ?_
      replace hw := hw.2
      refine lv_iadd hx hb dX1_sum_19 ?_
      refine lv_topi (fun x2_2 ex2_2 => ?_)
      replace hw := hw x2_2 ex2_2
      refine lv_istore_n (lv' := [(2, .int x2_2), (0, .ref (G.1 2)), (1, .ref (G.1 10)), (3, .int x3)]) hx hb dX1_sum_20 rfl hl (Nat.le_of_ble_eq_true rfl) rfl (fun ls hl => ?_)
      obtain ⟨x3_3, ex3_3⟩ : ∃ y : Int32, y = (x3 + (1 : Int32)) := ⟨_, rfl⟩
      replace hw := hw x3_3 ex3_3
      refine lv_iinc (v := x3_3) (lv' := [(3, .int x3_3), (2, .int x2_2), (0, .ref (G.1 2)), (1, .ref (G.1 10))]) hx hb dX1_sum_21 hl (k := 3) rfl (by rw [ex3_3]; rfl) (Nat.le_of_ble_eq_true rfl) rfl (fun ls hl => ?_)
      refine lv_goto (tgt := 4) hx hb dX1_sum_24 (by decide) ?_
      exact ih _ _ _ _ _ _ hw hk (lv_sub hl [2, 3, 1, 0] rfl)
def wp_X1_sum_k10 (σ : Sg) (Q : Int32 → Sg → Prop) : Prop := ∃ n0, wp_X1_sumk10_4 Q  n0 (0 : Int32) (0 : Int32) σ
set_option maxHeartbeats 4000000 in
set_option maxRecDepth 100000 in
theorem c_X1_sum_k10 (l : Launch) (G : Gw) (σ : Sg) (Q : Int32 → Sg → Prop) (hw : wp_X1_sum_k10 σ  Q) : MetI l yX1_sum wz_X1_sum rm_X1_sum G σ [.ref (G.1 2), .ref (G.1 10)] Q := by
  refine MetI.of cX1_sum 4 (some .int) (by decide) rfl (Nat.le_of_ble_eq_true rfl) ?_
  intro p e s m below meth c X hk ls hl
  have X : KC p m meth c cX1_sum 4 s _ wz_X1_sum RX1 (some .int) G := X
  have hl : lv_has ls 4 [(0, .ref (G.1 2)), (1, .ref (G.1 10))] := hl
  unfold wp_X1_sum_k10 at hw
  have hx := X.1.1
  have hb := X.1.2.1
  refine lv_iconst (v := (0 : Int32)) hx hb dX1_sum_0 (by decide) ?_
  refine lv_istore_n (lv' := [(2, .int (0 : Int32)), (0, .ref (G.1 2)), (1, .ref (G.1 10))]) hx hb dX1_sum_1 rfl hl (Nat.le_of_ble_eq_true rfl) rfl (fun ls hl => ?_)
  refine lv_iconst (v := (0 : Int32)) hx hb dX1_sum_2 (by decide) ?_
  refine lv_istore_n (lv' := [(3, .int (0 : Int32)), (2, .int (0 : Int32)), (0, .ref (G.1 2)), (1, .ref (G.1 10))]) hx hb dX1_sum_3 rfl hl (Nat.le_of_ble_eq_true rfl) rfl (fun ls hl => ?_)
  obtain ⟨n0, hw⟩ := hw
  exact t_X1_sumk10_4 X Q   n0 _ _ _ _ _ _ hw hk (lv_sub hl [2, 3, 1, 0] rfl)
def wp_X1_sumk11_4 (Q : Int32 → Sg → Prop)  : Nat → Int32 → Int32 → Sg → Prop
  | 0, _, _, _ => False
  | n + 1, x2, x3, σ => ((σ 1 0) ≤ x3 → (Q x2 σ)) ∧ (¬ ((σ 1 0) ≤ x3) → (vp_in x3 8 ∧ (∀ x2_2 : Int32, x2_2 = (x2 + (σ 11 (x3).toNatClampNeg)) → (∀ x3_3 : Int32, x3_3 = (x3 + (1 : Int32)) → (wp_X1_sumk11_4 Q  n x2_2 x3_3 σ)))))
set_option maxHeartbeats 4000000 in
set_option maxRecDepth 100000 in
theorem t_X1_sumk11_4 {p : Program} {l : Launch} {e : Env} {s : State} {m : MethodId} {args : Array Value} {below : List Frame} {meth : Method} {c : Code} {G : Gw} (X : KC p m meth c cX1_sum 4 s args wz_X1_sum RX1 (some .int) G) (Q : Int32 → Sg → Prop)  : ∀ (n : Nat) (σ : Sg) (x2 x3 : Int32) (H : Heap) (locs : List Loc) (ls : Array Slot), wp_X1_sumk11_4 Q  n x2 x3 σ → WK G s H locs σ → lv_has ls 4 [(0, .ref (G.1 2)), (1, .ref (G.1 11)), (2, .int x2), (3, .int x3)] → W p l e rm_X1_sum s m args below meth c H locs 0 0 (ZI below args s G Q) (F0 m 4 ls []) := by
  have hx := X.1.1
  have hb := X.1.2.1
  intro n
  induction n with
  | zero =>
    intro σ x2 x3 H locs ls hw hk hl
    exact False.elim hw
  | succ n ih =>
    intro σ x2 x3 H locs ls hw hk hl
    rw [wp_X1_sumk11_4] at hw
    refine lv_iload_n hx hb dX1_sum_4 rfl (lv_at hl 3 rfl) ?_
    refine lv_aload_n hx hb dX1_sum_5 rfl (lv_at hl 0 rfl) ?_
    refine k_get 8 X hk (wg_2 G _) rfl (hz_wsX10 _) (Nat.le_of_ble_eq_true rfl) (List.mem_cons_of_mem _ (aw_r3 _ (List.mem_of_getElem? (i := 3) rfl))) rfl dX1_sum_6 ?_
    refine k_get 0 X hk (wg_1 G _) rfl (hz_wsX30 _) (Nat.le_of_ble_eq_true rfl) (List.mem_cons_of_mem _ (aw_r41 _ (List.mem_of_getElem? (i := 16) rfl))) rfl dX1_sum_9 ?_
    refine lv_icmp_ge (tgt := 27) hx hb dX1_sum_12 (by decide) (fun c1 => ?_) (fun c1 => ?_)
    · replace hw := hw.1 c1
      refine lv_iload_n hx hb dX1_sum_27 rfl (lv_at hl 2 rfl) ?_
      exact k_iret X hk hw dX1_sum_28
    · replace hw := hw.2 c1
      refine lv_iload_n hx hb dX1_sum_15 rfl (lv_at hl 2 rfl) ?_
      refine lv_aload_n hx hb dX1_sum_16 rfl (lv_at hl 1 rfl) ?_
      refine lv_iload_n hx hb dX1_sum_17 rfl (lv_at hl 3 rfl) ?_
      refine k_iald X hk (wg_11 G _) hw.1 dX1_sum_18 ?_
      replace hw := hw.2
      refine lv_iadd hx hb dX1_sum_19 ?_
      refine lv_topi (fun x2_2 ex2_2 => ?_)
      replace hw := hw x2_2 ex2_2
      refine lv_istore_n (lv' := [(2, .int x2_2), (0, .ref (G.1 2)), (1, .ref (G.1 11)), (3, .int x3)]) hx hb dX1_sum_20 rfl hl (Nat.le_of_ble_eq_true rfl) rfl (fun ls hl => ?_)
      obtain ⟨x3_3, ex3_3⟩ : ∃ y : Int32, y = (x3 + (1 : Int32)) := ⟨_, rfl⟩
      replace hw := hw x3_3 ex3_3
      refine lv_iinc (v := x3_3) (lv' := [(3, .int x3_3), (2, .int x2_2), (0, .ref (G.1 2)), (1, .ref (G.1 11))]) hx hb dX1_sum_21 hl (k := 3) rfl (by rw [ex3_3]; rfl) (Nat.le_of_ble_eq_true rfl) rfl (fun ls hl => ?_)
      refine lv_goto (tgt := 4) hx hb dX1_sum_24 (by decide) ?_
      exact ih _ _ _ _ _ _ hw hk (lv_sub hl [2, 3, 1, 0] rfl)
def wp_X1_sum_k11 (σ : Sg) (Q : Int32 → Sg → Prop) : Prop := ∃ n0, wp_X1_sumk11_4 Q  n0 (0 : Int32) (0 : Int32) σ
set_option maxHeartbeats 4000000 in
set_option maxRecDepth 100000 in
theorem c_X1_sum_k11 (l : Launch) (G : Gw) (σ : Sg) (Q : Int32 → Sg → Prop) (hw : wp_X1_sum_k11 σ  Q) : MetI l yX1_sum wz_X1_sum rm_X1_sum G σ [.ref (G.1 2), .ref (G.1 11)] Q := by
  refine MetI.of cX1_sum 4 (some .int) (by decide) rfl (Nat.le_of_ble_eq_true rfl) ?_
  intro p e s m below meth c X hk ls hl
  have X : KC p m meth c cX1_sum 4 s _ wz_X1_sum RX1 (some .int) G := X
  have hl : lv_has ls 4 [(0, .ref (G.1 2)), (1, .ref (G.1 11))] := hl
  unfold wp_X1_sum_k11 at hw
  have hx := X.1.1
  have hb := X.1.2.1
  refine lv_iconst (v := (0 : Int32)) hx hb dX1_sum_0 (by decide) ?_
  refine lv_istore_n (lv' := [(2, .int (0 : Int32)), (0, .ref (G.1 2)), (1, .ref (G.1 11))]) hx hb dX1_sum_1 rfl hl (Nat.le_of_ble_eq_true rfl) rfl (fun ls hl => ?_)
  refine lv_iconst (v := (0 : Int32)) hx hb dX1_sum_2 (by decide) ?_
  refine lv_istore_n (lv' := [(3, .int (0 : Int32)), (2, .int (0 : Int32)), (0, .ref (G.1 2)), (1, .ref (G.1 11))]) hx hb dX1_sum_3 rfl hl (Nat.le_of_ble_eq_true rfl) rfl (fun ls hl => ?_)
  obtain ⟨n0, hw⟩ := hw
  exact t_X1_sumk11_4 X Q   n0 _ _ _ _ _ _ hw hk (lv_sub hl [2, 3, 1, 0] rfl)
def wp_X1_sumk12_4 (Q : Int32 → Sg → Prop)  : Nat → Int32 → Int32 → Sg → Prop
  | 0, _, _, _ => False
  | n + 1, x2, x3, σ => ((σ 1 0) ≤ x3 → (Q x2 σ)) ∧ (¬ ((σ 1 0) ≤ x3) → (vp_in x3 8 ∧ (∀ x2_2 : Int32, x2_2 = (x2 + (σ 12 (x3).toNatClampNeg)) → (∀ x3_3 : Int32, x3_3 = (x3 + (1 : Int32)) → (wp_X1_sumk12_4 Q  n x2_2 x3_3 σ)))))
set_option maxHeartbeats 4000000 in
set_option maxRecDepth 100000 in
theorem t_X1_sumk12_4 {p : Program} {l : Launch} {e : Env} {s : State} {m : MethodId} {args : Array Value} {below : List Frame} {meth : Method} {c : Code} {G : Gw} (X : KC p m meth c cX1_sum 4 s args wz_X1_sum RX1 (some .int) G) (Q : Int32 → Sg → Prop)  : ∀ (n : Nat) (σ : Sg) (x2 x3 : Int32) (H : Heap) (locs : List Loc) (ls : Array Slot), wp_X1_sumk12_4 Q  n x2 x3 σ → WK G s H locs σ → lv_has ls 4 [(0, .ref (G.1 2)), (1, .ref (G.1 12)), (2, .int x2), (3, .int x3)] → W p l e rm_X1_sum s m args below meth c H locs 0 0 (ZI below args s G Q) (F0 m 4 ls []) := by
  have hx := X.1.1
  have hb := X.1.2.1
  intro n
  induction n with
  | zero =>
    intro σ x2 x3 H locs ls hw hk hl
    exact False.elim hw
  | succ n ih =>
    intro σ x2 x3 H locs ls hw hk hl
    rw [wp_X1_sumk12_4] at hw
    refine lv_iload_n hx hb dX1_sum_4 rfl (lv_at hl 3 rfl) ?_
    refine lv_aload_n hx hb dX1_sum_5 rfl (lv_at hl 0 rfl) ?_
    refine k_get 8 X hk (wg_2 G _) rfl (hz_wsX10 _) (Nat.le_of_ble_eq_true rfl) (List.mem_cons_of_mem _ (aw_r3 _ (List.mem_of_getElem? (i := 3) rfl))) rfl dX1_sum_6 ?_
    refine k_get 0 X hk (wg_1 G _) rfl (hz_wsX30 _) (Nat.le_of_ble_eq_true rfl) (List.mem_cons_of_mem _ (aw_r41 _ (List.mem_of_getElem? (i := 16) rfl))) rfl dX1_sum_9 ?_
    refine lv_icmp_ge (tgt := 27) hx hb dX1_sum_12 (by decide) (fun c1 => ?_) (fun c1 => ?_)
    · replace hw := hw.1 c1
      refine lv_iload_n hx hb dX1_sum_27 rfl (lv_at hl 2 rfl) ?_
      exact k_iret X hk hw dX1_sum_28
    · replace hw := hw.2 c1
      refine lv_iload_n hx hb dX1_sum_15 rfl (lv_at hl 2 rfl) ?_
      refine lv_aload_n hx hb dX1_sum_16 rfl (lv_at hl 1 rfl) ?_
      refine lv_iload_n hx hb dX1_sum_17 rfl (lv_at hl 3 rfl) ?_
      refine k_iald X hk (wg_12 G _) hw.1 dX1_sum_18 ?_
      replace hw := hw.2
      refine lv_iadd hx hb dX1_sum_19 ?_
      refine lv_topi (fun x2_2 ex2_2 => ?_)
      replace hw := hw x2_2 ex2_2
      refine lv_istore_n (lv' := [(2, .int x2_2), (0, .ref (G.1 2)), (1, .ref (G.1 12)), (3, .int x3)]) hx hb dX1_sum_20 rfl hl (Nat.le_of_ble_eq_true rfl) rfl (fun ls hl => ?_)
      obtain ⟨x3_3, ex3_3⟩ : ∃ y : Int32, y = (x3 + (1 : Int32)) := ⟨_, rfl⟩
      replace hw := hw x3_3 ex3_3
      refine lv_iinc (v := x3_3) (lv' := [(3, .int x3_3), (2, .int x2_2), (0, .ref (G.1 2)), (1, .ref (G.1 12))]) hx hb dX1_sum_21 hl (k := 3) rfl (by rw [ex3_3]; rfl) (Nat.le_of_ble_eq_true rfl) rfl (fun ls hl => ?_)
      refine lv_goto (tgt := 4) hx hb dX1_sum_24 (by decide) ?_
      exact ih _ _ _ _ _ _ hw hk (lv_sub hl [2, 3, 1, 0] rfl)
def wp_X1_sum_k12 (σ : Sg) (Q : Int32 → Sg → Prop) : Prop := ∃ n0, wp_X1_sumk12_4 Q  n0 (0 : Int32) (0 : Int32) σ
set_option maxHeartbeats 4000000 in
set_option maxRecDepth 100000 in
theorem c_X1_sum_k12 (l : Launch) (G : Gw) (σ : Sg) (Q : Int32 → Sg → Prop) (hw : wp_X1_sum_k12 σ  Q) : MetI l yX1_sum wz_X1_sum rm_X1_sum G σ [.ref (G.1 2), .ref (G.1 12)] Q := by
  refine MetI.of cX1_sum 4 (some .int) (by decide) rfl (Nat.le_of_ble_eq_true rfl) ?_
  intro p e s m below meth c X hk ls hl
  have X : KC p m meth c cX1_sum 4 s _ wz_X1_sum RX1 (some .int) G := X
  have hl : lv_has ls 4 [(0, .ref (G.1 2)), (1, .ref (G.1 12))] := hl
  unfold wp_X1_sum_k12 at hw
  have hx := X.1.1
  have hb := X.1.2.1
  refine lv_iconst (v := (0 : Int32)) hx hb dX1_sum_0 (by decide) ?_
  refine lv_istore_n (lv' := [(2, .int (0 : Int32)), (0, .ref (G.1 2)), (1, .ref (G.1 12))]) hx hb dX1_sum_1 rfl hl (Nat.le_of_ble_eq_true rfl) rfl (fun ls hl => ?_)
  refine lv_iconst (v := (0 : Int32)) hx hb dX1_sum_2 (by decide) ?_
  refine lv_istore_n (lv' := [(3, .int (0 : Int32)), (2, .int (0 : Int32)), (0, .ref (G.1 2)), (1, .ref (G.1 12))]) hx hb dX1_sum_3 rfl hl (Nat.le_of_ble_eq_true rfl) rfl (fun ls hl => ?_)
  obtain ⟨n0, hw⟩ := hw
  exact t_X1_sumk12_4 X Q   n0 _ _ _ _ _ _ hw hk (lv_sub hl [2, 3, 1, 0] rfl)
def rm_X1_arrive : Room := { frames := 0, cells := 0, slots := 0, locals := 0 }
abbrev wz_X1_arrive : List Cond := Cond.code yX1_arrive cX1_arrive 4 none :: wsA
theorem hd_X1_arrive : yX1_arrive.cls = RX1 ∧ yX1_arrive.cls ≠ "java/lang/invoke/MethodHandle" ∧ yX1_arrive.cls ≠ "java/lang/invoke/VarHandle" ∧ (parseMethodDescriptor yX1_arrive.desc).map (fun d => d.parameters.length) = some 2 := by decide +kernel
def wp_X1_arrive (σ : Sg) (p1 p2 : Int32) (Q : Sg → Prop) : Prop := vp_in ((p2 * (8 : Int32)) + p1) 408 ∧ (∀ x3_1 : Int32, x3_1 = (σ 14 (((p2 * (8 : Int32)) + p1)).toNatClampNeg) → (vp_in p1 8 ∧ (vp_in p1 8 ∧ (∀ σ2 : Sg, σ2 = (put σ 10 (p1).toNatClampNeg ((σ 10 (p1).toNatClampNeg) + x3_1)) → (∀ σ3 : Sg, σ3 = (put σ2 2 4 ((σ2 2 4) - x3_1)) → (Q σ3))))))
set_option maxHeartbeats 4000000 in
set_option maxRecDepth 100000 in
theorem c_X1_arrive (l : Launch) (G : Gw) (σ : Sg) (p1 p2 : Int32) (Q : Sg → Prop) (hw : wp_X1_arrive σ p1 p2 Q) : MetV l yX1_arrive wz_X1_arrive rm_X1_arrive G σ [.ref (G.1 2), .int p1, .int p2] Q := by
  refine MetV.of cX1_arrive 4 none (by decide) rfl (Nat.le_of_ble_eq_true rfl) ?_
  intro p e s m below meth c X hk ls hl
  have X : KC p m meth c cX1_arrive 4 s _ wz_X1_arrive RX1 none G := X
  have hl : lv_has ls 4 [(0, .ref (G.1 2)), (1, .int p1), (2, .int p2)] := hl
  unfold wp_X1_arrive at hw
  have hx := X.1.1
  have hb := X.1.2.1
  refine lv_aload_n hx hb dX1_arrive_0 rfl (lv_at hl 0 rfl) ?_
  refine k_get 10 X hk (wg_2 G _) rfl (hz_wsX10 _) (Nat.le_of_ble_eq_true rfl) (List.mem_cons_of_mem _ (aw_r3 _ (List.mem_of_getElem? (i := 1) rfl))) rfl dX1_arrive_1 ?_
  refine lv_iload_n hx hb dX1_arrive_4 rfl (lv_at hl 2 rfl) ?_
  refine lv_bipush (v := (8 : Int32)) hx hb dX1_arrive_5 (by decide) ?_
  refine lv_imul hx hb dX1_arrive_7 ?_
  refine lv_iload_n hx hb dX1_arrive_8 rfl (lv_at hl 1 rfl) ?_
  refine lv_iadd hx hb dX1_arrive_9 ?_
  refine k_iald X hk (wg_14 G _) hw.1 dX1_arrive_10 ?_
  replace hw := hw.2
  refine lv_topi (fun x3_1 ex3_1 => ?_)
  replace hw := hw x3_1 ex3_1
  refine lv_istore_n (lv' := [(3, .int x3_1), (0, .ref (G.1 2)), (1, .int p1), (2, .int p2)]) hx hb dX1_arrive_11 rfl hl (Nat.le_of_ble_eq_true rfl) rfl (fun ls hl => ?_)
  refine lv_aload_n hx hb dX1_arrive_12 rfl (lv_at hl 1 rfl) ?_
  refine k_get 5 X hk (wg_2 G _) rfl (hz_wsX10 _) (Nat.le_of_ble_eq_true rfl) (List.mem_cons_of_mem _ (aw_r2 _ (List.mem_of_getElem? (i := 21) rfl))) rfl dX1_arrive_13 ?_
  refine lv_iload_n hx hb dX1_arrive_16 rfl (lv_at hl 2 rfl) ?_
  refine lv_dup2_11 hx hb dX1_arrive_17 rfl rfl ?_
  refine k_iald X hk (wg_10 G _) hw.1 dX1_arrive_18 ?_
  replace hw := hw.2
  refine lv_iload_n hx hb dX1_arrive_19 rfl (lv_at hl 0 rfl) ?_
  refine lv_iadd hx hb dX1_arrive_20 ?_
  refine k_iast X hk (wg_10 G _) (ws_10 G _) rfl hw.1 dX1_arrive_21 (fun H locs hk => ?_)
  replace hw := hw.2
  obtain ⟨σ2, eσ2⟩ : ∃ y : Sg, y = (put σ 10 (p1).toNatClampNeg ((σ 10 (p1).toNatClampNeg) + x3_1)) := ⟨_, rfl⟩
  rw [← eσ2] at hk
  replace hw := hw σ2 eσ2
  refine lv_aload_n hx hb dX1_arrive_22 rfl (lv_at hl 1 rfl) ?_
  refine lv_dup hx hb dX1_arrive_23 rfl ?_
  refine k_get 4 X hk (wg_2 G _) rfl (hz_wsX10 _) (Nat.le_of_ble_eq_true rfl) (List.mem_cons_of_mem _ (aw_r41 _ (List.mem_of_getElem? (i := 23) rfl))) rfl dX1_arrive_24 ?_
  refine lv_iload_n hx hb dX1_arrive_27 rfl (lv_at hl 0 rfl) ?_
  refine lv_isub hx hb dX1_arrive_28 ?_
  refine k_put 4 X hk (wg_2 G _) rfl (hz_wsX10 _) tyX1_ok nmX1 (Nat.le_of_ble_eq_true rfl) (List.mem_cons_of_mem _ (aw_r41 _ (List.mem_of_getElem? (i := 23) rfl))) rfl rfl (Nat.le_of_ble_eq_true rfl) (ws_2_4 G _ _) dX1_arrive_29 (fun H locs hk => ?_)
  obtain ⟨σ3, eσ3⟩ : ∃ y : Sg, y = (put σ2 2 4 ((σ2 2 4) - x3_1)) := ⟨_, rfl⟩
  rw [← eσ3] at hk
  replace hw := hw σ3 eσ3
  exact k_vret X hk hw dX1_arrive_32
def rm_X1_bringHome : Room := { frames := 1, cells := 0, slots := 0, locals := 23 }
abbrev wz_X1_bringHome : List Cond := Cond.code yX1_bringHome cX1_bringHome 2 none :: wsA
theorem hd_X1_bringHome : yX1_bringHome.cls = RX1 ∧ yX1_bringHome.cls ≠ "java/lang/invoke/MethodHandle" ∧ yX1_bringHome.cls ≠ "java/lang/invoke/VarHandle" ∧ (parseMethodDescriptor yX1_bringHome.desc).map (fun d => d.parameters.length) = some 0 := by decide +kernel
def wp_X1_bringHome_40 (Q : Sg → Prop)  : Nat → Int32 → Sg → Prop
  | 0, _, _ => False
  | n + 1, x1, σ => ((σ 1 0) ≤ x1 → (Q σ)) ∧ (¬ ((σ 1 0) ≤ x1) → (vp_in x1 8 ∧ (∀ σ9 : Sg, σ9 = (put σ 10 (x1).toNatClampNeg (0 : Int32)) → (vp_in x1 8 ∧ (∀ σ10 : Sg, σ10 = (put σ9 12 (x1).toNatClampNeg (0 : Int32)) → (wp_X3_fact σ10 x1 (0 : Int32) (fun r12 σ11 => vp_in x1 8 ∧ (∀ σ13 : Sg, σ13 = (put σ11 11 (x1).toNatClampNeg r12) → (∀ x1_14 : Int32, x1_14 = (x1 + (1 : Int32)) → (wp_X1_bringHome_40 Q  n x1_14 σ13))))))))))
set_option maxHeartbeats 4000000 in
set_option maxRecDepth 100000 in
theorem t_X1_bringHome_40 {p : Program} {l : Launch} {e : Env} {s : State} {m : MethodId} {args : Array Value} {below : List Frame} {meth : Method} {c : Code} {G : Gw} (X : KC p m meth c cX1_bringHome 2 s args wz_X1_bringHome RX1 none G) (Q : Sg → Prop)  : ∀ (n : Nat) (σ : Sg) (x1 : Int32) (H : Heap) (locs : List Loc) (ls : Array Slot), wp_X1_bringHome_40 Q  n x1 σ → WK G s H locs σ → lv_has ls 2 [(0, .ref (G.1 2)), (1, .int x1)] → W p l e rm_X1_bringHome s m args below meth c H locs 0 0 (ZV below args s G Q) (F0 m 40 ls []) := by
  have hx := X.1.1
  have hb := X.1.2.1
  intro n
  induction n with
  | zero =>
    intro σ x1 H locs ls hw hk hl
    exact False.elim hw
  | succ n ih =>
    intro σ x1 H locs ls hw hk hl
    rw [wp_X1_bringHome_40] at hw
    refine lv_iload_n hx hb dX1_bringHome_40 rfl (lv_at hl 1 rfl) ?_
    refine lv_aload_n hx hb dX1_bringHome_41 rfl (lv_at hl 0 rfl) ?_
    refine k_get 8 X hk (wg_2 G _) rfl (hz_wsX10 _) (Nat.le_of_ble_eq_true rfl) (List.mem_cons_of_mem _ (aw_r3 _ (List.mem_of_getElem? (i := 3) rfl))) rfl dX1_bringHome_42 ?_
    refine k_get 0 X hk (wg_1 G _) rfl (hz_wsX30 _) (Nat.le_of_ble_eq_true rfl) (List.mem_cons_of_mem _ (aw_r41 _ (List.mem_of_getElem? (i := 16) rfl))) rfl dX1_bringHome_45 ?_
    refine lv_icmp_ge (tgt := 86) hx hb dX1_bringHome_48 (by decide) (fun c8 => ?_) (fun c8 => ?_)
    · replace hw := hw.1 c8
      exact k_vret X hk hw dX1_bringHome_86
    · replace hw := hw.2 c8
      refine lv_aload_n hx hb dX1_bringHome_51 rfl (lv_at hl 0 rfl) ?_
      refine k_get 5 X hk (wg_2 G _) rfl (hz_wsX10 _) (Nat.le_of_ble_eq_true rfl) (List.mem_cons_of_mem _ (aw_r2 _ (List.mem_of_getElem? (i := 21) rfl))) rfl dX1_bringHome_52 ?_
      refine lv_iload_n hx hb dX1_bringHome_55 rfl (lv_at hl 1 rfl) ?_
      refine lv_iconst (v := (0 : Int32)) hx hb dX1_bringHome_56 (by decide) ?_
      refine k_iast X hk (wg_10 G _) (ws_10 G _) rfl hw.1 dX1_bringHome_57 (fun H locs hk => ?_)
      replace hw := hw.2
      obtain ⟨σ9, eσ9⟩ : ∃ y : Sg, y = (put σ 10 (x1).toNatClampNeg (0 : Int32)) := ⟨_, rfl⟩
      rw [← eσ9] at hk
      replace hw := hw σ9 eσ9
      refine lv_aload_n hx hb dX1_bringHome_58 rfl (lv_at hl 0 rfl) ?_
      refine k_get 7 X hk (wg_2 G _) rfl (hz_wsX10 _) (Nat.le_of_ble_eq_true rfl) (List.mem_cons_of_mem _ (aw_r2 _ (List.mem_of_getElem? (i := 23) rfl))) rfl dX1_bringHome_59 ?_
      refine lv_iload_n hx hb dX1_bringHome_62 rfl (lv_at hl 1 rfl) ?_
      refine lv_iconst (v := (0 : Int32)) hx hb dX1_bringHome_63 (by decide) ?_
      refine k_iast X hk (wg_12 G _) (ws_12 G _) rfl hw.1 dX1_bringHome_64 (fun H locs hk => ?_)
      replace hw := hw.2
      obtain ⟨σ10, eσ10⟩ : ∃ y : Sg, y = (put σ9 12 (x1).toNatClampNeg (0 : Int32)) := ⟨_, rfl⟩
      rw [← eσ10] at hk
      replace hw := hw σ10 eσ10
      refine lv_aload_n hx hb dX1_bringHome_65 rfl (lv_at hl 0 rfl) ?_
      refine k_get 6 X hk (wg_2 G _) rfl (hz_wsX10 _) (Nat.le_of_ble_eq_true rfl) (List.mem_cons_of_mem _ (aw_r2 _ (List.mem_of_getElem? (i := 22) rfl))) rfl dX1_bringHome_66 ?_
      refine lv_iload_n hx hb dX1_bringHome_69 rfl (lv_at hl 1 rfl) ?_
      refine lv_aload_n hx hb dX1_bringHome_70 rfl (lv_at hl 0 rfl) ?_
      refine k_get 8 X hk (wg_2 G _) rfl (hz_wsX10 _) (Nat.le_of_ble_eq_true rfl) (List.mem_cons_of_mem _ (aw_r3 _ (List.mem_of_getElem? (i := 3) rfl))) rfl dX1_bringHome_71 ?_
      refine lv_iload_n hx hb dX1_bringHome_74 rfl (lv_at hl 1 rfl) ?_
      refine lv_iconst (v := (0 : Int32)) hx hb dX1_bringHome_75 (by decide) ?_
      refine k_callVi (rest := [.int x1, .ref (G.1 11)]) X hk (c_X3_fact l G _ _ _ _ hw) (cwV 2 X.1.2.2.2.2 (gzV (aw_r42 _ (List.mem_of_getElem? (i := 1) rfl)) (aw_r20 _ (List.mem_of_getElem? (i := 20) rfl)) (aw_r20 _ (List.mem_of_getElem? (i := 21) rfl)) (aw_r1 _ (List.mem_of_getElem? (i := 15) rfl)) (aw_r20 _ (List.mem_of_getElem? (i := 22) rfl))) rfl rfl rfl hd_X3_fact ⟨(Nat.le_of_ble_eq_true rfl), (Nat.le_of_ble_eq_true rfl)⟩) (wg_1 G _) rfl rfl hl.1 rfl (Nat.le_of_ble_eq_true rfl) dX1_bringHome_76 ⟨Nat.zero_le _, Nat.zero_le _⟩ (fun r12 σ11 H locs hw hk => ?_)
      refine k_iast X hk (wg_11 G _) (ws_11 G _) rfl hw.1 dX1_bringHome_79 (fun H locs hk => ?_)
      replace hw := hw.2
      obtain ⟨σ13, eσ13⟩ : ∃ y : Sg, y = (put σ11 11 (x1).toNatClampNeg r12) := ⟨_, rfl⟩
      rw [← eσ13] at hk
      replace hw := hw σ13 eσ13
      obtain ⟨x1_14, ex1_14⟩ : ∃ y : Int32, y = (x1 + (1 : Int32)) := ⟨_, rfl⟩
      replace hw := hw x1_14 ex1_14
      refine lv_iinc (v := x1_14) (lv' := [(1, .int x1_14), (0, .ref (G.1 2))]) hx hb dX1_bringHome_80 hl (k := 1) rfl (by rw [ex1_14]; rfl) (Nat.le_of_ble_eq_true rfl) rfl (fun ls hl => ?_)
      refine lv_goto (tgt := 40) hx hb dX1_bringHome_83 (by decide) ?_
      exact ih _ _ _ _ _ hw hk (lv_sub hl [1, 0] rfl)
def wp_X1_bringHome (σ : Sg) (Q : Sg → Prop) : Prop := ∀ σ1 : Sg, σ1 = (put σ 2 1 (0 : Int32)) → (∀ σ2 : Sg, σ2 = (put σ1 2 2 (-1 : Int32)) → (∀ σ3 : Sg, σ3 = (put σ2 2 3 (-1 : Int32)) → (∀ σ4 : Sg, σ4 = (put σ3 2 4 (0 : Int32)) → (∀ σ5 : Sg, σ5 = (put σ4 2 12 (-1 : Int32)) → (∀ σ6 : Sg, σ6 = (put σ5 2 13 (-1 : Int32)) → (∀ σ7 : Sg, σ7 = (setA σ6 14 (k_fillf 408 (0 : Int32) (σ6 14))) → (∃ n0, wp_X1_bringHome_40 Q  n0 (0 : Int32) σ7)))))))
set_option maxHeartbeats 4000000 in
set_option maxRecDepth 100000 in
theorem c_X1_bringHome (l : Launch) (G : Gw) (σ : Sg) (Q : Sg → Prop) (hw : wp_X1_bringHome σ  Q) : MetV l yX1_bringHome wz_X1_bringHome rm_X1_bringHome G σ [.ref (G.1 2)] Q := by
  refine MetV.of cX1_bringHome 2 none (by decide) rfl (Nat.le_of_ble_eq_true rfl) ?_
  intro p e s m below meth c X hk ls hl
  have X : KC p m meth c cX1_bringHome 2 s _ wz_X1_bringHome RX1 none G := X
  have hl : lv_has ls 2 [(0, .ref (G.1 2))] := hl
  unfold wp_X1_bringHome at hw
  have hx := X.1.1
  have hb := X.1.2.1
  refine lv_aload_n hx hb dX1_bringHome_0 rfl (lv_at hl 0 rfl) ?_
  refine lv_iconst (v := (0 : Int32)) hx hb dX1_bringHome_1 (by decide) ?_
  refine k_put 1 X hk (wg_2 G _) rfl (hz_wsX10 _) tyX1_ok nmX1 (Nat.le_of_ble_eq_true rfl) (List.mem_cons_of_mem _ (aw_r41 _ (List.mem_of_getElem? (i := 9) rfl))) rfl rfl (Nat.le_of_ble_eq_true rfl) (ws_2_1 G _ _) dX1_bringHome_2 (fun H locs hk => ?_)
  obtain ⟨σ1, eσ1⟩ : ∃ y : Sg, y = (put σ 2 1 (0 : Int32)) := ⟨_, rfl⟩
  rw [← eσ1] at hk
  replace hw := hw σ1 eσ1
  refine lv_aload_n hx hb dX1_bringHome_5 rfl (lv_at hl 0 rfl) ?_
  refine lv_iconst (v := (-1 : Int32)) hx hb dX1_bringHome_6 (by decide) ?_
  refine k_put 2 X hk (wg_2 G _) rfl (hz_wsX10 _) tyX1_ok nmX1 (Nat.le_of_ble_eq_true rfl) (List.mem_cons_of_mem _ (aw_r41 _ (List.mem_of_getElem? (i := 17) rfl))) rfl rfl (Nat.le_of_ble_eq_true rfl) (ws_2_2 G _ _) dX1_bringHome_7 (fun H locs hk => ?_)
  obtain ⟨σ2, eσ2⟩ : ∃ y : Sg, y = (put σ1 2 2 (-1 : Int32)) := ⟨_, rfl⟩
  rw [← eσ2] at hk
  replace hw := hw σ2 eσ2
  refine lv_aload_n hx hb dX1_bringHome_10 rfl (lv_at hl 0 rfl) ?_
  refine lv_iconst (v := (-1 : Int32)) hx hb dX1_bringHome_11 (by decide) ?_
  refine k_put 3 X hk (wg_2 G _) rfl (hz_wsX10 _) tyX1_ok nmX1 (Nat.le_of_ble_eq_true rfl) (List.mem_cons_of_mem _ (aw_r41 _ (List.mem_of_getElem? (i := 22) rfl))) rfl rfl (Nat.le_of_ble_eq_true rfl) (ws_2_3 G _ _) dX1_bringHome_12 (fun H locs hk => ?_)
  obtain ⟨σ3, eσ3⟩ : ∃ y : Sg, y = (put σ2 2 3 (-1 : Int32)) := ⟨_, rfl⟩
  rw [← eσ3] at hk
  replace hw := hw σ3 eσ3
  refine lv_aload_n hx hb dX1_bringHome_15 rfl (lv_at hl 0 rfl) ?_
  refine lv_iconst (v := (0 : Int32)) hx hb dX1_bringHome_16 (by decide) ?_
  refine k_put 4 X hk (wg_2 G _) rfl (hz_wsX10 _) tyX1_ok nmX1 (Nat.le_of_ble_eq_true rfl) (List.mem_cons_of_mem _ (aw_r41 _ (List.mem_of_getElem? (i := 23) rfl))) rfl rfl (Nat.le_of_ble_eq_true rfl) (ws_2_4 G _ _) dX1_bringHome_17 (fun H locs hk => ?_)
  obtain ⟨σ4, eσ4⟩ : ∃ y : Sg, y = (put σ3 2 4 (0 : Int32)) := ⟨_, rfl⟩
  rw [← eσ4] at hk
  replace hw := hw σ4 eσ4
  refine lv_aload_n hx hb dX1_bringHome_20 rfl (lv_at hl 0 rfl) ?_
  refine lv_iconst (v := (-1 : Int32)) hx hb dX1_bringHome_21 (by decide) ?_
  refine k_put 12 X hk (wg_2 G _) rfl (hz_wsX10 _) tyX1_ok nmX1 (Nat.le_of_ble_eq_true rfl) (List.mem_cons_of_mem _ (aw_r41 _ (List.mem_of_getElem? (i := 10) rfl))) rfl rfl (Nat.le_of_ble_eq_true rfl) (ws_2_12 G _ _) dX1_bringHome_22 (fun H locs hk => ?_)
  obtain ⟨σ5, eσ5⟩ : ∃ y : Sg, y = (put σ4 2 12 (-1 : Int32)) := ⟨_, rfl⟩
  rw [← eσ5] at hk
  replace hw := hw σ5 eσ5
  refine lv_aload_n hx hb dX1_bringHome_25 rfl (lv_at hl 0 rfl) ?_
  refine lv_iconst (v := (-1 : Int32)) hx hb dX1_bringHome_26 (by decide) ?_
  refine k_put 13 X hk (wg_2 G _) rfl (hz_wsX10 _) tyX1_ok nmX1 (Nat.le_of_ble_eq_true rfl) (List.mem_cons_of_mem _ (aw_r41 _ (List.mem_of_getElem? (i := 11) rfl))) rfl rfl (Nat.le_of_ble_eq_true rfl) (ws_2_13 G _ _) dX1_bringHome_27 (fun H locs hk => ?_)
  obtain ⟨σ6, eσ6⟩ : ∃ y : Sg, y = (put σ5 2 13 (-1 : Int32)) := ⟨_, rfl⟩
  rw [← eσ6] at hk
  replace hw := hw σ6 eσ6
  refine lv_aload_n hx hb dX1_bringHome_30 rfl (lv_at hl 0 rfl) ?_
  refine k_get 10 X hk (wg_2 G _) rfl (hz_wsX10 _) (Nat.le_of_ble_eq_true rfl) (List.mem_cons_of_mem _ (aw_r3 _ (List.mem_of_getElem? (i := 1) rfl))) rfl dX1_bringHome_31 ?_
  refine lv_iconst (v := (0 : Int32)) hx hb dX1_bringHome_34 (by decide) ?_
  refine k_callSv (rest := []) X hk (c_fill l G _ 14 408 (wg_14 G) (ws_14 G) (Nat.le_of_ble_eq_true rfl) _ (fun σ9 => σ9 = (setA σ6 14 (k_fillf 408 (0 : Int32) (σ6 14)))) rfl) (va_cwS 2 X.1.2.2.2.2 (gzS (aw_r42 _ (List.mem_of_getElem? (i := 0) rfl)) (aw_r26 _ (List.mem_of_getElem? (i := 16) rfl)) (aw_r26 _ (List.mem_of_getElem? (i := 17) rfl)) (aw_r26 _ (List.mem_of_getElem? (i := 18) rfl))) rfl rfl rfl (by decide +kernel) ⟨(Nat.le_of_ble_eq_true rfl), (Nat.le_of_ble_eq_true rfl)⟩) rfl hl.1 rfl (Nat.le_of_ble_eq_true rfl) dX1_bringHome_35 ⟨Nat.zero_le _, Nat.zero_le _⟩ (fun σ7 H locs h9 hk => ?_)
  replace hw := hw σ7 h9
  refine lv_iconst (v := (0 : Int32)) hx hb dX1_bringHome_38 (by decide) ?_
  refine lv_istore_n (lv' := [(1, .int (0 : Int32)), (0, .ref (G.1 2))]) hx hb dX1_bringHome_39 rfl hl (Nat.le_of_ble_eq_true rfl) rfl (fun ls hl => ?_)
  obtain ⟨n0, hw⟩ := hw
  exact t_X1_bringHome_40 X Q   n0 _ _ _ _ _ hw hk (lv_sub hl [1, 0] rfl)
def rm_X1_leavers : Room := { frames := 1, cells := 0, slots := 0, locals := 22 }
abbrev wz_X1_leavers : List Cond := Cond.code yX1_leavers cX1_leavers 3 (some .int) :: wsA
theorem hd_X1_leavers : yX1_leavers.cls = RX1 ∧ yX1_leavers.cls ≠ "java/lang/invoke/MethodHandle" ∧ yX1_leavers.cls ≠ "java/lang/invoke/VarHandle" ∧ (parseMethodDescriptor yX1_leavers.desc).map (fun d => d.parameters.length) = some 2 := by decide +kernel
def wp_X1_leavers (σ : Sg) (p1 p2 : Int32) (Q : Int32 → Sg → Prop) : Prop := wp_X3_fact σ p1 (2 : Int32) (fun r2 σ1 => (p2 < r2 → (Q (0 : Int32) σ1)) ∧ (¬ (p2 < r2) → (vp_in p1 8 ∧ (Q (σ1 11 (p1).toNatClampNeg) σ1))))
set_option maxHeartbeats 4000000 in
set_option maxRecDepth 100000 in
theorem c_X1_leavers (l : Launch) (G : Gw) (σ : Sg) (p1 p2 : Int32) (Q : Int32 → Sg → Prop) (hw : wp_X1_leavers σ p1 p2 Q) : MetI l yX1_leavers wz_X1_leavers rm_X1_leavers G σ [.ref (G.1 2), .int p1, .int p2] Q := by
  refine MetI.of cX1_leavers 3 (some .int) (by decide) rfl (Nat.le_of_ble_eq_true rfl) ?_
  intro p e s m below meth c X hk ls hl
  have X : KC p m meth c cX1_leavers 3 s _ wz_X1_leavers RX1 (some .int) G := X
  have hl : lv_has ls 3 [(0, .ref (G.1 2)), (1, .int p1), (2, .int p2)] := hl
  unfold wp_X1_leavers at hw
  have hx := X.1.1
  have hb := X.1.2.1
  refine lv_iload_n hx hb dX1_leavers_0 rfl (lv_at hl 2 rfl) ?_
  refine lv_aload_n hx hb dX1_leavers_1 rfl (lv_at hl 0 rfl) ?_
  refine k_get 8 X hk (wg_2 G _) rfl (hz_wsX10 _) (Nat.le_of_ble_eq_true rfl) (List.mem_cons_of_mem _ (aw_r3 _ (List.mem_of_getElem? (i := 3) rfl))) rfl dX1_leavers_2 ?_
  refine lv_iload_n hx hb dX1_leavers_5 rfl (lv_at hl 1 rfl) ?_
  refine lv_iconst (v := (2 : Int32)) hx hb dX1_leavers_6 (by decide) ?_
  refine k_callVi (rest := [.int p2]) X hk (c_X3_fact l G _ _ _ _ hw) (cwV 2 X.1.2.2.2.2 (gzV (aw_r42 _ (List.mem_of_getElem? (i := 1) rfl)) (aw_r20 _ (List.mem_of_getElem? (i := 20) rfl)) (aw_r20 _ (List.mem_of_getElem? (i := 21) rfl)) (aw_r1 _ (List.mem_of_getElem? (i := 15) rfl)) (aw_r20 _ (List.mem_of_getElem? (i := 22) rfl))) rfl rfl rfl hd_X3_fact ⟨(Nat.le_of_ble_eq_true rfl), (Nat.le_of_ble_eq_true rfl)⟩) (wg_1 G _) rfl rfl hl.1 rfl (Nat.le_of_ble_eq_true rfl) dX1_leavers_7 ⟨Nat.zero_le _, Nat.zero_le _⟩ (fun r2 σ1 H locs hw hk => ?_)
  refine lv_icmp_lt (tgt := 22) hx hb dX1_leavers_10 (by decide) (fun c3 => ?_) (fun c3 => ?_)
  · replace hw := hw.1 c3
    refine lv_iconst (v := (0 : Int32)) hx hb dX1_leavers_22 (by decide) ?_
    exact k_iret X hk hw dX1_leavers_23
  · replace hw := hw.2 c3
    refine lv_aload_n hx hb dX1_leavers_13 rfl (lv_at hl 0 rfl) ?_
    refine k_get 6 X hk (wg_2 G _) rfl (hz_wsX10 _) (Nat.le_of_ble_eq_true rfl) (List.mem_cons_of_mem _ (aw_r2 _ (List.mem_of_getElem? (i := 22) rfl))) rfl dX1_leavers_14 ?_
    refine lv_iload_n hx hb dX1_leavers_17 rfl (lv_at hl 1 rfl) ?_
    refine k_iald X hk (wg_11 G _) hw.1 dX1_leavers_18 ?_
    replace hw := hw.2
    refine lv_goto (tgt := 23) hx hb dX1_leavers_19 (by decide) ?_
    exact k_iret X hk hw dX1_leavers_23
def rm_X1_makeMove : Room := { frames := 2, cells := 0, slots := 0, locals := 44 }
abbrev wz_X1_makeMove : List Cond := Cond.code yX1_makeMove cX1_makeMove 8 (some .int) :: wsA
theorem hd_X1_makeMove : yX1_makeMove.cls = RX1 ∧ yX1_makeMove.cls ≠ "java/lang/invoke/MethodHandle" ∧ yX1_makeMove.cls ≠ "java/lang/invoke/VarHandle" ∧ (parseMethodDescriptor yX1_makeMove.desc).map (fun d => d.parameters.length) = some 2 := by decide +kernel
def wp_X1_makeMove (σ : Sg) (p1 p2 : Int32) (Q : Int32 → Sg → Prop) : Prop := wp_X1_part σ p1 (1 : Int32) (fun r2 σ1 => wp_X1_part σ1 p1 (2 : Int32) (fun r4 σ3 => ∀ x4_5 : Int32, x4_5 = (((2 : Int32) * r2) + r4) → (wp_X1_part σ3 p1 (3 : Int32) (fun r7 σ6 => vp_in x4_5 24 ∧ (∀ x6_8 : Int32, x6_8 = (σ6 7 (x4_5).toNatClampNeg) → (vp_in x4_5 24 ∧ (vp_in x4_5 24 ∧ ((((σ6 15 (x4_5).toNatClampNeg) + r7) ≤ (σ6 8 (x4_5).toNatClampNeg) → (vp_in x6_8 8 ∧ (wp_X1_leavers σ6 x6_8 p2 (fun r11 σ10 => (r7 ≤ ((σ6 10 (x6_8).toNatClampNeg) + r11) → (vp_in x6_8 8 ∧ (∀ x7_13 : Int32, x7_13 = (if (σ10 10 (x6_8).toNatClampNeg) < r7 then (σ10 10 (x6_8).toNatClampNeg) else r7) → (vp_in x6_8 8 ∧ (vp_in x6_8 8 ∧ (∀ σ14 : Sg, σ14 = (put σ10 10 (x6_8).toNatClampNeg ((σ10 10 (x6_8).toNatClampNeg) - x7_13)) → (vp_in x6_8 8 ∧ (vp_in x6_8 8 ∧ (∀ σ15 : Sg, σ15 = (put σ14 11 (x6_8).toNatClampNeg ((σ14 11 (x6_8).toNatClampNeg) - (r7 - x7_13))) → (vp_in x4_5 24 ∧ (vp_in x4_5 24 ∧ (∀ σ16 : Sg, σ16 = (put σ15 15 (x4_5).toNatClampNeg ((σ15 15 (x4_5).toNatClampNeg) + r7)) → (∀ σ17 : Sg, σ17 = (put σ16 2 4 ((σ16 2 4) + r7)) → (vp_in r2 12 ∧ (vp_in (x4_5 ^^^ (1 : Int32)) 24 ∧ (vp_in (((p2 + (σ17 6 (r2).toNatClampNeg)) * (8 : Int32)) + (σ17 7 ((x4_5 ^^^ (1 : Int32))).toNatClampNeg)) 408 ∧ (vp_in (((p2 + (σ17 6 (r2).toNatClampNeg)) * (8 : Int32)) + (σ17 7 ((x4_5 ^^^ (1 : Int32))).toNatClampNeg)) 408 ∧ (∀ σ18 : Sg, σ18 = (put σ17 14 ((((p2 + (σ17 6 (r2).toNatClampNeg)) * (8 : Int32)) + (σ17 7 ((x4_5 ^^^ (1 : Int32))).toNatClampNeg))).toNatClampNeg ((σ17 14 ((((p2 + (σ17 6 (r2).toNatClampNeg)) * (8 : Int32)) + (σ17 7 ((x4_5 ^^^ (1 : Int32))).toNatClampNeg))).toNatClampNeg) + r7)) → (Q (0 : Int32) σ18))))))))))))))))))) ∧ (¬ (r7 ≤ ((σ6 10 (x6_8).toNatClampNeg) + r11)) → (Q ((2 : Int32) + ((8 : Int32) * p1)) σ10)))))) ∧ (¬ (((σ6 15 (x4_5).toNatClampNeg) + r7) ≤ (σ6 8 (x4_5).toNatClampNeg)) → (Q ((1 : Int32) + ((8 : Int32) * p1)) σ6))))))))))
set_option maxHeartbeats 4000000 in
set_option maxRecDepth 100000 in
theorem c_X1_makeMove (l : Launch) (G : Gw) (σ : Sg) (p1 p2 : Int32) (Q : Int32 → Sg → Prop) (hw : wp_X1_makeMove σ p1 p2 Q) : MetI l yX1_makeMove wz_X1_makeMove rm_X1_makeMove G σ [.ref (G.1 2), .int p1, .int p2] Q := by
  refine MetI.of cX1_makeMove 8 (some .int) (by decide) rfl (Nat.le_of_ble_eq_true rfl) ?_
  intro p e s m below meth c X hk ls hl
  have X : KC p m meth c cX1_makeMove 8 s _ wz_X1_makeMove RX1 (some .int) G := X
  have hl : lv_has ls 8 [(0, .ref (G.1 2)), (1, .int p1), (2, .int p2)] := hl
  unfold wp_X1_makeMove at hw
  have hx := X.1.1
  have hb := X.1.2.1
  refine lv_aload_n hx hb dX1_makeMove_0 rfl (lv_at hl 0 rfl) ?_
  refine lv_iload_n hx hb dX1_makeMove_1 rfl (lv_at hl 1 rfl) ?_
  refine lv_iconst (v := (1 : Int32)) hx hb dX1_makeMove_2 (by decide) ?_
  refine k_callVi (rest := []) X hk (c_X1_part l G _ _ _ _ hw) (cwV 2 X.1.2.2.2.2 (gzV (aw_r21 _ (List.mem_of_getElem? (i := 17) rfl)) (aw_r21 _ (List.mem_of_getElem? (i := 18) rfl)) (aw_r21 _ (List.mem_of_getElem? (i := 19) rfl)) (aw_r1 _ (List.mem_of_getElem? (i := 19) rfl)) (aw_r21 _ (List.mem_of_getElem? (i := 20) rfl))) rfl rfl rfl hd_X1_part ⟨(Nat.le_of_ble_eq_true rfl), (Nat.le_of_ble_eq_true rfl)⟩) (wg_2 G _) rfl rfl hl.1 rfl (Nat.le_of_ble_eq_true rfl) dX1_makeMove_3 ⟨Nat.zero_le _, Nat.zero_le _⟩ (fun r2 σ1 H locs hw hk => ?_)
  refine lv_istore_n (lv' := [(3, .int r2), (0, .ref (G.1 2)), (1, .int p1), (2, .int p2)]) hx hb dX1_makeMove_6 rfl hl (Nat.le_of_ble_eq_true rfl) rfl (fun ls hl => ?_)
  refine lv_iconst (v := (2 : Int32)) hx hb dX1_makeMove_7 (by decide) ?_
  refine lv_iload_n hx hb dX1_makeMove_8 rfl (lv_at hl 0 rfl) ?_
  refine lv_imul hx hb dX1_makeMove_9 ?_
  refine lv_aload_n hx hb dX1_makeMove_10 rfl (lv_at hl 1 rfl) ?_
  refine lv_iload_n hx hb dX1_makeMove_11 rfl (lv_at hl 2 rfl) ?_
  refine lv_iconst (v := (2 : Int32)) hx hb dX1_makeMove_12 (by decide) ?_
  refine k_callVi (rest := [.int ((2 : Int32) * r2)]) X hk (c_X1_part l G _ _ _ _ hw) (cwV 2 X.1.2.2.2.2 (gzV (aw_r21 _ (List.mem_of_getElem? (i := 17) rfl)) (aw_r21 _ (List.mem_of_getElem? (i := 18) rfl)) (aw_r21 _ (List.mem_of_getElem? (i := 19) rfl)) (aw_r1 _ (List.mem_of_getElem? (i := 19) rfl)) (aw_r21 _ (List.mem_of_getElem? (i := 20) rfl))) rfl rfl rfl hd_X1_part ⟨(Nat.le_of_ble_eq_true rfl), (Nat.le_of_ble_eq_true rfl)⟩) (wg_2 G _) rfl rfl hl.1 rfl (Nat.le_of_ble_eq_true rfl) dX1_makeMove_13 ⟨Nat.zero_le _, Nat.zero_le _⟩ (fun r4 σ3 H locs hw hk => ?_)
  refine lv_iadd hx hb dX1_makeMove_16 ?_
  refine lv_topi (fun x4_5 ex4_5 => ?_)
  replace hw := hw x4_5 ex4_5
  refine lv_istore (lv' := [(4, .int x4_5), (3, .int r2), (0, .ref (G.1 2)), (1, .int p1), (2, .int p2)]) hx hb dX1_makeMove_17 hl (Nat.le_of_ble_eq_true rfl) rfl (fun ls hl => ?_)
  refine lv_aload_n hx hb dX1_makeMove_19 rfl (lv_at hl 2 rfl) ?_
  refine lv_iload_n hx hb dX1_makeMove_20 rfl (lv_at hl 3 rfl) ?_
  refine lv_iconst (v := (3 : Int32)) hx hb dX1_makeMove_21 (by decide) ?_
  refine k_callVi (rest := []) X hk (c_X1_part l G _ _ _ _ hw) (cwV 2 X.1.2.2.2.2 (gzV (aw_r21 _ (List.mem_of_getElem? (i := 17) rfl)) (aw_r21 _ (List.mem_of_getElem? (i := 18) rfl)) (aw_r21 _ (List.mem_of_getElem? (i := 19) rfl)) (aw_r1 _ (List.mem_of_getElem? (i := 19) rfl)) (aw_r21 _ (List.mem_of_getElem? (i := 20) rfl))) rfl rfl rfl hd_X1_part ⟨(Nat.le_of_ble_eq_true rfl), (Nat.le_of_ble_eq_true rfl)⟩) (wg_2 G _) rfl rfl hl.1 rfl (Nat.le_of_ble_eq_true rfl) dX1_makeMove_22 ⟨Nat.zero_le _, Nat.zero_le _⟩ (fun r7 σ6 H locs hw hk => ?_)
  refine lv_istore (lv' := [(5, .int r7), (4, .int x4_5), (3, .int r2), (0, .ref (G.1 2)), (1, .int p1), (2, .int p2)]) hx hb dX1_makeMove_25 hl (Nat.le_of_ble_eq_true rfl) rfl (fun ls hl => ?_)
  refine lv_aload_n hx hb dX1_makeMove_27 rfl (lv_at hl 3 rfl) ?_
  refine k_get 8 X hk (wg_2 G _) rfl (hz_wsX10 _) (Nat.le_of_ble_eq_true rfl) (List.mem_cons_of_mem _ (aw_r3 _ (List.mem_of_getElem? (i := 3) rfl))) rfl dX1_makeMove_28 ?_
  refine k_get 3 X hk (wg_1 G _) rfl (hz_wsX30 _) (Nat.le_of_ble_eq_true rfl) (List.mem_cons_of_mem _ (aw_r42 _ (List.mem_of_getElem? (i := 23) rfl))) rfl dX1_makeMove_31 ?_
  refine lv_iload hx hb dX1_makeMove_34 (lv_at hl 1 rfl) ?_
  refine k_iald X hk (wg_7 G _) hw.1 dX1_makeMove_36 ?_
  replace hw := hw.2
  refine lv_topi (fun x6_8 ex6_8 => ?_)
  replace hw := hw x6_8 ex6_8
  refine lv_istore (lv' := [(6, .int x6_8), (5, .int r7), (4, .int x4_5), (3, .int r2), (0, .ref (G.1 2)), (1, .int p1), (2, .int p2)]) hx hb dX1_makeMove_37 hl (Nat.le_of_ble_eq_true rfl) rfl (fun ls hl => ?_)
  refine lv_aload_n hx hb dX1_makeMove_39 rfl (lv_at hl 4 rfl) ?_
  refine k_get 11 X hk (wg_2 G _) rfl (hz_wsX10 _) (Nat.le_of_ble_eq_true rfl) (List.mem_cons_of_mem _ (aw_r3 _ (List.mem_of_getElem? (i := 2) rfl))) rfl dX1_makeMove_40 ?_
  refine lv_iload hx hb dX1_makeMove_43 (lv_at hl 2 rfl) ?_
  refine k_iald X hk (wg_15 G _) hw.1 dX1_makeMove_45 ?_
  replace hw := hw.2
  refine lv_iload hx hb dX1_makeMove_46 (lv_at hl 1 rfl) ?_
  refine lv_iadd hx hb dX1_makeMove_48 ?_
  refine lv_aload_n hx hb dX1_makeMove_49 rfl (lv_at hl 4 rfl) ?_
  refine k_get 8 X hk (wg_2 G _) rfl (hz_wsX10 _) (Nat.le_of_ble_eq_true rfl) (List.mem_cons_of_mem _ (aw_r3 _ (List.mem_of_getElem? (i := 3) rfl))) rfl dX1_makeMove_50 ?_
  refine k_get 4 X hk (wg_1 G _) rfl (hz_wsX30 _) (Nat.le_of_ble_eq_true rfl) (List.mem_cons_of_mem _ (aw_r43 _ (List.mem_of_getElem? (i := 0) rfl))) rfl dX1_makeMove_53 ?_
  refine lv_iload hx hb dX1_makeMove_56 (lv_at hl 2 rfl) ?_
  refine k_iald X hk (wg_8 G _) hw.1 dX1_makeMove_58 ?_
  replace hw := hw.2
  refine lv_icmp_le (tgt := 69) hx hb dX1_makeMove_59 (by decide) (fun c9 => ?_) (fun c9 => ?_)
  · replace hw := hw.1 c9
    refine lv_iload hx hb dX1_makeMove_69 (lv_at hl 1 rfl) ?_
    refine lv_aload_n hx hb dX1_makeMove_71 rfl (lv_at hl 4 rfl) ?_
    refine k_get 5 X hk (wg_2 G _) rfl (hz_wsX10 _) (Nat.le_of_ble_eq_true rfl) (List.mem_cons_of_mem _ (aw_r2 _ (List.mem_of_getElem? (i := 21) rfl))) rfl dX1_makeMove_72 ?_
    refine lv_iload hx hb dX1_makeMove_75 (lv_at hl 0 rfl) ?_
    refine k_iald X hk (wg_10 G _) hw.1 dX1_makeMove_77 ?_
    replace hw := hw.2
    refine lv_aload_n hx hb dX1_makeMove_78 rfl (lv_at hl 4 rfl) ?_
    refine lv_iload hx hb dX1_makeMove_79 (lv_at hl 0 rfl) ?_
    refine lv_iload_n hx hb dX1_makeMove_81 rfl (lv_at hl 6 rfl) ?_
    refine k_callVi (rest := [.int (σ6 10 (x6_8).toNatClampNeg), .int r7]) X hk (c_X1_leavers l G _ _ _ _ hw) (cwV 2 X.1.2.2.2.2 (gzV (aw_r42 _ (List.mem_of_getElem? (i := 11) rfl)) (aw_r42 _ (List.mem_of_getElem? (i := 12) rfl)) (aw_r42 _ (List.mem_of_getElem? (i := 13) rfl)) (aw_r1 _ (List.mem_of_getElem? (i := 19) rfl)) (aw_r42 _ (List.mem_of_getElem? (i := 14) rfl))) rfl rfl rfl hd_X1_leavers ⟨(Nat.le_of_ble_eq_true rfl), (Nat.le_of_ble_eq_true rfl)⟩) (wg_2 G _) rfl rfl hl.1 rfl (Nat.le_of_ble_eq_true rfl) dX1_makeMove_82 ⟨Nat.zero_le _, Nat.zero_le _⟩ (fun r11 σ10 H locs hw hk => ?_)
    refine lv_iadd hx hb dX1_makeMove_85 ?_
    refine lv_icmp_le (tgt := 96) hx hb dX1_makeMove_86 (by decide) (fun c12 => ?_) (fun c12 => ?_)
    · replace hw := hw.1 c12
      refine lv_iload hx hb dX1_makeMove_96 (lv_at hl 1 rfl) ?_
      refine lv_aload_n hx hb dX1_makeMove_98 rfl (lv_at hl 4 rfl) ?_
      refine k_get 5 X hk (wg_2 G _) rfl (hz_wsX10 _) (Nat.le_of_ble_eq_true rfl) (List.mem_cons_of_mem _ (aw_r2 _ (List.mem_of_getElem? (i := 21) rfl))) rfl dX1_makeMove_99 ?_
      refine lv_iload hx hb dX1_makeMove_102 (lv_at hl 0 rfl) ?_
      refine k_iald X hk (wg_10 G _) hw.1 dX1_makeMove_104 ?_
      replace hw := hw.2
      refine va_mmin hx hb (X.1.2.2.1.trans hl.1.symm) X.1.2.2.2.1 (X.1.2.2.2.2 _ (List.mem_cons_of_mem _ (aw_r42 _ (List.mem_of_getElem? (i := 10) rfl)))) (X.1.2.2.2.2 _ (List.mem_cons_of_mem _ (aw_r30 _ (List.mem_of_getElem? (i := 16) rfl)))) (X.1.2.2.2.2 _ (List.mem_cons_of_mem _ (aw_r30 _ (List.mem_of_getElem? (i := 9) rfl)))) (X.1.2.2.2.2 _ (List.mem_cons_of_mem _ (aw_r30 _ (List.mem_of_getElem? (i := 17) rfl)))) (Nat.le_of_ble_eq_true rfl) (Nat.le_of_ble_eq_true rfl) (Nat.zero_le _) (Nat.zero_le _) dX1_makeMove_105 ?_
      refine lv_topi (fun x7_13 ex7_13 => ?_)
      replace hw := hw x7_13 ex7_13
      refine lv_istore (lv' := [(7, .int x7_13), (6, .int x6_8), (5, .int r7), (4, .int x4_5), (3, .int r2), (0, .ref (G.1 2)), (1, .int p1), (2, .int p2)]) hx hb dX1_makeMove_108 hl (Nat.le_of_ble_eq_true rfl) rfl (fun ls hl => ?_)
      refine lv_aload_n hx hb dX1_makeMove_110 rfl (lv_at hl 5 rfl) ?_
      refine k_get 5 X hk (wg_2 G _) rfl (hz_wsX10 _) (Nat.le_of_ble_eq_true rfl) (List.mem_cons_of_mem _ (aw_r2 _ (List.mem_of_getElem? (i := 21) rfl))) rfl dX1_makeMove_111 ?_
      refine lv_iload hx hb dX1_makeMove_114 (lv_at hl 1 rfl) ?_
      refine lv_dup2_11 hx hb dX1_makeMove_116 rfl rfl ?_
      refine k_iald X hk (wg_10 G _) hw.1 dX1_makeMove_117 ?_
      replace hw := hw.2
      refine lv_iload hx hb dX1_makeMove_118 (lv_at hl 0 rfl) ?_
      refine lv_isub hx hb dX1_makeMove_120 ?_
      refine k_iast X hk (wg_10 G _) (ws_10 G _) rfl hw.1 dX1_makeMove_121 (fun H locs hk => ?_)
      replace hw := hw.2
      obtain ⟨σ14, eσ14⟩ : ∃ y : Sg, y = (put σ10 10 (x6_8).toNatClampNeg ((σ10 10 (x6_8).toNatClampNeg) - x7_13)) := ⟨_, rfl⟩
      rw [← eσ14] at hk
      replace hw := hw σ14 eσ14
      refine lv_aload_n hx hb dX1_makeMove_122 rfl (lv_at hl 5 rfl) ?_
      refine k_get 6 X hk (wg_2 G _) rfl (hz_wsX10 _) (Nat.le_of_ble_eq_true rfl) (List.mem_cons_of_mem _ (aw_r2 _ (List.mem_of_getElem? (i := 22) rfl))) rfl dX1_makeMove_123 ?_
      refine lv_iload hx hb dX1_makeMove_126 (lv_at hl 1 rfl) ?_
      refine lv_dup2_11 hx hb dX1_makeMove_128 rfl rfl ?_
      refine k_iald X hk (wg_11 G _) hw.1 dX1_makeMove_129 ?_
      replace hw := hw.2
      refine lv_iload hx hb dX1_makeMove_130 (lv_at hl 2 rfl) ?_
      refine lv_iload hx hb dX1_makeMove_132 (lv_at hl 0 rfl) ?_
      refine lv_isub hx hb dX1_makeMove_134 ?_
      refine lv_isub hx hb dX1_makeMove_135 ?_
      refine k_iast X hk (wg_11 G _) (ws_11 G _) rfl hw.1 dX1_makeMove_136 (fun H locs hk => ?_)
      replace hw := hw.2
      obtain ⟨σ15, eσ15⟩ : ∃ y : Sg, y = (put σ14 11 (x6_8).toNatClampNeg ((σ14 11 (x6_8).toNatClampNeg) - (r7 - x7_13))) := ⟨_, rfl⟩
      rw [← eσ15] at hk
      replace hw := hw σ15 eσ15
      refine lv_aload_n hx hb dX1_makeMove_137 rfl (lv_at hl 5 rfl) ?_
      refine k_get 11 X hk (wg_2 G _) rfl (hz_wsX10 _) (Nat.le_of_ble_eq_true rfl) (List.mem_cons_of_mem _ (aw_r3 _ (List.mem_of_getElem? (i := 2) rfl))) rfl dX1_makeMove_138 ?_
      refine lv_iload hx hb dX1_makeMove_141 (lv_at hl 3 rfl) ?_
      refine lv_dup2_11 hx hb dX1_makeMove_143 rfl rfl ?_
      refine k_iald X hk (wg_15 G _) hw.1 dX1_makeMove_144 ?_
      replace hw := hw.2
      refine lv_iload hx hb dX1_makeMove_145 (lv_at hl 2 rfl) ?_
      refine lv_iadd hx hb dX1_makeMove_147 ?_
      refine k_iast X hk (wg_15 G _) (ws_15 G _) rfl hw.1 dX1_makeMove_148 (fun H locs hk => ?_)
      replace hw := hw.2
      obtain ⟨σ16, eσ16⟩ : ∃ y : Sg, y = (put σ15 15 (x4_5).toNatClampNeg ((σ15 15 (x4_5).toNatClampNeg) + r7)) := ⟨_, rfl⟩
      rw [← eσ16] at hk
      replace hw := hw σ16 eσ16
      refine lv_aload_n hx hb dX1_makeMove_149 rfl (lv_at hl 5 rfl) ?_
      refine lv_dup hx hb dX1_makeMove_150 rfl ?_
      refine k_get 4 X hk (wg_2 G _) rfl (hz_wsX10 _) (Nat.le_of_ble_eq_true rfl) (List.mem_cons_of_mem _ (aw_r41 _ (List.mem_of_getElem? (i := 23) rfl))) rfl dX1_makeMove_151 ?_
      refine lv_iload hx hb dX1_makeMove_154 (lv_at hl 2 rfl) ?_
      refine lv_iadd hx hb dX1_makeMove_156 ?_
      refine k_put 4 X hk (wg_2 G _) rfl (hz_wsX10 _) tyX1_ok nmX1 (Nat.le_of_ble_eq_true rfl) (List.mem_cons_of_mem _ (aw_r41 _ (List.mem_of_getElem? (i := 23) rfl))) rfl rfl (Nat.le_of_ble_eq_true rfl) (ws_2_4 G _ _) dX1_makeMove_157 (fun H locs hk => ?_)
      obtain ⟨σ17, eσ17⟩ : ∃ y : Sg, y = (put σ16 2 4 ((σ16 2 4) + r7)) := ⟨_, rfl⟩
      rw [← eσ17] at hk
      replace hw := hw σ17 eσ17
      refine lv_aload_n hx hb dX1_makeMove_160 rfl (lv_at hl 5 rfl) ?_
      refine k_get 10 X hk (wg_2 G _) rfl (hz_wsX10 _) (Nat.le_of_ble_eq_true rfl) (List.mem_cons_of_mem _ (aw_r3 _ (List.mem_of_getElem? (i := 1) rfl))) rfl dX1_makeMove_161 ?_
      refine lv_iload_n hx hb dX1_makeMove_164 rfl (lv_at hl 7 rfl) ?_
      refine lv_aload_n hx hb dX1_makeMove_165 rfl (lv_at hl 5 rfl) ?_
      refine k_get 8 X hk (wg_2 G _) rfl (hz_wsX10 _) (Nat.le_of_ble_eq_true rfl) (List.mem_cons_of_mem _ (aw_r3 _ (List.mem_of_getElem? (i := 3) rfl))) rfl dX1_makeMove_166 ?_
      refine k_get 2 X hk (wg_1 G _) rfl (hz_wsX30 _) (Nat.le_of_ble_eq_true rfl) (List.mem_cons_of_mem _ (aw_r43 _ (List.mem_of_getElem? (i := 1) rfl))) rfl dX1_makeMove_169 ?_
      refine lv_iload_n hx hb dX1_makeMove_172 rfl (lv_at hl 4 rfl) ?_
      refine k_iald X hk (wg_6 G _) hw.1 dX1_makeMove_173 ?_
      replace hw := hw.2
      refine lv_iadd hx hb dX1_makeMove_174 ?_
      refine lv_bipush (v := (8 : Int32)) hx hb dX1_makeMove_175 (by decide) ?_
      refine lv_imul hx hb dX1_makeMove_177 ?_
      refine lv_aload_n hx hb dX1_makeMove_178 rfl (lv_at hl 5 rfl) ?_
      refine k_get 8 X hk (wg_2 G _) rfl (hz_wsX10 _) (Nat.le_of_ble_eq_true rfl) (List.mem_cons_of_mem _ (aw_r3 _ (List.mem_of_getElem? (i := 3) rfl))) rfl dX1_makeMove_179 ?_
      refine k_get 3 X hk (wg_1 G _) rfl (hz_wsX30 _) (Nat.le_of_ble_eq_true rfl) (List.mem_cons_of_mem _ (aw_r42 _ (List.mem_of_getElem? (i := 23) rfl))) rfl dX1_makeMove_182 ?_
      refine lv_iload hx hb dX1_makeMove_185 (lv_at hl 3 rfl) ?_
      refine lv_iconst (v := (1 : Int32)) hx hb dX1_makeMove_187 (by decide) ?_
      refine lv_ixor hx hb dX1_makeMove_188 ?_
      refine k_iald X hk (wg_7 G _) hw.1 dX1_makeMove_189 ?_
      replace hw := hw.2
      refine lv_iadd hx hb dX1_makeMove_190 ?_
      refine lv_dup2_11 hx hb dX1_makeMove_191 rfl rfl ?_
      refine k_iald X hk (wg_14 G _) hw.1 dX1_makeMove_192 ?_
      replace hw := hw.2
      refine lv_iload hx hb dX1_makeMove_193 (lv_at hl 2 rfl) ?_
      refine lv_iadd hx hb dX1_makeMove_195 ?_
      refine k_iast X hk (wg_14 G _) (ws_14 G _) rfl hw.1 dX1_makeMove_196 (fun H locs hk => ?_)
      replace hw := hw.2
      obtain ⟨σ18, eσ18⟩ : ∃ y : Sg, y = (put σ17 14 ((((p2 + (σ17 6 (r2).toNatClampNeg)) * (8 : Int32)) + (σ17 7 ((x4_5 ^^^ (1 : Int32))).toNatClampNeg))).toNatClampNeg ((σ17 14 ((((p2 + (σ17 6 (r2).toNatClampNeg)) * (8 : Int32)) + (σ17 7 ((x4_5 ^^^ (1 : Int32))).toNatClampNeg))).toNatClampNeg) + r7)) := ⟨_, rfl⟩
      rw [← eσ18] at hk
      replace hw := hw σ18 eσ18
      refine lv_iconst (v := (0 : Int32)) hx hb dX1_makeMove_197 (by decide) ?_
      exact k_iret X hk hw dX1_makeMove_198
    · replace hw := hw.2 c12
      refine lv_iconst (v := (2 : Int32)) hx hb dX1_makeMove_89 (by decide) ?_
      refine lv_bipush (v := (8 : Int32)) hx hb dX1_makeMove_90 (by decide) ?_
      refine lv_iload_n hx hb dX1_makeMove_92 rfl (lv_at hl 5 rfl) ?_
      refine lv_imul hx hb dX1_makeMove_93 ?_
      refine lv_iadd hx hb dX1_makeMove_94 ?_
      exact k_iret X hk hw dX1_makeMove_95
  · replace hw := hw.2 c9
    refine lv_iconst (v := (1 : Int32)) hx hb dX1_makeMove_62 (by decide) ?_
    refine lv_bipush (v := (8 : Int32)) hx hb dX1_makeMove_63 (by decide) ?_
    refine lv_iload_n hx hb dX1_makeMove_65 rfl (lv_at hl 5 rfl) ?_
    refine lv_imul hx hb dX1_makeMove_66 ?_
    refine lv_iadd hx hb dX1_makeMove_67 ?_
    exact k_iret X hk hw dX1_makeMove_68
def rm_X1_makeMoves : Room := { frames := 3, cells := 0, slots := 0, locals := 71 }
abbrev wz_X1_makeMoves : List Cond := Cond.code yX1_makeMoves cX1_makeMoves 3 none :: wsA
theorem hd_X1_makeMoves : yX1_makeMoves.cls = RX1 ∧ yX1_makeMoves.cls ≠ "java/lang/invoke/MethodHandle" ∧ yX1_makeMoves.cls ≠ "java/lang/invoke/VarHandle" ∧ (parseMethodDescriptor yX1_makeMoves.desc).map (fun d => d.parameters.length) = some 1 := by decide +kernel
def wp_X1_makeMoves_45 (Q : Sg → Prop) (K10 : Int32 → Int32 → Sg → Prop) (x1 x2 : Int32) (σ : Sg) : Prop := ∀ x2_7 : Int32, x2_7 = (x2 + (1 : Int32)) → (K10 x1 x2_7 σ)
set_option maxHeartbeats 4000000 in
set_option maxRecDepth 100000 in
theorem t_X1_makeMoves_45 {p : Program} {l : Launch} {e : Env} {s : State} {m : MethodId} {args : Array Value} {below : List Frame} {meth : Method} {c : Code} {G : Gw} (X : KC p m meth c cX1_makeMoves 3 s args wz_X1_makeMoves RX1 none G) (Q : Sg → Prop) (K10 : Int32 → Int32 → Sg → Prop) (hK10 : ∀ (σ : Sg) (x1 x2 : Int32) (H : Heap) (locs : List Loc) (ls : Array Slot), K10 x1 x2 σ → WK G s H locs σ → lv_has ls 3 [(0, .ref (G.1 2)), (1, .int x1), (2, .int x2)] → W p l e rm_X1_makeMoves s m args below meth c H locs 0 0 (ZV below args s G Q) (F0 m 10 ls [])) : ∀ (σ : Sg) (x1 x2 : Int32) (H : Heap) (locs : List Loc) (ls : Array Slot), wp_X1_makeMoves_45 Q K10 x1 x2 σ → WK G s H locs σ → lv_has ls 3 [(0, .ref (G.1 2)), (1, .int x1), (2, .int x2)] → W p l e rm_X1_makeMoves s m args below meth c H locs 0 0 (ZV below args s G Q) (F0 m 45 ls []) := by
  have hx := X.1.1
  have hb := X.1.2.1
  intro σ x1 x2 H locs ls hw hk hl
  unfold wp_X1_makeMoves_45 at hw
  obtain ⟨x2_7, ex2_7⟩ : ∃ y : Int32, y = (x2 + (1 : Int32)) := ⟨_, rfl⟩
  replace hw := hw x2_7 ex2_7
  refine lv_iinc (v := x2_7) (lv' := [(2, .int x2_7), (0, .ref (G.1 2)), (1, .int x1)]) hx hb dX1_makeMoves_45 hl (k := 2) rfl (by rw [ex2_7]; rfl) (Nat.le_of_ble_eq_true rfl) rfl (fun ls hl => ?_)
  refine lv_goto (tgt := 10) hx hb dX1_makeMoves_48 (by decide) ?_
  exact hK10 _ _ _ _ _ _ hw hk (lv_sub hl [1, 2, 0] rfl)
def wp_X1_makeMoves_10 (Q : Sg → Prop)  : Nat → Int32 → Int32 → Sg → Prop
  | 0, _, _, _ => False
  | n + 1, x1, x2, σ => ((σ 2 0) ≤ x2 → (Q σ)) ∧ (¬ ((σ 2 0) ≤ x2) → (((σ 2 1) = 0 → (wp_X1_part σ x2 (0 : Int32) (fun r5 σ4 => (r5 = x1 → (wp_X1_makeMove σ4 x2 x1 (fun r9 σ8 => ∀ σ10 : Sg, σ10 = (put σ8 2 1 r9) → (wp_X1_makeMoves_45 Q (fun z1 z2 σ => wp_X1_makeMoves_10 Q  n z1 z2 σ) x1 x2 σ10)))) ∧ (¬ (r5 = x1) → (wp_X1_makeMoves_45 Q (fun z1 z2 σ => wp_X1_makeMoves_10 Q  n z1 z2 σ) x1 x2 σ4))))) ∧ (¬ ((σ 2 1) = 0) → (Q σ))))
set_option maxHeartbeats 4000000 in
set_option maxRecDepth 100000 in
theorem t_X1_makeMoves_10 {p : Program} {l : Launch} {e : Env} {s : State} {m : MethodId} {args : Array Value} {below : List Frame} {meth : Method} {c : Code} {G : Gw} (X : KC p m meth c cX1_makeMoves 3 s args wz_X1_makeMoves RX1 none G) (Q : Sg → Prop)  : ∀ (n : Nat) (σ : Sg) (x1 x2 : Int32) (H : Heap) (locs : List Loc) (ls : Array Slot), wp_X1_makeMoves_10 Q  n x1 x2 σ → WK G s H locs σ → lv_has ls 3 [(0, .ref (G.1 2)), (1, .int x1), (2, .int x2)] → W p l e rm_X1_makeMoves s m args below meth c H locs 0 0 (ZV below args s G Q) (F0 m 10 ls []) := by
  have hx := X.1.1
  have hb := X.1.2.1
  intro n
  induction n with
  | zero =>
    intro σ x1 x2 H locs ls hw hk hl
    exact False.elim hw
  | succ n ih =>
    intro σ x1 x2 H locs ls hw hk hl
    rw [wp_X1_makeMoves_10] at hw
    refine lv_iload_n hx hb dX1_makeMoves_10 rfl (lv_at hl 2 rfl) ?_
    refine lv_aload_n hx hb dX1_makeMoves_11 rfl (lv_at hl 0 rfl) ?_
    refine k_get 0 X hk (wg_2 G _) rfl (hz_wsX10 _) (Nat.le_of_ble_eq_true rfl) (List.mem_cons_of_mem _ (aw_r14 _ (List.mem_of_getElem? (i := 6) rfl))) rfl dX1_makeMoves_12 ?_
    refine lv_icmp_ge (tgt := 51) hx hb dX1_makeMoves_15 (by decide) (fun c2 => ?_) (fun c2 => ?_)
    · replace hw := hw.1 c2
      exact k_vret X hk hw dX1_makeMoves_51
    · replace hw := hw.2 c2
      refine lv_aload_n hx hb dX1_makeMoves_18 rfl (lv_at hl 0 rfl) ?_
      refine k_get 1 X hk (wg_2 G _) rfl (hz_wsX10 _) (Nat.le_of_ble_eq_true rfl) (List.mem_cons_of_mem _ (aw_r41 _ (List.mem_of_getElem? (i := 9) rfl))) rfl dX1_makeMoves_19 ?_
      refine lv_if_ne (tgt := 51) hx hb dX1_makeMoves_22 (by decide) (fun c3 => ?_) (fun c3 => ?_)
      · replace hw := hw.2 c3
        exact k_vret X hk hw dX1_makeMoves_51
      · replace hw := hw.1 c3
        refine lv_aload_n hx hb dX1_makeMoves_25 rfl (lv_at hl 0 rfl) ?_
        refine lv_iload_n hx hb dX1_makeMoves_26 rfl (lv_at hl 2 rfl) ?_
        refine lv_iconst (v := (0 : Int32)) hx hb dX1_makeMoves_27 (by decide) ?_
        refine k_callVi (rest := []) X hk (c_X1_part l G _ _ _ _ hw) (cwV 2 X.1.2.2.2.2 (gzV (aw_r21 _ (List.mem_of_getElem? (i := 17) rfl)) (aw_r21 _ (List.mem_of_getElem? (i := 18) rfl)) (aw_r21 _ (List.mem_of_getElem? (i := 19) rfl)) (aw_r1 _ (List.mem_of_getElem? (i := 19) rfl)) (aw_r21 _ (List.mem_of_getElem? (i := 20) rfl))) rfl rfl rfl hd_X1_part ⟨(Nat.le_of_ble_eq_true rfl), (Nat.le_of_ble_eq_true rfl)⟩) (wg_2 G _) rfl rfl hl.1 rfl (Nat.le_of_ble_eq_true rfl) dX1_makeMoves_28 ⟨Nat.zero_le _, Nat.zero_le _⟩ (fun r5 σ4 H locs hw hk => ?_)
        refine lv_iload_n hx hb dX1_makeMoves_31 rfl (lv_at hl 1 rfl) ?_
        refine lv_icmp_ne (tgt := 45) hx hb dX1_makeMoves_32 (by decide) (fun c6 => ?_) (fun c6 => ?_)
        · replace hw := hw.2 c6
          exact t_X1_makeMoves_45 X Q _ ih _ _ _ _ _ _ hw hk hl
        · replace hw := hw.1 c6
          refine lv_aload_n hx hb dX1_makeMoves_35 rfl (lv_at hl 0 rfl) ?_
          refine lv_aload_n hx hb dX1_makeMoves_36 rfl (lv_at hl 0 rfl) ?_
          refine lv_iload_n hx hb dX1_makeMoves_37 rfl (lv_at hl 2 rfl) ?_
          refine lv_iload_n hx hb dX1_makeMoves_38 rfl (lv_at hl 1 rfl) ?_
          refine k_callVi (rest := [.ref (G.1 2)]) X hk (c_X1_makeMove l G _ _ _ _ hw) (cwV 2 X.1.2.2.2.2 (gzV (aw_r42 _ (List.mem_of_getElem? (i := 19) rfl)) (aw_r42 _ (List.mem_of_getElem? (i := 20) rfl)) (aw_r42 _ (List.mem_of_getElem? (i := 21) rfl)) (aw_r1 _ (List.mem_of_getElem? (i := 19) rfl)) (aw_r42 _ (List.mem_of_getElem? (i := 22) rfl))) rfl rfl rfl hd_X1_makeMove ⟨(Nat.le_of_ble_eq_true rfl), (Nat.le_of_ble_eq_true rfl)⟩) (wg_2 G _) rfl rfl hl.1 rfl (Nat.le_of_ble_eq_true rfl) dX1_makeMoves_39 ⟨Nat.zero_le _, Nat.zero_le _⟩ (fun r9 σ8 H locs hw hk => ?_)
          refine k_put 1 X hk (wg_2 G _) rfl (hz_wsX10 _) tyX1_ok nmX1 (Nat.le_of_ble_eq_true rfl) (List.mem_cons_of_mem _ (aw_r41 _ (List.mem_of_getElem? (i := 9) rfl))) rfl rfl (Nat.le_of_ble_eq_true rfl) (ws_2_1 G _ _) dX1_makeMoves_42 (fun H locs hk => ?_)
          obtain ⟨σ10, eσ10⟩ : ∃ y : Sg, y = (put σ8 2 1 r9) := ⟨_, rfl⟩
          rw [← eσ10] at hk
          replace hw := hw σ10 eσ10
          exact t_X1_makeMoves_45 X Q _ ih _ _ _ _ _ _ hw hk hl
def wp_X1_makeMoves (σ : Sg) (p1 : Int32) (Q : Sg → Prop) : Prop := ∀ σ1 : Sg, σ1 = (setA σ 15 (k_fillf 24 (0 : Int32) (σ 15))) → (∃ n0, wp_X1_makeMoves_10 Q  n0 p1 (0 : Int32) σ1)
set_option maxHeartbeats 4000000 in
set_option maxRecDepth 100000 in
theorem c_X1_makeMoves (l : Launch) (G : Gw) (σ : Sg) (p1 : Int32) (Q : Sg → Prop) (hw : wp_X1_makeMoves σ p1 Q) : MetV l yX1_makeMoves wz_X1_makeMoves rm_X1_makeMoves G σ [.ref (G.1 2), .int p1] Q := by
  refine MetV.of cX1_makeMoves 3 none (by decide) rfl (Nat.le_of_ble_eq_true rfl) ?_
  intro p e s m below meth c X hk ls hl
  have X : KC p m meth c cX1_makeMoves 3 s _ wz_X1_makeMoves RX1 none G := X
  have hl : lv_has ls 3 [(0, .ref (G.1 2)), (1, .int p1)] := hl
  unfold wp_X1_makeMoves at hw
  have hx := X.1.1
  have hb := X.1.2.1
  refine lv_aload_n hx hb dX1_makeMoves_0 rfl (lv_at hl 0 rfl) ?_
  refine k_get 11 X hk (wg_2 G _) rfl (hz_wsX10 _) (Nat.le_of_ble_eq_true rfl) (List.mem_cons_of_mem _ (aw_r3 _ (List.mem_of_getElem? (i := 2) rfl))) rfl dX1_makeMoves_1 ?_
  refine lv_iconst (v := (0 : Int32)) hx hb dX1_makeMoves_4 (by decide) ?_
  refine k_callSv (rest := []) X hk (c_fill l G _ 15 24 (wg_15 G) (ws_15 G) (Nat.le_of_ble_eq_true rfl) _ (fun σ9 => σ9 = (setA σ 15 (k_fillf 24 (0 : Int32) (σ 15)))) rfl) (va_cwS 2 X.1.2.2.2.2 (gzS (aw_r42 _ (List.mem_of_getElem? (i := 0) rfl)) (aw_r26 _ (List.mem_of_getElem? (i := 16) rfl)) (aw_r26 _ (List.mem_of_getElem? (i := 17) rfl)) (aw_r26 _ (List.mem_of_getElem? (i := 18) rfl))) rfl rfl rfl (by decide +kernel) ⟨(Nat.le_of_ble_eq_true rfl), (Nat.le_of_ble_eq_true rfl)⟩) rfl hl.1 rfl (Nat.le_of_ble_eq_true rfl) dX1_makeMoves_5 ⟨Nat.zero_le _, Nat.zero_le _⟩ (fun σ1 H locs h9 hk => ?_)
  replace hw := hw σ1 h9
  refine lv_iconst (v := (0 : Int32)) hx hb dX1_makeMoves_8 (by decide) ?_
  refine lv_istore_n (lv' := [(2, .int (0 : Int32)), (0, .ref (G.1 2)), (1, .int p1)]) hx hb dX1_makeMoves_9 rfl hl (Nat.le_of_ble_eq_true rfl) rfl (fun ls hl => ?_)
  obtain ⟨n0, hw⟩ := hw
  exact t_X1_makeMoves_10 X Q   n0 _ _ _ _ _ _ hw hk (lv_sub hl [1, 2, 0] rfl)
def rm_X1_noteCrowds : Room := { frames := 1, cells := 0, slots := 0, locals := 22 }
abbrev wz_X1_noteCrowds : List Cond := Cond.code yX1_noteCrowds cX1_noteCrowds 3 none :: wsA
theorem hd_X1_noteCrowds : yX1_noteCrowds.cls = RX1 ∧ yX1_noteCrowds.cls ≠ "java/lang/invoke/MethodHandle" ∧ yX1_noteCrowds.cls ≠ "java/lang/invoke/VarHandle" ∧ (parseMethodDescriptor yX1_noteCrowds.desc).map (fun d => d.parameters.length) = some 1 := by decide +kernel
def wp_X1_noteCrowds_49 (Q : Sg → Prop) (K2 : Int32 → Int32 → Sg → Prop) (x1 x2 : Int32) (σ : Sg) : Prop := ∀ x2_6 : Int32, x2_6 = (x2 + (1 : Int32)) → (K2 x1 x2_6 σ)
set_option maxHeartbeats 4000000 in
set_option maxRecDepth 100000 in
theorem t_X1_noteCrowds_49 {p : Program} {l : Launch} {e : Env} {s : State} {m : MethodId} {args : Array Value} {below : List Frame} {meth : Method} {c : Code} {G : Gw} (X : KC p m meth c cX1_noteCrowds 3 s args wz_X1_noteCrowds RX1 none G) (Q : Sg → Prop) (K2 : Int32 → Int32 → Sg → Prop) (hK2 : ∀ (σ : Sg) (x1 x2 : Int32) (H : Heap) (locs : List Loc) (ls : Array Slot), K2 x1 x2 σ → WK G s H locs σ → lv_has ls 3 [(0, .ref (G.1 2)), (1, .int x1), (2, .int x2)] → W p l e rm_X1_noteCrowds s m args below meth c H locs 0 0 (ZV below args s G Q) (F0 m 2 ls [])) : ∀ (σ : Sg) (x1 x2 : Int32) (H : Heap) (locs : List Loc) (ls : Array Slot), wp_X1_noteCrowds_49 Q K2 x1 x2 σ → WK G s H locs σ → lv_has ls 3 [(0, .ref (G.1 2)), (1, .int x1), (2, .int x2)] → W p l e rm_X1_noteCrowds s m args below meth c H locs 0 0 (ZV below args s G Q) (F0 m 49 ls []) := by
  have hx := X.1.1
  have hb := X.1.2.1
  intro σ x1 x2 H locs ls hw hk hl
  unfold wp_X1_noteCrowds_49 at hw
  obtain ⟨x2_6, ex2_6⟩ : ∃ y : Int32, y = (x2 + (1 : Int32)) := ⟨_, rfl⟩
  replace hw := hw x2_6 ex2_6
  refine lv_iinc (v := x2_6) (lv' := [(2, .int x2_6), (0, .ref (G.1 2)), (1, .int x1)]) hx hb dX1_noteCrowds_49 hl (k := 2) rfl (by rw [ex2_6]; rfl) (Nat.le_of_ble_eq_true rfl) rfl (fun ls hl => ?_)
  refine lv_goto (tgt := 2) hx hb dX1_noteCrowds_52 (by decide) ?_
  exact hK2 _ _ _ _ _ _ hw hk (lv_sub hl [1, 2, 0] rfl)
def wp_X1_noteCrowds_2 (Q : Sg → Prop)  : Nat → Int32 → Int32 → Sg → Prop
  | 0, _, _, _ => False
  | n + 1, x1, x2, σ => ((σ 1 0) ≤ x2 → (Q σ)) ∧ (¬ ((σ 1 0) ≤ x2) → (((σ 2 12) = (-1 : Int32) → (vp_in x2 8 ∧ (wp_X3_fact σ x2 (3 : Int32) (fun r4 σ3 => ((σ 10 (x2).toNatClampNeg) ≤ r4 → (wp_X1_noteCrowds_49 Q (fun z1 z2 σ => wp_X1_noteCrowds_2 Q  n z1 z2 σ) x1 x2 σ3)) ∧ (¬ ((σ 10 (x2).toNatClampNeg) ≤ r4) → (∀ σ7 : Sg, σ7 = (put σ3 2 12 x2) → (∀ σ8 : Sg, σ8 = (put σ7 2 13 x1) → (wp_X1_noteCrowds_49 Q (fun z1 z2 σ => wp_X1_noteCrowds_2 Q  n z1 z2 σ) x1 x2 σ8)))))))) ∧ (¬ ((σ 2 12) = (-1 : Int32)) → (Q σ))))
set_option maxHeartbeats 4000000 in
set_option maxRecDepth 100000 in
theorem t_X1_noteCrowds_2 {p : Program} {l : Launch} {e : Env} {s : State} {m : MethodId} {args : Array Value} {below : List Frame} {meth : Method} {c : Code} {G : Gw} (X : KC p m meth c cX1_noteCrowds 3 s args wz_X1_noteCrowds RX1 none G) (Q : Sg → Prop)  : ∀ (n : Nat) (σ : Sg) (x1 x2 : Int32) (H : Heap) (locs : List Loc) (ls : Array Slot), wp_X1_noteCrowds_2 Q  n x1 x2 σ → WK G s H locs σ → lv_has ls 3 [(0, .ref (G.1 2)), (1, .int x1), (2, .int x2)] → W p l e rm_X1_noteCrowds s m args below meth c H locs 0 0 (ZV below args s G Q) (F0 m 2 ls []) := by
  have hx := X.1.1
  have hb := X.1.2.1
  intro n
  induction n with
  | zero =>
    intro σ x1 x2 H locs ls hw hk hl
    exact False.elim hw
  | succ n ih =>
    intro σ x1 x2 H locs ls hw hk hl
    rw [wp_X1_noteCrowds_2] at hw
    refine lv_iload_n hx hb dX1_noteCrowds_2 rfl (lv_at hl 2 rfl) ?_
    refine lv_aload_n hx hb dX1_noteCrowds_3 rfl (lv_at hl 0 rfl) ?_
    refine k_get 8 X hk (wg_2 G _) rfl (hz_wsX10 _) (Nat.le_of_ble_eq_true rfl) (List.mem_cons_of_mem _ (aw_r3 _ (List.mem_of_getElem? (i := 3) rfl))) rfl dX1_noteCrowds_4 ?_
    refine k_get 0 X hk (wg_1 G _) rfl (hz_wsX30 _) (Nat.le_of_ble_eq_true rfl) (List.mem_cons_of_mem _ (aw_r41 _ (List.mem_of_getElem? (i := 16) rfl))) rfl dX1_noteCrowds_7 ?_
    refine lv_icmp_ge (tgt := 55) hx hb dX1_noteCrowds_10 (by decide) (fun c1 => ?_) (fun c1 => ?_)
    · replace hw := hw.1 c1
      exact k_vret X hk hw dX1_noteCrowds_55
    · replace hw := hw.2 c1
      refine lv_aload_n hx hb dX1_noteCrowds_13 rfl (lv_at hl 0 rfl) ?_
      refine k_get 12 X hk (wg_2 G _) rfl (hz_wsX10 _) (Nat.le_of_ble_eq_true rfl) (List.mem_cons_of_mem _ (aw_r41 _ (List.mem_of_getElem? (i := 10) rfl))) rfl dX1_noteCrowds_14 ?_
      refine lv_iconst (v := (-1 : Int32)) hx hb dX1_noteCrowds_17 (by decide) ?_
      refine lv_icmp_ne (tgt := 55) hx hb dX1_noteCrowds_18 (by decide) (fun c2 => ?_) (fun c2 => ?_)
      · replace hw := hw.2 c2
        exact k_vret X hk hw dX1_noteCrowds_55
      · replace hw := hw.1 c2
        refine lv_aload_n hx hb dX1_noteCrowds_21 rfl (lv_at hl 0 rfl) ?_
        refine k_get 5 X hk (wg_2 G _) rfl (hz_wsX10 _) (Nat.le_of_ble_eq_true rfl) (List.mem_cons_of_mem _ (aw_r2 _ (List.mem_of_getElem? (i := 21) rfl))) rfl dX1_noteCrowds_22 ?_
        refine lv_iload_n hx hb dX1_noteCrowds_25 rfl (lv_at hl 2 rfl) ?_
        refine k_iald X hk (wg_10 G _) hw.1 dX1_noteCrowds_26 ?_
        replace hw := hw.2
        refine lv_aload_n hx hb dX1_noteCrowds_27 rfl (lv_at hl 0 rfl) ?_
        refine k_get 8 X hk (wg_2 G _) rfl (hz_wsX10 _) (Nat.le_of_ble_eq_true rfl) (List.mem_cons_of_mem _ (aw_r3 _ (List.mem_of_getElem? (i := 3) rfl))) rfl dX1_noteCrowds_28 ?_
        refine lv_iload_n hx hb dX1_noteCrowds_31 rfl (lv_at hl 2 rfl) ?_
        refine lv_iconst (v := (3 : Int32)) hx hb dX1_noteCrowds_32 (by decide) ?_
        refine k_callVi (rest := [.int (σ 10 (x2).toNatClampNeg)]) X hk (c_X3_fact l G _ _ _ _ hw) (cwV 2 X.1.2.2.2.2 (gzV (aw_r42 _ (List.mem_of_getElem? (i := 1) rfl)) (aw_r20 _ (List.mem_of_getElem? (i := 20) rfl)) (aw_r20 _ (List.mem_of_getElem? (i := 21) rfl)) (aw_r1 _ (List.mem_of_getElem? (i := 15) rfl)) (aw_r20 _ (List.mem_of_getElem? (i := 22) rfl))) rfl rfl rfl hd_X3_fact ⟨(Nat.le_of_ble_eq_true rfl), (Nat.le_of_ble_eq_true rfl)⟩) (wg_1 G _) rfl rfl hl.1 rfl (Nat.le_of_ble_eq_true rfl) dX1_noteCrowds_33 ⟨Nat.zero_le _, Nat.zero_le _⟩ (fun r4 σ3 H locs hw hk => ?_)
        refine lv_icmp_le (tgt := 49) hx hb dX1_noteCrowds_36 (by decide) (fun c5 => ?_) (fun c5 => ?_)
        · replace hw := hw.1 c5
          exact t_X1_noteCrowds_49 X Q _ ih _ _ _ _ _ _ hw hk hl
        · replace hw := hw.2 c5
          refine lv_aload_n hx hb dX1_noteCrowds_39 rfl (lv_at hl 0 rfl) ?_
          refine lv_iload_n hx hb dX1_noteCrowds_40 rfl (lv_at hl 2 rfl) ?_
          refine k_put 12 X hk (wg_2 G _) rfl (hz_wsX10 _) tyX1_ok nmX1 (Nat.le_of_ble_eq_true rfl) (List.mem_cons_of_mem _ (aw_r41 _ (List.mem_of_getElem? (i := 10) rfl))) rfl rfl (Nat.le_of_ble_eq_true rfl) (ws_2_12 G _ _) dX1_noteCrowds_41 (fun H locs hk => ?_)
          obtain ⟨σ7, eσ7⟩ : ∃ y : Sg, y = (put σ3 2 12 x2) := ⟨_, rfl⟩
          rw [← eσ7] at hk
          replace hw := hw σ7 eσ7
          refine lv_aload_n hx hb dX1_noteCrowds_44 rfl (lv_at hl 0 rfl) ?_
          refine lv_iload_n hx hb dX1_noteCrowds_45 rfl (lv_at hl 1 rfl) ?_
          refine k_put 13 X hk (wg_2 G _) rfl (hz_wsX10 _) tyX1_ok nmX1 (Nat.le_of_ble_eq_true rfl) (List.mem_cons_of_mem _ (aw_r41 _ (List.mem_of_getElem? (i := 11) rfl))) rfl rfl (Nat.le_of_ble_eq_true rfl) (ws_2_13 G _ _) dX1_noteCrowds_46 (fun H locs hk => ?_)
          obtain ⟨σ8, eσ8⟩ : ∃ y : Sg, y = (put σ7 2 13 x1) := ⟨_, rfl⟩
          rw [← eσ8] at hk
          replace hw := hw σ8 eσ8
          exact t_X1_noteCrowds_49 X Q _ ih _ _ _ _ _ _ hw hk hl
def wp_X1_noteCrowds (σ : Sg) (p1 : Int32) (Q : Sg → Prop) : Prop := ∃ n0, wp_X1_noteCrowds_2 Q  n0 p1 (0 : Int32) σ
set_option maxHeartbeats 4000000 in
set_option maxRecDepth 100000 in
theorem c_X1_noteCrowds (l : Launch) (G : Gw) (σ : Sg) (p1 : Int32) (Q : Sg → Prop) (hw : wp_X1_noteCrowds σ p1 Q) : MetV l yX1_noteCrowds wz_X1_noteCrowds rm_X1_noteCrowds G σ [.ref (G.1 2), .int p1] Q := by
  refine MetV.of cX1_noteCrowds 3 none (by decide) rfl (Nat.le_of_ble_eq_true rfl) ?_
  intro p e s m below meth c X hk ls hl
  have X : KC p m meth c cX1_noteCrowds 3 s _ wz_X1_noteCrowds RX1 none G := X
  have hl : lv_has ls 3 [(0, .ref (G.1 2)), (1, .int p1)] := hl
  unfold wp_X1_noteCrowds at hw
  have hx := X.1.1
  have hb := X.1.2.1
  refine lv_iconst (v := (0 : Int32)) hx hb dX1_noteCrowds_0 (by decide) ?_
  refine lv_istore_n (lv' := [(2, .int (0 : Int32)), (0, .ref (G.1 2)), (1, .int p1)]) hx hb dX1_noteCrowds_1 rfl hl (Nat.le_of_ble_eq_true rfl) rfl (fun ls hl => ?_)
  obtain ⟨n0, hw⟩ := hw
  exact t_X1_noteCrowds_2 X Q   n0 _ _ _ _ _ _ hw hk (lv_sub hl [1, 2, 0] rfl)
def rm_X1_takeShelter : Room := { frames := 2, cells := 0, slots := 0, locals := 44 }
abbrev wz_X1_takeShelter : List Cond := Cond.code yX1_takeShelter cX1_takeShelter 6 none :: wsA
theorem hd_X1_takeShelter : yX1_takeShelter.cls = RX1 ∧ yX1_takeShelter.cls ≠ "java/lang/invoke/MethodHandle" ∧ yX1_takeShelter.cls ≠ "java/lang/invoke/VarHandle" ∧ (parseMethodDescriptor yX1_takeShelter.desc).map (fun d => d.parameters.length) = some 2 := by decide +kernel
def wp_X1_takeShelter (σ : Sg) (p1 p2 : Int32) (Q : Sg → Prop) : Prop := wp_X3_fact σ p1 (1 : Int32) (fun r2 σ1 => vp_in p1 8 ∧ (∀ x3_3 : Int32, x3_3 = (r2 - (σ1 12 (p1).toNatClampNeg)) → (vp_in p1 8 ∧ (∀ x4_4 : Int32, x4_4 = (if (σ1 10 (p1).toNatClampNeg) < x3_3 then (σ1 10 (p1).toNatClampNeg) else x3_3) → (wp_X1_leavers σ1 p1 p2 (fun r6 σ5 => ∀ x5_7 : Int32, x5_7 = (if r6 < (x3_3 - x4_4) then r6 else (x3_3 - x4_4)) → (vp_in p1 8 ∧ (vp_in p1 8 ∧ (∀ σ8 : Sg, σ8 = (put σ5 10 (p1).toNatClampNeg ((σ5 10 (p1).toNatClampNeg) - x4_4)) → (vp_in p1 8 ∧ (vp_in p1 8 ∧ (∀ σ9 : Sg, σ9 = (put σ8 11 (p1).toNatClampNeg ((σ8 11 (p1).toNatClampNeg) - x5_7)) → (vp_in p1 8 ∧ (vp_in p1 8 ∧ (∀ σ10 : Sg, σ10 = (put σ9 12 (p1).toNatClampNeg ((σ9 12 (p1).toNatClampNeg) + (x4_4 + x5_7))) → (((x4_4 + x5_7) ≤ 0 → (Q σ10)) ∧ (¬ ((x4_4 + x5_7) ≤ 0) → (∀ σ12 : Sg, σ12 = (put σ10 2 3 p2) → (Q σ12)))))))))))))))))))
set_option maxHeartbeats 4000000 in
set_option maxRecDepth 100000 in
theorem c_X1_takeShelter (l : Launch) (G : Gw) (σ : Sg) (p1 p2 : Int32) (Q : Sg → Prop) (hw : wp_X1_takeShelter σ p1 p2 Q) : MetV l yX1_takeShelter wz_X1_takeShelter rm_X1_takeShelter G σ [.ref (G.1 2), .int p1, .int p2] Q := by
  refine MetV.of cX1_takeShelter 6 none (by decide) rfl (Nat.le_of_ble_eq_true rfl) ?_
  intro p e s m below meth c X hk ls hl
  have X : KC p m meth c cX1_takeShelter 6 s _ wz_X1_takeShelter RX1 none G := X
  have hl : lv_has ls 6 [(0, .ref (G.1 2)), (1, .int p1), (2, .int p2)] := hl
  unfold wp_X1_takeShelter at hw
  have hx := X.1.1
  have hb := X.1.2.1
  refine lv_aload_n hx hb dX1_takeShelter_0 rfl (lv_at hl 0 rfl) ?_
  refine k_get 8 X hk (wg_2 G _) rfl (hz_wsX10 _) (Nat.le_of_ble_eq_true rfl) (List.mem_cons_of_mem _ (aw_r3 _ (List.mem_of_getElem? (i := 3) rfl))) rfl dX1_takeShelter_1 ?_
  refine lv_iload_n hx hb dX1_takeShelter_4 rfl (lv_at hl 1 rfl) ?_
  refine lv_iconst (v := (1 : Int32)) hx hb dX1_takeShelter_5 (by decide) ?_
  refine k_callVi (rest := []) X hk (c_X3_fact l G _ _ _ _ hw) (cwV 2 X.1.2.2.2.2 (gzV (aw_r42 _ (List.mem_of_getElem? (i := 1) rfl)) (aw_r20 _ (List.mem_of_getElem? (i := 20) rfl)) (aw_r20 _ (List.mem_of_getElem? (i := 21) rfl)) (aw_r1 _ (List.mem_of_getElem? (i := 15) rfl)) (aw_r20 _ (List.mem_of_getElem? (i := 22) rfl))) rfl rfl rfl hd_X3_fact ⟨(Nat.le_of_ble_eq_true rfl), (Nat.le_of_ble_eq_true rfl)⟩) (wg_1 G _) rfl rfl hl.1 rfl (Nat.le_of_ble_eq_true rfl) dX1_takeShelter_6 ⟨Nat.zero_le _, Nat.zero_le _⟩ (fun r2 σ1 H locs hw hk => ?_)
  refine lv_aload_n hx hb dX1_takeShelter_9 rfl (lv_at hl 0 rfl) ?_
  refine k_get 7 X hk (wg_2 G _) rfl (hz_wsX10 _) (Nat.le_of_ble_eq_true rfl) (List.mem_cons_of_mem _ (aw_r2 _ (List.mem_of_getElem? (i := 23) rfl))) rfl dX1_takeShelter_10 ?_
  refine lv_iload_n hx hb dX1_takeShelter_13 rfl (lv_at hl 1 rfl) ?_
  refine k_iald X hk (wg_12 G _) hw.1 dX1_takeShelter_14 ?_
  replace hw := hw.2
  refine lv_isub hx hb dX1_takeShelter_15 ?_
  refine lv_topi (fun x3_3 ex3_3 => ?_)
  replace hw := hw x3_3 ex3_3
  refine lv_istore_n (lv' := [(3, .int x3_3), (0, .ref (G.1 2)), (1, .int p1), (2, .int p2)]) hx hb dX1_takeShelter_16 rfl hl (Nat.le_of_ble_eq_true rfl) rfl (fun ls hl => ?_)
  refine lv_iload_n hx hb dX1_takeShelter_17 rfl (lv_at hl 0 rfl) ?_
  refine lv_aload_n hx hb dX1_takeShelter_18 rfl (lv_at hl 1 rfl) ?_
  refine k_get 5 X hk (wg_2 G _) rfl (hz_wsX10 _) (Nat.le_of_ble_eq_true rfl) (List.mem_cons_of_mem _ (aw_r2 _ (List.mem_of_getElem? (i := 21) rfl))) rfl dX1_takeShelter_19 ?_
  refine lv_iload_n hx hb dX1_takeShelter_22 rfl (lv_at hl 2 rfl) ?_
  refine k_iald X hk (wg_10 G _) hw.1 dX1_takeShelter_23 ?_
  replace hw := hw.2
  refine va_mmin hx hb (X.1.2.2.1.trans hl.1.symm) X.1.2.2.2.1 (X.1.2.2.2.2 _ (List.mem_cons_of_mem _ (aw_r42 _ (List.mem_of_getElem? (i := 10) rfl)))) (X.1.2.2.2.2 _ (List.mem_cons_of_mem _ (aw_r30 _ (List.mem_of_getElem? (i := 16) rfl)))) (X.1.2.2.2.2 _ (List.mem_cons_of_mem _ (aw_r30 _ (List.mem_of_getElem? (i := 9) rfl)))) (X.1.2.2.2.2 _ (List.mem_cons_of_mem _ (aw_r30 _ (List.mem_of_getElem? (i := 17) rfl)))) (Nat.le_of_ble_eq_true rfl) (Nat.le_of_ble_eq_true rfl) (Nat.zero_le _) (Nat.zero_le _) dX1_takeShelter_24 ?_
  refine lv_topi (fun x4_4 ex4_4 => ?_)
  replace hw := hw x4_4 ex4_4
  refine lv_istore (lv' := [(4, .int x4_4), (3, .int x3_3), (0, .ref (G.1 2)), (1, .int p1), (2, .int p2)]) hx hb dX1_takeShelter_27 hl (Nat.le_of_ble_eq_true rfl) rfl (fun ls hl => ?_)
  refine lv_iload_n hx hb dX1_takeShelter_29 rfl (lv_at hl 1 rfl) ?_
  refine lv_iload hx hb dX1_takeShelter_30 (lv_at hl 0 rfl) ?_
  refine lv_isub hx hb dX1_takeShelter_32 ?_
  refine lv_aload_n hx hb dX1_takeShelter_33 rfl (lv_at hl 2 rfl) ?_
  refine lv_iload_n hx hb dX1_takeShelter_34 rfl (lv_at hl 3 rfl) ?_
  refine lv_iload_n hx hb dX1_takeShelter_35 rfl (lv_at hl 4 rfl) ?_
  refine k_callVi (rest := [.int (x3_3 - x4_4)]) X hk (c_X1_leavers l G _ _ _ _ hw) (cwV 2 X.1.2.2.2.2 (gzV (aw_r42 _ (List.mem_of_getElem? (i := 11) rfl)) (aw_r42 _ (List.mem_of_getElem? (i := 12) rfl)) (aw_r42 _ (List.mem_of_getElem? (i := 13) rfl)) (aw_r1 _ (List.mem_of_getElem? (i := 19) rfl)) (aw_r42 _ (List.mem_of_getElem? (i := 14) rfl))) rfl rfl rfl hd_X1_leavers ⟨(Nat.le_of_ble_eq_true rfl), (Nat.le_of_ble_eq_true rfl)⟩) (wg_2 G _) rfl rfl hl.1 rfl (Nat.le_of_ble_eq_true rfl) dX1_takeShelter_36 ⟨Nat.zero_le _, Nat.zero_le _⟩ (fun r6 σ5 H locs hw hk => ?_)
  refine va_mmin hx hb (X.1.2.2.1.trans hl.1.symm) X.1.2.2.2.1 (X.1.2.2.2.2 _ (List.mem_cons_of_mem _ (aw_r42 _ (List.mem_of_getElem? (i := 10) rfl)))) (X.1.2.2.2.2 _ (List.mem_cons_of_mem _ (aw_r30 _ (List.mem_of_getElem? (i := 16) rfl)))) (X.1.2.2.2.2 _ (List.mem_cons_of_mem _ (aw_r30 _ (List.mem_of_getElem? (i := 9) rfl)))) (X.1.2.2.2.2 _ (List.mem_cons_of_mem _ (aw_r30 _ (List.mem_of_getElem? (i := 17) rfl)))) (Nat.le_of_ble_eq_true rfl) (Nat.le_of_ble_eq_true rfl) (Nat.zero_le _) (Nat.zero_le _) dX1_takeShelter_39 ?_
  refine lv_topi (fun x5_7 ex5_7 => ?_)
  replace hw := hw x5_7 ex5_7
  refine lv_istore (lv' := [(5, .int x5_7), (4, .int x4_4), (3, .int x3_3), (0, .ref (G.1 2)), (1, .int p1), (2, .int p2)]) hx hb dX1_takeShelter_42 hl (Nat.le_of_ble_eq_true rfl) rfl (fun ls hl => ?_)
  refine lv_aload_n hx hb dX1_takeShelter_44 rfl (lv_at hl 3 rfl) ?_
  refine k_get 5 X hk (wg_2 G _) rfl (hz_wsX10 _) (Nat.le_of_ble_eq_true rfl) (List.mem_cons_of_mem _ (aw_r2 _ (List.mem_of_getElem? (i := 21) rfl))) rfl dX1_takeShelter_45 ?_
  refine lv_iload_n hx hb dX1_takeShelter_48 rfl (lv_at hl 4 rfl) ?_
  refine lv_dup2_11 hx hb dX1_takeShelter_49 rfl rfl ?_
  refine k_iald X hk (wg_10 G _) hw.1 dX1_takeShelter_50 ?_
  replace hw := hw.2
  refine lv_iload hx hb dX1_takeShelter_51 (lv_at hl 1 rfl) ?_
  refine lv_isub hx hb dX1_takeShelter_53 ?_
  refine k_iast X hk (wg_10 G _) (ws_10 G _) rfl hw.1 dX1_takeShelter_54 (fun H locs hk => ?_)
  replace hw := hw.2
  obtain ⟨σ8, eσ8⟩ : ∃ y : Sg, y = (put σ5 10 (p1).toNatClampNeg ((σ5 10 (p1).toNatClampNeg) - x4_4)) := ⟨_, rfl⟩
  rw [← eσ8] at hk
  replace hw := hw σ8 eσ8
  refine lv_aload_n hx hb dX1_takeShelter_55 rfl (lv_at hl 3 rfl) ?_
  refine k_get 6 X hk (wg_2 G _) rfl (hz_wsX10 _) (Nat.le_of_ble_eq_true rfl) (List.mem_cons_of_mem _ (aw_r2 _ (List.mem_of_getElem? (i := 22) rfl))) rfl dX1_takeShelter_56 ?_
  refine lv_iload_n hx hb dX1_takeShelter_59 rfl (lv_at hl 4 rfl) ?_
  refine lv_dup2_11 hx hb dX1_takeShelter_60 rfl rfl ?_
  refine k_iald X hk (wg_11 G _) hw.1 dX1_takeShelter_61 ?_
  replace hw := hw.2
  refine lv_iload hx hb dX1_takeShelter_62 (lv_at hl 0 rfl) ?_
  refine lv_isub hx hb dX1_takeShelter_64 ?_
  refine k_iast X hk (wg_11 G _) (ws_11 G _) rfl hw.1 dX1_takeShelter_65 (fun H locs hk => ?_)
  replace hw := hw.2
  obtain ⟨σ9, eσ9⟩ : ∃ y : Sg, y = (put σ8 11 (p1).toNatClampNeg ((σ8 11 (p1).toNatClampNeg) - x5_7)) := ⟨_, rfl⟩
  rw [← eσ9] at hk
  replace hw := hw σ9 eσ9
  refine lv_aload_n hx hb dX1_takeShelter_66 rfl (lv_at hl 3 rfl) ?_
  refine k_get 7 X hk (wg_2 G _) rfl (hz_wsX10 _) (Nat.le_of_ble_eq_true rfl) (List.mem_cons_of_mem _ (aw_r2 _ (List.mem_of_getElem? (i := 23) rfl))) rfl dX1_takeShelter_67 ?_
  refine lv_iload_n hx hb dX1_takeShelter_70 rfl (lv_at hl 4 rfl) ?_
  refine lv_dup2_11 hx hb dX1_takeShelter_71 rfl rfl ?_
  refine k_iald X hk (wg_12 G _) hw.1 dX1_takeShelter_72 ?_
  replace hw := hw.2
  refine lv_iload hx hb dX1_takeShelter_73 (lv_at hl 1 rfl) ?_
  refine lv_iload hx hb dX1_takeShelter_75 (lv_at hl 0 rfl) ?_
  refine lv_iadd hx hb dX1_takeShelter_77 ?_
  refine lv_iadd hx hb dX1_takeShelter_78 ?_
  refine k_iast X hk (wg_12 G _) (ws_12 G _) rfl hw.1 dX1_takeShelter_79 (fun H locs hk => ?_)
  replace hw := hw.2
  obtain ⟨σ10, eσ10⟩ : ∃ y : Sg, y = (put σ9 12 (p1).toNatClampNeg ((σ9 12 (p1).toNatClampNeg) + (x4_4 + x5_7))) := ⟨_, rfl⟩
  rw [← eσ10] at hk
  replace hw := hw σ10 eσ10
  refine lv_iload hx hb dX1_takeShelter_80 (lv_at hl 1 rfl) ?_
  refine lv_iload hx hb dX1_takeShelter_82 (lv_at hl 0 rfl) ?_
  refine lv_iadd hx hb dX1_takeShelter_84 ?_
  refine lv_if_le (tgt := 93) hx hb dX1_takeShelter_85 (by decide) (fun c11 => ?_) (fun c11 => ?_)
  · replace hw := hw.1 c11
    exact k_vret X hk hw dX1_takeShelter_93
  · replace hw := hw.2 c11
    refine lv_aload_n hx hb dX1_takeShelter_88 rfl (lv_at hl 3 rfl) ?_
    refine lv_iload_n hx hb dX1_takeShelter_89 rfl (lv_at hl 5 rfl) ?_
    refine k_put 3 X hk (wg_2 G _) rfl (hz_wsX10 _) tyX1_ok nmX1 (Nat.le_of_ble_eq_true rfl) (List.mem_cons_of_mem _ (aw_r41 _ (List.mem_of_getElem? (i := 22) rfl))) rfl rfl (Nat.le_of_ble_eq_true rfl) (ws_2_3 G _ _) dX1_takeShelter_90 (fun H locs hk => ?_)
    obtain ⟨σ12, eσ12⟩ : ∃ y : Sg, y = (put σ10 2 3 p2) := ⟨_, rfl⟩
    rw [← eσ12] at hk
    replace hw := hw σ12 eσ12
    exact k_vret X hk hw dX1_takeShelter_93
def rm_X1_play : Room := { frames := 4, cells := 0, slots := 0, locals := 93 }
abbrev wz_X1_play : List Cond := Cond.code yX1_play cX1_play 4 none :: wsA
theorem hd_X1_play : yX1_play.cls = RX1 ∧ yX1_play.cls ≠ "java/lang/invoke/MethodHandle" ∧ yX1_play.cls ≠ "java/lang/invoke/VarHandle" ∧ (parseMethodDescriptor yX1_play.desc).map (fun d => d.parameters.length) = some 1 := by decide +kernel
def wp_X1_play_71 (Q : Sg → Prop) (K6 : Int32 → Int32 → Sg → Prop) (x1 x2 : Int32) (σ : Sg) : Prop := ∀ x2_9 : Int32, x2_9 = (x2 + (1 : Int32)) → (K6 x1 x2_9 σ)
set_option maxHeartbeats 4000000 in
set_option maxRecDepth 100000 in
theorem t_X1_play_71 {p : Program} {l : Launch} {e : Env} {s : State} {m : MethodId} {args : Array Value} {below : List Frame} {meth : Method} {c : Code} {G : Gw} (X : KC p m meth c cX1_play 4 s args wz_X1_play RX1 none G) (Q : Sg → Prop) (K6 : Int32 → Int32 → Sg → Prop) (hK6 : ∀ (σ : Sg) (x1 x2 : Int32) (H : Heap) (locs : List Loc) (ls : Array Slot), K6 x1 x2 σ → WK G s H locs σ → lv_has ls 4 [(0, .ref (G.1 2)), (1, .int x1), (2, .int x2)] → W p l e rm_X1_play s m args below meth c H locs 0 0 (ZV below args s G Q) (F0 m 6 ls [])) : ∀ (σ : Sg) (x1 x2 : Int32) (H : Heap) (locs : List Loc) (ls : Array Slot), wp_X1_play_71 Q K6 x1 x2 σ → WK G s H locs σ → lv_has ls 4 [(0, .ref (G.1 2)), (1, .int x1), (2, .int x2)] → W p l e rm_X1_play s m args below meth c H locs 0 0 (ZV below args s G Q) (F0 m 71 ls []) := by
  have hx := X.1.1
  have hb := X.1.2.1
  intro σ x1 x2 H locs ls hw hk hl
  unfold wp_X1_play_71 at hw
  obtain ⟨x2_9, ex2_9⟩ : ∃ y : Int32, y = (x2 + (1 : Int32)) := ⟨_, rfl⟩
  replace hw := hw x2_9 ex2_9
  refine lv_iinc (v := x2_9) (lv' := [(2, .int x2_9), (0, .ref (G.1 2)), (1, .int x1)]) hx hb dX1_play_71 hl (k := 2) rfl (by rw [ex2_9]; rfl) (Nat.le_of_ble_eq_true rfl) rfl (fun ls hl => ?_)
  refine lv_goto (tgt := 6) hx hb dX1_play_74 (by decide) ?_
  exact hK6 _ _ _ _ _ _ hw hk (lv_sub hl [1, 2, 0] rfl)
def wp_X1_play_20 (Q : Sg → Prop) (K6 : Int32 → Int32 → Sg → Prop) : Nat → Int32 → Int32 → Int32 → Sg → Prop
  | 0, _, _, _, _ => False
  | n + 1, x1, x2, x3, σ => ((σ 1 0) ≤ x3 → (wp_X1_makeMoves σ x2 (fun σ6 => ((σ6 2 1) = 0 → (∀ σ10 : Sg, σ10 = (put σ6 2 2 x2) → (wp_X1_noteCrowds σ10 x2 (fun σ11 => wp_X1_play_71 Q K6 x1 x2 σ11)))) ∧ (¬ ((σ6 2 1) = 0) → (wp_X1_play_71 Q K6 x1 x2 σ6))))) ∧ (¬ ((σ 1 0) ≤ x3) → (wp_X1_arrive σ x3 x2 (fun σ13 => wp_X1_takeShelter σ13 x3 x2 (fun σ15 => ∀ x3_17 : Int32, x3_17 = (x3 + (1 : Int32)) → (wp_X1_play_20 Q K6 n x1 x2 x3_17 σ15)))))
set_option maxHeartbeats 4000000 in
set_option maxRecDepth 100000 in
theorem t_X1_play_20 {p : Program} {l : Launch} {e : Env} {s : State} {m : MethodId} {args : Array Value} {below : List Frame} {meth : Method} {c : Code} {G : Gw} (X : KC p m meth c cX1_play 4 s args wz_X1_play RX1 none G) (Q : Sg → Prop) (K6 : Int32 → Int32 → Sg → Prop) (hK6 : ∀ (σ : Sg) (x1 x2 : Int32) (H : Heap) (locs : List Loc) (ls : Array Slot), K6 x1 x2 σ → WK G s H locs σ → lv_has ls 4 [(0, .ref (G.1 2)), (1, .int x1), (2, .int x2)] → W p l e rm_X1_play s m args below meth c H locs 0 0 (ZV below args s G Q) (F0 m 6 ls [])) : ∀ (n : Nat) (σ : Sg) (x1 x2 x3 : Int32) (H : Heap) (locs : List Loc) (ls : Array Slot), wp_X1_play_20 Q K6 n x1 x2 x3 σ → WK G s H locs σ → lv_has ls 4 [(0, .ref (G.1 2)), (1, .int x1), (2, .int x2), (3, .int x3)] → W p l e rm_X1_play s m args below meth c H locs 0 0 (ZV below args s G Q) (F0 m 20 ls []) := by
  have hx := X.1.1
  have hb := X.1.2.1
  intro n
  induction n with
  | zero =>
    intro σ x1 x2 x3 H locs ls hw hk hl
    exact False.elim hw
  | succ n ih =>
    intro σ x1 x2 x3 H locs ls hw hk hl
    rw [wp_X1_play_20] at hw
    refine lv_iload_n hx hb dX1_play_20 rfl (lv_at hl 3 rfl) ?_
    refine lv_aload_n hx hb dX1_play_21 rfl (lv_at hl 0 rfl) ?_
    refine k_get 8 X hk (wg_2 G _) rfl (hz_wsX10 _) (Nat.le_of_ble_eq_true rfl) (List.mem_cons_of_mem _ (aw_r3 _ (List.mem_of_getElem? (i := 3) rfl))) rfl dX1_play_22 ?_
    refine k_get 0 X hk (wg_1 G _) rfl (hz_wsX30 _) (Nat.le_of_ble_eq_true rfl) (List.mem_cons_of_mem _ (aw_r41 _ (List.mem_of_getElem? (i := 16) rfl))) rfl dX1_play_25 ?_
    refine lv_icmp_ge (tgt := 49) hx hb dX1_play_28 (by decide) (fun c5 => ?_) (fun c5 => ?_)
    · replace hw := hw.1 c5
      refine lv_aload_n hx hb dX1_play_49 rfl (lv_at hl 0 rfl) ?_
      refine lv_iload_n hx hb dX1_play_50 rfl (lv_at hl 2 rfl) ?_
      refine k_callVv (rest := []) X hk (c_X1_makeMoves l G _ _ _ hw) (cwV 1 X.1.2.2.2.2 (gzV (aw_r42 _ (List.mem_of_getElem? (i := 15) rfl)) (aw_r42 _ (List.mem_of_getElem? (i := 16) rfl)) (aw_r42 _ (List.mem_of_getElem? (i := 17) rfl)) (aw_r1 _ (List.mem_of_getElem? (i := 19) rfl)) (aw_r42 _ (List.mem_of_getElem? (i := 18) rfl))) rfl rfl rfl hd_X1_makeMoves ⟨(Nat.le_of_ble_eq_true rfl), (Nat.le_of_ble_eq_true rfl)⟩) (wg_2 G _) rfl rfl hl.1 rfl (Nat.le_of_ble_eq_true rfl) dX1_play_51 ⟨Nat.zero_le _, Nat.zero_le _⟩ (fun σ6 H locs hw hk => ?_)
      refine lv_aload_n hx hb dX1_play_54 rfl (lv_at hl 0 rfl) ?_
      refine k_get 1 X hk (wg_2 G _) rfl (hz_wsX10 _) (Nat.le_of_ble_eq_true rfl) (List.mem_cons_of_mem _ (aw_r41 _ (List.mem_of_getElem? (i := 9) rfl))) rfl dX1_play_55 ?_
      refine lv_if_ne (tgt := 71) hx hb dX1_play_58 (by decide) (fun c8 => ?_) (fun c8 => ?_)
      · replace hw := hw.2 c8
        exact t_X1_play_71 X Q _ hK6 _ _ _ _ _ _ hw hk (lv_sub hl [0, 1, 2] rfl)
      · replace hw := hw.1 c8
        refine lv_aload_n hx hb dX1_play_61 rfl (lv_at hl 0 rfl) ?_
        refine lv_iload_n hx hb dX1_play_62 rfl (lv_at hl 2 rfl) ?_
        refine k_put 2 X hk (wg_2 G _) rfl (hz_wsX10 _) tyX1_ok nmX1 (Nat.le_of_ble_eq_true rfl) (List.mem_cons_of_mem _ (aw_r41 _ (List.mem_of_getElem? (i := 17) rfl))) rfl rfl (Nat.le_of_ble_eq_true rfl) (ws_2_2 G _ _) dX1_play_63 (fun H locs hk => ?_)
        obtain ⟨σ10, eσ10⟩ : ∃ y : Sg, y = (put σ6 2 2 x2) := ⟨_, rfl⟩
        rw [← eσ10] at hk
        replace hw := hw σ10 eσ10
        refine lv_aload_n hx hb dX1_play_66 rfl (lv_at hl 0 rfl) ?_
        refine lv_iload_n hx hb dX1_play_67 rfl (lv_at hl 2 rfl) ?_
        refine k_callVv (rest := []) X hk (c_X1_noteCrowds l G _ _ _ hw) (cwV 1 X.1.2.2.2.2 (gzV (aw_r43 _ (List.mem_of_getElem? (i := 2) rfl)) (aw_r43 _ (List.mem_of_getElem? (i := 3) rfl)) (aw_r43 _ (List.mem_of_getElem? (i := 4) rfl)) (aw_r1 _ (List.mem_of_getElem? (i := 19) rfl)) (aw_r43 _ (List.mem_of_getElem? (i := 5) rfl))) rfl rfl rfl hd_X1_noteCrowds ⟨(Nat.le_of_ble_eq_true rfl), (Nat.le_of_ble_eq_true rfl)⟩) (wg_2 G _) rfl rfl hl.1 rfl (Nat.le_of_ble_eq_true rfl) dX1_play_68 ⟨Nat.zero_le _, Nat.zero_le _⟩ (fun σ11 H locs hw hk => ?_)
        exact t_X1_play_71 X Q _ hK6 _ _ _ _ _ _ hw hk (lv_sub hl [0, 1, 2] rfl)
    · replace hw := hw.2 c5
      refine lv_aload_n hx hb dX1_play_31 rfl (lv_at hl 0 rfl) ?_
      refine lv_iload_n hx hb dX1_play_32 rfl (lv_at hl 3 rfl) ?_
      refine lv_iload_n hx hb dX1_play_33 rfl (lv_at hl 2 rfl) ?_
      refine k_callVv (rest := []) X hk (c_X1_arrive l G _ _ _ _ hw) (cwV 2 X.1.2.2.2.2 (gzV (aw_r42 _ (List.mem_of_getElem? (i := 2) rfl)) (aw_r42 _ (List.mem_of_getElem? (i := 3) rfl)) (aw_r42 _ (List.mem_of_getElem? (i := 4) rfl)) (aw_r1 _ (List.mem_of_getElem? (i := 19) rfl)) (aw_r42 _ (List.mem_of_getElem? (i := 5) rfl))) rfl rfl rfl hd_X1_arrive ⟨(Nat.le_of_ble_eq_true rfl), (Nat.le_of_ble_eq_true rfl)⟩) (wg_2 G _) rfl rfl hl.1 rfl (Nat.le_of_ble_eq_true rfl) dX1_play_34 ⟨Nat.zero_le _, Nat.zero_le _⟩ (fun σ13 H locs hw hk => ?_)
      refine lv_aload_n hx hb dX1_play_37 rfl (lv_at hl 0 rfl) ?_
      refine lv_iload_n hx hb dX1_play_38 rfl (lv_at hl 3 rfl) ?_
      refine lv_iload_n hx hb dX1_play_39 rfl (lv_at hl 2 rfl) ?_
      refine k_callVv (rest := []) X hk (c_X1_takeShelter l G _ _ _ _ hw) (cwV 2 X.1.2.2.2.2 (gzV (aw_r42 _ (List.mem_of_getElem? (i := 6) rfl)) (aw_r42 _ (List.mem_of_getElem? (i := 7) rfl)) (aw_r42 _ (List.mem_of_getElem? (i := 8) rfl)) (aw_r1 _ (List.mem_of_getElem? (i := 19) rfl)) (aw_r42 _ (List.mem_of_getElem? (i := 9) rfl))) rfl rfl rfl hd_X1_takeShelter ⟨(Nat.le_of_ble_eq_true rfl), (Nat.le_of_ble_eq_true rfl)⟩) (wg_2 G _) rfl rfl hl.1 rfl (Nat.le_of_ble_eq_true rfl) dX1_play_40 ⟨Nat.zero_le _, Nat.zero_le _⟩ (fun σ15 H locs hw hk => ?_)
      obtain ⟨x3_17, ex3_17⟩ : ∃ y : Int32, y = (x3 + (1 : Int32)) := ⟨_, rfl⟩
      replace hw := hw x3_17 ex3_17
      refine lv_iinc (v := x3_17) (lv' := [(3, .int x3_17), (0, .ref (G.1 2)), (1, .int x1), (2, .int x2)]) hx hb dX1_play_43 hl (k := 3) rfl (by rw [ex3_17]; rfl) (Nat.le_of_ble_eq_true rfl) rfl (fun ls hl => ?_)
      refine lv_goto (tgt := 20) hx hb dX1_play_46 (by decide) ?_
      exact ih _ _ _ _ _ _ _ hw hk (lv_sub hl [1, 2, 3, 0] rfl)
def wp_X1_play_6 (Q : Sg → Prop)  : Nat → Int32 → Int32 → Sg → Prop
  | 0, _, _, _ => False
  | n + 1, x1, x2, σ => (x1 < x2 → (Q σ)) ∧ (¬ (x1 < x2) → (((σ 2 1) = 0 → (∃ n0, wp_X1_play_20 Q (fun z1 z2 σ => wp_X1_play_6 Q  n z1 z2 σ) n0 x1 x2 (0 : Int32) σ)) ∧ (¬ ((σ 2 1) = 0) → (Q σ))))
set_option maxHeartbeats 4000000 in
set_option maxRecDepth 100000 in
theorem t_X1_play_6 {p : Program} {l : Launch} {e : Env} {s : State} {m : MethodId} {args : Array Value} {below : List Frame} {meth : Method} {c : Code} {G : Gw} (X : KC p m meth c cX1_play 4 s args wz_X1_play RX1 none G) (Q : Sg → Prop)  : ∀ (n : Nat) (σ : Sg) (x1 x2 : Int32) (H : Heap) (locs : List Loc) (ls : Array Slot), wp_X1_play_6 Q  n x1 x2 σ → WK G s H locs σ → lv_has ls 4 [(0, .ref (G.1 2)), (1, .int x1), (2, .int x2)] → W p l e rm_X1_play s m args below meth c H locs 0 0 (ZV below args s G Q) (F0 m 6 ls []) := by
  have hx := X.1.1
  have hb := X.1.2.1
  intro n
  induction n with
  | zero =>
    intro σ x1 x2 H locs ls hw hk hl
    exact False.elim hw
  | succ n ih =>
    intro σ x1 x2 H locs ls hw hk hl
    rw [wp_X1_play_6] at hw
    refine lv_iload_n hx hb dX1_play_6 rfl (lv_at hl 2 rfl) ?_
    refine lv_iload_n hx hb dX1_play_7 rfl (lv_at hl 1 rfl) ?_
    refine lv_icmp_gt (tgt := 77) hx hb dX1_play_8 (by decide) (fun c3 => ?_) (fun c3 => ?_)
    · replace hw := hw.1 c3
      exact k_vret X hk hw dX1_play_77
    · replace hw := hw.2 c3
      refine lv_aload_n hx hb dX1_play_11 rfl (lv_at hl 0 rfl) ?_
      refine k_get 1 X hk (wg_2 G _) rfl (hz_wsX10 _) (Nat.le_of_ble_eq_true rfl) (List.mem_cons_of_mem _ (aw_r41 _ (List.mem_of_getElem? (i := 9) rfl))) rfl dX1_play_12 ?_
      refine lv_if_ne (tgt := 77) hx hb dX1_play_15 (by decide) (fun c4 => ?_) (fun c4 => ?_)
      · replace hw := hw.2 c4
        exact k_vret X hk hw dX1_play_77
      · replace hw := hw.1 c4
        refine lv_iconst (v := (0 : Int32)) hx hb dX1_play_18 (by decide) ?_
        refine lv_istore_n (lv' := [(3, .int (0 : Int32)), (0, .ref (G.1 2)), (1, .int x1), (2, .int x2)]) hx hb dX1_play_19 rfl hl (Nat.le_of_ble_eq_true rfl) rfl (fun ls hl => ?_)
        obtain ⟨n0, hw⟩ := hw
        exact t_X1_play_20 X Q _ ih n0 _ _ _ _ _ _ _ hw hk (lv_sub hl [1, 2, 3, 0] rfl)
def wp_X1_play (σ : Sg) (p1 : Int32) (Q : Sg → Prop) : Prop := wp_X1_bringHome σ  (fun σ1 => ∃ n0, wp_X1_play_6 Q  n0 p1 (0 : Int32) σ1)
set_option maxHeartbeats 4000000 in
set_option maxRecDepth 100000 in
theorem c_X1_play (l : Launch) (G : Gw) (σ : Sg) (p1 : Int32) (Q : Sg → Prop) (hw : wp_X1_play σ p1 Q) : MetV l yX1_play wz_X1_play rm_X1_play G σ [.ref (G.1 2), .int p1] Q := by
  refine MetV.of cX1_play 4 none (by decide) rfl (Nat.le_of_ble_eq_true rfl) ?_
  intro p e s m below meth c X hk ls hl
  have X : KC p m meth c cX1_play 4 s _ wz_X1_play RX1 none G := X
  have hl : lv_has ls 4 [(0, .ref (G.1 2)), (1, .int p1)] := hl
  unfold wp_X1_play at hw
  have hx := X.1.1
  have hb := X.1.2.1
  refine lv_aload_n hx hb dX1_play_0 rfl (lv_at hl 0 rfl) ?_
  refine k_callVv (rest := []) X hk (c_X1_bringHome l G _  _ hw) (cwV 0 X.1.2.2.2.2 (gzV (aw_r41 _ (List.mem_of_getElem? (i := 18) rfl)) (aw_r41 _ (List.mem_of_getElem? (i := 19) rfl)) (aw_r41 _ (List.mem_of_getElem? (i := 20) rfl)) (aw_r1 _ (List.mem_of_getElem? (i := 19) rfl)) (aw_r41 _ (List.mem_of_getElem? (i := 21) rfl))) rfl rfl rfl hd_X1_bringHome ⟨(Nat.le_of_ble_eq_true rfl), (Nat.le_of_ble_eq_true rfl)⟩) (wg_2 G _) rfl rfl hl.1 rfl (Nat.le_of_ble_eq_true rfl) dX1_play_1 ⟨Nat.zero_le _, Nat.zero_le _⟩ (fun σ1 H locs hw hk => ?_)
  refine lv_iconst (v := (0 : Int32)) hx hb dX1_play_4 (by decide) ?_
  refine lv_istore_n (lv' := [(2, .int (0 : Int32)), (0, .ref (G.1 2)), (1, .int p1)]) hx hb dX1_play_5 rfl hl (Nat.le_of_ble_eq_true rfl) rfl (fun ls hl => ?_)
  obtain ⟨n0, hw⟩ := hw
  exact t_X1_play_6 X Q   n0 _ _ _ _ _ _ hw hk (lv_sub hl [1, 2, 0] rfl)
def rm_X1_judge : Room := { frames := 5, cells := 0, slots := 0, locals := 116 }
abbrev wz_X1_judge : List Cond := Cond.code yX1_judge cX1_judge 2 none :: wsA
theorem hd_X1_judge : yX1_judge.cls = RX1 ∧ yX1_judge.cls ≠ "java/lang/invoke/MethodHandle" ∧ yX1_judge.cls ≠ "java/lang/invoke/VarHandle" ∧ (parseMethodDescriptor yX1_judge.desc).map (fun d => d.parameters.length) = some 0 := by decide +kernel
def wp_X1_judge (σ : Sg) (Q : Sg → Prop) : Prop := wp_X1_play σ (50 : Int32) (fun σ1 => ((σ1 2 1) = 0 → (((σ1 2 12) = (-1 : Int32) → (Q σ1)) ∧ (¬ ((σ1 2 12) = (-1 : Int32)) → (∀ x1_5 : Int32, x1_5 = ((3 : Int32) + ((8 : Int32) * (σ1 2 12))) → (wp_X1_play σ1 (σ1 2 13) (fun σ6 => ∀ σ8 : Sg, σ8 = (put σ6 2 1 x1_5) → (Q σ8))))))) ∧ (¬ ((σ1 2 1) = 0) → (Q σ1)))
set_option maxHeartbeats 4000000 in
set_option maxRecDepth 100000 in
theorem c_X1_judge (l : Launch) (G : Gw) (σ : Sg) (Q : Sg → Prop) (hw : wp_X1_judge σ  Q) : MetV l yX1_judge wz_X1_judge rm_X1_judge G σ [.ref (G.1 2)] Q := by
  refine MetV.of cX1_judge 2 none (by decide) rfl (Nat.le_of_ble_eq_true rfl) ?_
  intro p e s m below meth c X hk ls hl
  have X : KC p m meth c cX1_judge 2 s _ wz_X1_judge RX1 none G := X
  have hl : lv_has ls 2 [(0, .ref (G.1 2))] := hl
  unfold wp_X1_judge at hw
  have hx := X.1.1
  have hb := X.1.2.1
  refine lv_aload_n hx hb dX1_judge_0 rfl (lv_at hl 0 rfl) ?_
  refine lv_bipush (v := (50 : Int32)) hx hb dX1_judge_1 (by decide) ?_
  refine k_callVv (rest := []) X hk (c_X1_play l G _ _ _ hw) (cwV 1 X.1.2.2.2.2 (gzV (aw_r41 _ (List.mem_of_getElem? (i := 12) rfl)) (aw_r41 _ (List.mem_of_getElem? (i := 13) rfl)) (aw_r41 _ (List.mem_of_getElem? (i := 14) rfl)) (aw_r1 _ (List.mem_of_getElem? (i := 19) rfl)) (aw_r41 _ (List.mem_of_getElem? (i := 15) rfl))) rfl rfl rfl hd_X1_play ⟨(Nat.le_of_ble_eq_true rfl), (Nat.le_of_ble_eq_true rfl)⟩) (wg_2 G _) rfl rfl hl.1 rfl (Nat.le_of_ble_eq_true rfl) dX1_judge_3 ⟨Nat.zero_le _, Nat.zero_le _⟩ (fun σ1 H locs hw hk => ?_)
  refine lv_aload_n hx hb dX1_judge_6 rfl (lv_at hl 0 rfl) ?_
  refine k_get 1 X hk (wg_2 G _) rfl (hz_wsX10 _) (Nat.le_of_ble_eq_true rfl) (List.mem_cons_of_mem _ (aw_r41 _ (List.mem_of_getElem? (i := 9) rfl))) rfl dX1_judge_7 ?_
  refine lv_if_ne (tgt := 44) hx hb dX1_judge_10 (by decide) (fun c3 => ?_) (fun c3 => ?_)
  · replace hw := hw.2 c3
    exact k_vret X hk hw dX1_judge_44
  · replace hw := hw.1 c3
    refine lv_aload_n hx hb dX1_judge_13 rfl (lv_at hl 0 rfl) ?_
    refine k_get 12 X hk (wg_2 G _) rfl (hz_wsX10 _) (Nat.le_of_ble_eq_true rfl) (List.mem_cons_of_mem _ (aw_r41 _ (List.mem_of_getElem? (i := 10) rfl))) rfl dX1_judge_14 ?_
    refine lv_iconst (v := (-1 : Int32)) hx hb dX1_judge_17 (by decide) ?_
    refine lv_icmp_eq (tgt := 44) hx hb dX1_judge_18 (by decide) (fun c4 => ?_) (fun c4 => ?_)
    · replace hw := hw.1 c4
      exact k_vret X hk hw dX1_judge_44
    · replace hw := hw.2 c4
      refine lv_iconst (v := (3 : Int32)) hx hb dX1_judge_21 (by decide) ?_
      refine lv_bipush (v := (8 : Int32)) hx hb dX1_judge_22 (by decide) ?_
      refine lv_aload_n hx hb dX1_judge_24 rfl (lv_at hl 0 rfl) ?_
      refine k_get 12 X hk (wg_2 G _) rfl (hz_wsX10 _) (Nat.le_of_ble_eq_true rfl) (List.mem_cons_of_mem _ (aw_r41 _ (List.mem_of_getElem? (i := 10) rfl))) rfl dX1_judge_25 ?_
      refine lv_imul hx hb dX1_judge_28 ?_
      refine lv_iadd hx hb dX1_judge_29 ?_
      refine lv_topi (fun x1_5 ex1_5 => ?_)
      replace hw := hw x1_5 ex1_5
      refine lv_istore_n (lv' := [(1, .int x1_5), (0, .ref (G.1 2))]) hx hb dX1_judge_30 rfl hl (Nat.le_of_ble_eq_true rfl) rfl (fun ls hl => ?_)
      refine lv_aload_n hx hb dX1_judge_31 rfl (lv_at hl 1 rfl) ?_
      refine lv_aload_n hx hb dX1_judge_32 rfl (lv_at hl 1 rfl) ?_
      refine k_get 13 X hk (wg_2 G _) rfl (hz_wsX10 _) (Nat.le_of_ble_eq_true rfl) (List.mem_cons_of_mem _ (aw_r41 _ (List.mem_of_getElem? (i := 11) rfl))) rfl dX1_judge_33 ?_
      refine k_callVv (rest := []) X hk (c_X1_play l G _ _ _ hw) (cwV 1 X.1.2.2.2.2 (gzV (aw_r41 _ (List.mem_of_getElem? (i := 12) rfl)) (aw_r41 _ (List.mem_of_getElem? (i := 13) rfl)) (aw_r41 _ (List.mem_of_getElem? (i := 14) rfl)) (aw_r1 _ (List.mem_of_getElem? (i := 19) rfl)) (aw_r41 _ (List.mem_of_getElem? (i := 15) rfl))) rfl rfl rfl hd_X1_play ⟨(Nat.le_of_ble_eq_true rfl), (Nat.le_of_ble_eq_true rfl)⟩) (wg_2 G _) rfl rfl hl.1 rfl (Nat.le_of_ble_eq_true rfl) dX1_judge_36 ⟨Nat.zero_le _, Nat.zero_le _⟩ (fun σ6 H locs hw hk => ?_)
      refine lv_aload_n hx hb dX1_judge_39 rfl (lv_at hl 1 rfl) ?_
      refine lv_iload_n hx hb dX1_judge_40 rfl (lv_at hl 0 rfl) ?_
      refine k_put 1 X hk (wg_2 G _) rfl (hz_wsX10 _) tyX1_ok nmX1 (Nat.le_of_ble_eq_true rfl) (List.mem_cons_of_mem _ (aw_r41 _ (List.mem_of_getElem? (i := 9) rfl))) rfl rfl (Nat.le_of_ble_eq_true rfl) (ws_2_1 G _ _) dX1_judge_41 (fun H locs hk => ?_)
      obtain ⟨σ8, eσ8⟩ : ∃ y : Sg, y = (put σ6 2 1 x1_5) := ⟨_, rfl⟩
      rw [← eσ8] at hk
      replace hw := hw σ8 eσ8
      exact k_vret X hk hw dX1_judge_44
