def rm_X2_hasSpace : Room := { frames := 0, cells := 0, slots := 0, locals := 0 }
abbrev wz_X2_hasSpace : List Cond := Cond.code yX2_hasSpace cX2_hasSpace 2 (some .boolean) :: wsA
theorem hd_X2_hasSpace : yX2_hasSpace.cls = RX2 ∧ yX2_hasSpace.cls ≠ "java/lang/invoke/MethodHandle" ∧ yX2_hasSpace.cls ≠ "java/lang/invoke/VarHandle" ∧ (parseMethodDescriptor yX2_hasSpace.desc).map (fun d => d.parameters.length) = some 1 := by decide +kernel
def wp_X2_hasSpace (σ : Sg) (p1 : Int32) (Q : Int32 → Sg → Prop) : Prop := ((400 : Int32) < ((σ 3 0) + p1) → (bz (0 : Int32) ∧ Q (0 : Int32) σ)) ∧ (¬ ((400 : Int32) < ((σ 3 0) + p1)) → (bz (1 : Int32) ∧ Q (1 : Int32) σ))
set_option maxHeartbeats 4000000 in
set_option maxRecDepth 100000 in
theorem c_X2_hasSpace (l : Launch) (G : Gw) (σ : Sg) (p1 : Int32) (Q : Int32 → Sg → Prop) (hw : wp_X2_hasSpace σ p1 Q) : MetI l yX2_hasSpace wz_X2_hasSpace rm_X2_hasSpace G σ [.ref (G.1 3), .int p1] Q := by
  refine MetI.of cX2_hasSpace 2 (some .boolean) (by decide) rfl (Nat.le_of_ble_eq_true rfl) ?_
  intro p e s m below meth c X hk ls hl
  have X : KC p m meth c cX2_hasSpace 2 s _ wz_X2_hasSpace RX2 (some .boolean) G := X
  have hl : lv_has ls 2 [(0, .ref (G.1 3)), (1, .int p1)] := hl
  unfold wp_X2_hasSpace at hw
  have hx := X.1.1
  have hb := X.1.2.1
  refine lv_aload_n hx hb dX2_hasSpace_0 rfl (lv_at hl 0 rfl) ?_
  refine k_get 0 X hk (wg_3 G _) rfl (hz_wsX20 _) (Nat.le_of_ble_eq_true rfl) (List.mem_cons_of_mem _ (aw_r5 _ (List.mem_of_getElem? (i := 18) rfl))) rfl dX2_hasSpace_1 ?_
  refine lv_iload_n hx hb dX2_hasSpace_4 rfl (lv_at hl 1 rfl) ?_
  refine lv_iadd hx hb dX2_hasSpace_5 ?_
  refine lv_sipush (v := (400 : Int32)) hx hb dX2_hasSpace_6 (by decide) ?_
  refine lv_icmp_gt (tgt := 16) hx hb dX2_hasSpace_9 (by decide) (fun c1 => ?_) (fun c1 => ?_)
  · replace hw := hw.1 c1
    refine lv_iconst (v := (0 : Int32)) hx hb dX2_hasSpace_16 (by decide) ?_
    exact k_zret X hk hw dX2_hasSpace_17
  · replace hw := hw.2 c1
    refine lv_iconst (v := (1 : Int32)) hx hb dX2_hasSpace_12 (by decide) ?_
    refine lv_goto (tgt := 17) hx hb dX2_hasSpace_13 (by decide) ?_
    exact k_zret X hk hw dX2_hasSpace_17
def rm_X2_append : Room := { frames := 0, cells := 0, slots := 0, locals := 0 }
abbrev wz_X2_append : List Cond := Cond.code yX2_append cX2_append 3 none :: wsA
theorem hd_X2_append : yX2_append.cls = RX2 ∧ yX2_append.cls ≠ "java/lang/invoke/MethodHandle" ∧ yX2_append.cls ≠ "java/lang/invoke/VarHandle" ∧ (parseMethodDescriptor yX2_append.desc).map (fun d => d.parameters.length) = some 1 := by decide +kernel
def wp_X2_append_3 (Q : Sg → Prop)  : Nat → Int32 → Int32 → Sg → Prop
  | 0, _, _, _ => False
  | n + 1, x1, x2, σ => (x2 < 0 → (Q σ)) ∧ (¬ (x2 < 0) → (vp_in (σ 3 0) 400 ∧ (∀ σ2 : Sg, σ2 = (put σ 16 ((σ 3 0)).toNatClampNeg (vp_nar .byte ((x1 >>> (x2 &&& 31)).toInt8.toInt32))) → (∀ σ3 : Sg, σ3 = (put σ2 3 0 ((σ2 3 0) + (1 : Int32))) → (∀ x2_4 : Int32, x2_4 = (x2 + (-8 : Int32)) → (wp_X2_append_3 Q  n x1 x2_4 σ3))))))
set_option maxHeartbeats 4000000 in
set_option maxRecDepth 100000 in
theorem t_X2_append_3 {p : Program} {l : Launch} {e : Env} {s : State} {m : MethodId} {args : Array Value} {below : List Frame} {meth : Method} {c : Code} {G : Gw} (X : KC p m meth c cX2_append 3 s args wz_X2_append RX2 none G) (Q : Sg → Prop)  : ∀ (n : Nat) (σ : Sg) (x1 x2 : Int32) (H : Heap) (locs : List Loc) (ls : Array Slot), wp_X2_append_3 Q  n x1 x2 σ → WK G s H locs σ → lv_has ls 3 [(0, .ref (G.1 3)), (1, .int x1), (2, .int x2)] → W p l e rm_X2_append s m args below meth c H locs 0 0 (ZV below args s G Q) (F0 m 3 ls []) := by
  have hx := X.1.1
  have hb := X.1.2.1
  intro n
  induction n with
  | zero =>
    intro σ x1 x2 H locs ls hw hk hl
    exact False.elim hw
  | succ n ih =>
    intro σ x1 x2 H locs ls hw hk hl
    rw [wp_X2_append_3] at hw
    refine lv_iload_n hx hb dX2_append_3 rfl (lv_at hl 2 rfl) ?_
    refine lv_if_lt (tgt := 36) hx hb dX2_append_4 (by decide) (fun c1 => ?_) (fun c1 => ?_)
    · replace hw := hw.1 c1
      exact k_vret X hk hw dX2_append_36
    · replace hw := hw.2 c1
      refine lv_aload_n hx hb dX2_append_7 rfl (lv_at hl 0 rfl) ?_
      refine k_get 4 X hk (wg_3 G _) rfl (hz_wsX20 _) (Nat.le_of_ble_eq_true rfl) (List.mem_cons_of_mem _ (aw_r3 _ (List.mem_of_getElem? (i := 9) rfl))) rfl dX2_append_8 ?_
      refine lv_aload_n hx hb dX2_append_11 rfl (lv_at hl 0 rfl) ?_
      refine k_get 0 X hk (wg_3 G _) rfl (hz_wsX20 _) (Nat.le_of_ble_eq_true rfl) (List.mem_cons_of_mem _ (aw_r5 _ (List.mem_of_getElem? (i := 18) rfl))) rfl dX2_append_12 ?_
      refine lv_iload_n hx hb dX2_append_15 rfl (lv_at hl 1 rfl) ?_
      refine lv_iload_n hx hb dX2_append_16 rfl (lv_at hl 2 rfl) ?_
      refine lv_ishr hx hb dX2_append_17 ?_
      refine lv_i2b hx hb dX2_append_18 rfl ?_
      refine k_bast X hk (wg_16 G _) (ws_16 G _) rfl hw.1 dX2_append_19 (fun H locs hk => ?_)
      replace hw := hw.2
      obtain ⟨σ2, eσ2⟩ : ∃ y : Sg, y = (put σ 16 ((σ 3 0)).toNatClampNeg (vp_nar .byte ((x1 >>> (x2 &&& 31)).toInt8.toInt32))) := ⟨_, rfl⟩
      rw [← eσ2] at hk
      replace hw := hw σ2 eσ2
      refine lv_aload_n hx hb dX2_append_20 rfl (lv_at hl 0 rfl) ?_
      refine lv_dup hx hb dX2_append_21 rfl ?_
      refine k_get 0 X hk (wg_3 G _) rfl (hz_wsX20 _) (Nat.le_of_ble_eq_true rfl) (List.mem_cons_of_mem _ (aw_r5 _ (List.mem_of_getElem? (i := 18) rfl))) rfl dX2_append_22 ?_
      refine lv_iconst (v := (1 : Int32)) hx hb dX2_append_25 (by decide) ?_
      refine lv_iadd hx hb dX2_append_26 ?_
      refine k_put 0 X hk (wg_3 G _) rfl (hz_wsX20 _) tyX2_ok nmX2 (Nat.le_of_ble_eq_true rfl) (List.mem_cons_of_mem _ (aw_r5 _ (List.mem_of_getElem? (i := 18) rfl))) rfl rfl (Nat.le_of_ble_eq_true rfl) (ws_3_0 G _ _) dX2_append_27 (fun H locs hk => ?_)
      obtain ⟨σ3, eσ3⟩ : ∃ y : Sg, y = (put σ2 3 0 ((σ2 3 0) + (1 : Int32))) := ⟨_, rfl⟩
      rw [← eσ3] at hk
      replace hw := hw σ3 eσ3
      obtain ⟨x2_4, ex2_4⟩ : ∃ y : Int32, y = (x2 + (-8 : Int32)) := ⟨_, rfl⟩
      replace hw := hw x2_4 ex2_4
      refine lv_iinc (v := x2_4) (lv' := [(2, .int x2_4), (0, .ref (G.1 3)), (1, .int x1)]) hx hb dX2_append_30 hl (k := 2) rfl (by rw [ex2_4]; rfl) (Nat.le_of_ble_eq_true rfl) rfl (fun ls hl => ?_)
      refine lv_goto (tgt := 3) hx hb dX2_append_33 (by decide) ?_
      exact ih _ _ _ _ _ _ hw hk (lv_sub hl [1, 2, 0] rfl)
def wp_X2_append (σ : Sg) (p1 : Int32) (Q : Sg → Prop) : Prop := ∃ n0, wp_X2_append_3 Q  n0 p1 (24 : Int32) σ
set_option maxHeartbeats 4000000 in
set_option maxRecDepth 100000 in
theorem c_X2_append (l : Launch) (G : Gw) (σ : Sg) (p1 : Int32) (Q : Sg → Prop) (hw : wp_X2_append σ p1 Q) : MetV l yX2_append wz_X2_append rm_X2_append G σ [.ref (G.1 3), .int p1] Q := by
  refine MetV.of cX2_append 3 none (by decide) rfl (Nat.le_of_ble_eq_true rfl) ?_
  intro p e s m below meth c X hk ls hl
  have X : KC p m meth c cX2_append 3 s _ wz_X2_append RX2 none G := X
  have hl : lv_has ls 3 [(0, .ref (G.1 3)), (1, .int p1)] := hl
  unfold wp_X2_append at hw
  have hx := X.1.1
  have hb := X.1.2.1
  refine lv_bipush (v := (24 : Int32)) hx hb dX2_append_0 (by decide) ?_
  refine lv_istore_n (lv' := [(2, .int (24 : Int32)), (0, .ref (G.1 3)), (1, .int p1)]) hx hb dX2_append_2 rfl hl (Nat.le_of_ble_eq_true rfl) rfl (fun ls hl => ?_)
  obtain ⟨n0, hw⟩ := hw
  exact t_X2_append_3 X Q   n0 _ _ _ _ _ _ hw hk (lv_sub hl [1, 2, 0] rfl)
def rm_X2_carryOut : Room := { frames := 2, cells := 0, slots := 0, locals := 47 }
abbrev wz_X2_carryOut : List Cond := Cond.code yX2_carryOut cX2_carryOut 2 none :: wsA
theorem hd_X2_carryOut : yX2_carryOut.cls = RX2 ∧ yX2_carryOut.cls ≠ "java/lang/invoke/MethodHandle" ∧ yX2_carryOut.cls ≠ "java/lang/invoke/VarHandle" ∧ (parseMethodDescriptor yX2_carryOut.desc).map (fun d => d.parameters.length) = some 1 := by decide +kernel
def wp_X2_carryOut (σ : Sg) (p1 : Int32) (Q : Sg → Prop) : Prop := (p1 = (0 : Int32) → (vp_in (0 : Int32) 5 ∧ (vp_in (1 : Int32) 5 ∧ (vp_in (2 : Int32) 5 ∧ (vp_in (3 : Int32) 5 ∧ (wp_X3_addPlace σ (σ 17 ((0 : Int32)).toNatClampNeg) (σ 17 ((1 : Int32)).toNatClampNeg) (σ 17 ((2 : Int32)).toNatClampNeg) (σ 17 ((3 : Int32)).toNatClampNeg) (fun r3 σ2 => Q σ2))))))) ∧ (p1 = (1 : Int32) → (vp_in (0 : Int32) 5 ∧ (vp_in (1 : Int32) 5 ∧ (vp_in (2 : Int32) 5 ∧ (vp_in (3 : Int32) 5 ∧ (vp_in (4 : Int32) 5 ∧ (wp_X3_addRoad σ (σ 17 ((0 : Int32)).toNatClampNeg) (σ 17 ((1 : Int32)).toNatClampNeg) (σ 17 ((2 : Int32)).toNatClampNeg) (σ 17 ((3 : Int32)).toNatClampNeg) (σ 17 ((4 : Int32)).toNatClampNeg) (fun r6 σ5 => Q σ5)))))))) ∧ (p1 = (2 : Int32) → (vp_in (0 : Int32) 5 ∧ (vp_in (1 : Int32) 5 ∧ (wp_X3_shiftLanes σ (σ 17 ((0 : Int32)).toNatClampNeg) (σ 17 ((1 : Int32)).toNatClampNeg) (fun σ8 => Q σ8))))) ∧ (¬ p1 = (0 : Int32) → ¬ p1 = (1 : Int32) → ¬ p1 = (2 : Int32) → (vp_in (0 : Int32) 5 ∧ (vp_in (1 : Int32) 5 ∧ (vp_in (2 : Int32) 5 ∧ (wp_X1_add σ (σ 17 ((0 : Int32)).toNatClampNeg) (σ 17 ((1 : Int32)).toNatClampNeg) (σ 3 10) (σ 17 ((2 : Int32)).toNatClampNeg) (fun r11 σ10 => Q σ10))))))
set_option maxHeartbeats 4000000 in
set_option maxRecDepth 100000 in
theorem c_X2_carryOut (l : Launch) (G : Gw) (σ : Sg) (p1 : Int32) (Q : Sg → Prop) (hw : wp_X2_carryOut σ p1 Q) : MetV l yX2_carryOut wz_X2_carryOut rm_X2_carryOut G σ [.ref (G.1 3), .int p1] Q := by
  refine MetV.of cX2_carryOut 2 none (by decide) rfl (Nat.le_of_ble_eq_true rfl) ?_
  intro p e s m below meth c X hk ls hl
  have X : KC p m meth c cX2_carryOut 2 s _ wz_X2_carryOut RX2 none G := X
  have hl : lv_has ls 2 [(0, .ref (G.1 3)), (1, .int p1)] := hl
  unfold wp_X2_carryOut at hw
  have hx := X.1.1
  have hb := X.1.2.1
  refine lv_iload_n hx hb dX2_carryOut_0 rfl (lv_at hl 1 rfl) ?_
  by_cases c1 : p1 = (0 : Int32)
  · have ec1 : (p1).toInt = 0 := by rw [c1]; rfl
    refine lv_tableIn (tgt := 28) hx hb dX2_carryOut_1 (by rw [ec1]; decide) (by rw [ec1]; decide) (by rw [ec1]; rfl) (by decide) ?_
    replace hw := hw.1 c1
    refine lv_aload_n hx hb dX2_carryOut_28 rfl (lv_at hl 0 rfl) ?_
    refine k_get 2 X hk (wg_3 G _) rfl (hz_wsX20 _) (Nat.le_of_ble_eq_true rfl) (List.mem_cons_of_mem _ (aw_r3 _ (List.mem_of_getElem? (i := 12) rfl))) rfl dX2_carryOut_29 ?_
    refine lv_aload_n hx hb dX2_carryOut_32 rfl (lv_at hl 0 rfl) ?_
    refine k_get 9 X hk (wg_3 G _) rfl (hz_wsX20 _) (Nat.le_of_ble_eq_true rfl) (List.mem_cons_of_mem _ (aw_r3 _ (List.mem_of_getElem? (i := 10) rfl))) rfl dX2_carryOut_33 ?_
    refine lv_iconst (v := (0 : Int32)) hx hb dX2_carryOut_36 (by decide) ?_
    refine k_iald X hk (wg_17 G _) hw.1 dX2_carryOut_37 ?_
    replace hw := hw.2
    refine lv_aload_n hx hb dX2_carryOut_38 rfl (lv_at hl 0 rfl) ?_
    refine k_get 9 X hk (wg_3 G _) rfl (hz_wsX20 _) (Nat.le_of_ble_eq_true rfl) (List.mem_cons_of_mem _ (aw_r3 _ (List.mem_of_getElem? (i := 10) rfl))) rfl dX2_carryOut_39 ?_
    refine lv_iconst (v := (1 : Int32)) hx hb dX2_carryOut_42 (by decide) ?_
    refine k_iald X hk (wg_17 G _) hw.1 dX2_carryOut_43 ?_
    replace hw := hw.2
    refine lv_aload_n hx hb dX2_carryOut_44 rfl (lv_at hl 0 rfl) ?_
    refine k_get 9 X hk (wg_3 G _) rfl (hz_wsX20 _) (Nat.le_of_ble_eq_true rfl) (List.mem_cons_of_mem _ (aw_r3 _ (List.mem_of_getElem? (i := 10) rfl))) rfl dX2_carryOut_45 ?_
    refine lv_iconst (v := (2 : Int32)) hx hb dX2_carryOut_48 (by decide) ?_
    refine k_iald X hk (wg_17 G _) hw.1 dX2_carryOut_49 ?_
    replace hw := hw.2
    refine lv_aload_n hx hb dX2_carryOut_50 rfl (lv_at hl 0 rfl) ?_
    refine k_get 9 X hk (wg_3 G _) rfl (hz_wsX20 _) (Nat.le_of_ble_eq_true rfl) (List.mem_cons_of_mem _ (aw_r3 _ (List.mem_of_getElem? (i := 10) rfl))) rfl dX2_carryOut_51 ?_
    refine lv_iconst (v := (3 : Int32)) hx hb dX2_carryOut_54 (by decide) ?_
    refine k_iald X hk (wg_17 G _) hw.1 dX2_carryOut_55 ?_
    replace hw := hw.2
    refine k_callVi (rest := []) X hk (c_X3_addPlace l G _ _ _ _ _ _ hw) (cwV 4 X.1.2.2.2.2 (gzV (aw_r13 _ (List.mem_of_getElem? (i := 10) rfl)) (aw_r13 _ (List.mem_of_getElem? (i := 11) rfl)) (aw_r13 _ (List.mem_of_getElem? (i := 12) rfl)) (aw_r1 _ (List.mem_of_getElem? (i := 15) rfl)) (aw_r13 _ (List.mem_of_getElem? (i := 13) rfl))) rfl rfl rfl hd_X3_addPlace ⟨(Nat.le_of_ble_eq_true rfl), (Nat.le_of_ble_eq_true rfl)⟩) (wg_1 G _) rfl rfl hl.1 rfl (Nat.le_of_ble_eq_true rfl) dX2_carryOut_56 ⟨Nat.zero_le _, Nat.zero_le _⟩ (fun r3 σ2 H locs hw hk => ?_)
    refine lv_pop hx hb dX2_carryOut_59 rfl ?_
    refine lv_goto (tgt := 156) hx hb dX2_carryOut_60 (by decide) ?_
    exact k_vret X hk hw dX2_carryOut_156
  replace hw := hw.2
  by_cases c4 : p1 = (1 : Int32)
  · have ec4 : (p1).toInt = 1 := by rw [c4]; rfl
    refine lv_tableIn (tgt := 63) hx hb dX2_carryOut_1 (by rw [ec4]; decide) (by rw [ec4]; decide) (by rw [ec4]; rfl) (by decide) ?_
    replace hw := hw.1 c4
    refine lv_aload_n hx hb dX2_carryOut_63 rfl (lv_at hl 0 rfl) ?_
    refine k_get 2 X hk (wg_3 G _) rfl (hz_wsX20 _) (Nat.le_of_ble_eq_true rfl) (List.mem_cons_of_mem _ (aw_r3 _ (List.mem_of_getElem? (i := 12) rfl))) rfl dX2_carryOut_64 ?_
    refine lv_aload_n hx hb dX2_carryOut_67 rfl (lv_at hl 0 rfl) ?_
    refine k_get 9 X hk (wg_3 G _) rfl (hz_wsX20 _) (Nat.le_of_ble_eq_true rfl) (List.mem_cons_of_mem _ (aw_r3 _ (List.mem_of_getElem? (i := 10) rfl))) rfl dX2_carryOut_68 ?_
    refine lv_iconst (v := (0 : Int32)) hx hb dX2_carryOut_71 (by decide) ?_
    refine k_iald X hk (wg_17 G _) hw.1 dX2_carryOut_72 ?_
    replace hw := hw.2
    refine lv_aload_n hx hb dX2_carryOut_73 rfl (lv_at hl 0 rfl) ?_
    refine k_get 9 X hk (wg_3 G _) rfl (hz_wsX20 _) (Nat.le_of_ble_eq_true rfl) (List.mem_cons_of_mem _ (aw_r3 _ (List.mem_of_getElem? (i := 10) rfl))) rfl dX2_carryOut_74 ?_
    refine lv_iconst (v := (1 : Int32)) hx hb dX2_carryOut_77 (by decide) ?_
    refine k_iald X hk (wg_17 G _) hw.1 dX2_carryOut_78 ?_
    replace hw := hw.2
    refine lv_aload_n hx hb dX2_carryOut_79 rfl (lv_at hl 0 rfl) ?_
    refine k_get 9 X hk (wg_3 G _) rfl (hz_wsX20 _) (Nat.le_of_ble_eq_true rfl) (List.mem_cons_of_mem _ (aw_r3 _ (List.mem_of_getElem? (i := 10) rfl))) rfl dX2_carryOut_80 ?_
    refine lv_iconst (v := (2 : Int32)) hx hb dX2_carryOut_83 (by decide) ?_
    refine k_iald X hk (wg_17 G _) hw.1 dX2_carryOut_84 ?_
    replace hw := hw.2
    refine lv_aload_n hx hb dX2_carryOut_85 rfl (lv_at hl 0 rfl) ?_
    refine k_get 9 X hk (wg_3 G _) rfl (hz_wsX20 _) (Nat.le_of_ble_eq_true rfl) (List.mem_cons_of_mem _ (aw_r3 _ (List.mem_of_getElem? (i := 10) rfl))) rfl dX2_carryOut_86 ?_
    refine lv_iconst (v := (3 : Int32)) hx hb dX2_carryOut_89 (by decide) ?_
    refine k_iald X hk (wg_17 G _) hw.1 dX2_carryOut_90 ?_
    replace hw := hw.2
    refine lv_aload_n hx hb dX2_carryOut_91 rfl (lv_at hl 0 rfl) ?_
    refine k_get 9 X hk (wg_3 G _) rfl (hz_wsX20 _) (Nat.le_of_ble_eq_true rfl) (List.mem_cons_of_mem _ (aw_r3 _ (List.mem_of_getElem? (i := 10) rfl))) rfl dX2_carryOut_92 ?_
    refine lv_iconst (v := (4 : Int32)) hx hb dX2_carryOut_95 (by decide) ?_
    refine k_iald X hk (wg_17 G _) hw.1 dX2_carryOut_96 ?_
    replace hw := hw.2
    refine k_callVi (rest := []) X hk (c_X3_addRoad l G _ _ _ _ _ _ _ hw) (cwV 5 X.1.2.2.2.2 (gzV (aw_r13 _ (List.mem_of_getElem? (i := 18) rfl)) (aw_r13 _ (List.mem_of_getElem? (i := 19) rfl)) (aw_r13 _ (List.mem_of_getElem? (i := 20) rfl)) (aw_r1 _ (List.mem_of_getElem? (i := 15) rfl)) (aw_r13 _ (List.mem_of_getElem? (i := 21) rfl))) rfl rfl rfl hd_X3_addRoad ⟨(Nat.le_of_ble_eq_true rfl), (Nat.le_of_ble_eq_true rfl)⟩) (wg_1 G _) rfl rfl hl.1 rfl (Nat.le_of_ble_eq_true rfl) dX2_carryOut_97 ⟨Nat.zero_le _, Nat.zero_le _⟩ (fun r6 σ5 H locs hw hk => ?_)
    refine lv_pop hx hb dX2_carryOut_100 rfl ?_
    refine lv_goto (tgt := 156) hx hb dX2_carryOut_101 (by decide) ?_
    exact k_vret X hk hw dX2_carryOut_156
  replace hw := hw.2
  by_cases c7 : p1 = (2 : Int32)
  · have ec7 : (p1).toInt = 2 := by rw [c7]; rfl
    refine lv_tableIn (tgt := 104) hx hb dX2_carryOut_1 (by rw [ec7]; decide) (by rw [ec7]; decide) (by rw [ec7]; rfl) (by decide) ?_
    replace hw := hw.1 c7
    refine lv_aload_n hx hb dX2_carryOut_104 rfl (lv_at hl 0 rfl) ?_
    refine k_get 2 X hk (wg_3 G _) rfl (hz_wsX20 _) (Nat.le_of_ble_eq_true rfl) (List.mem_cons_of_mem _ (aw_r3 _ (List.mem_of_getElem? (i := 12) rfl))) rfl dX2_carryOut_105 ?_
    refine lv_aload_n hx hb dX2_carryOut_108 rfl (lv_at hl 0 rfl) ?_
    refine k_get 9 X hk (wg_3 G _) rfl (hz_wsX20 _) (Nat.le_of_ble_eq_true rfl) (List.mem_cons_of_mem _ (aw_r3 _ (List.mem_of_getElem? (i := 10) rfl))) rfl dX2_carryOut_109 ?_
    refine lv_iconst (v := (0 : Int32)) hx hb dX2_carryOut_112 (by decide) ?_
    refine k_iald X hk (wg_17 G _) hw.1 dX2_carryOut_113 ?_
    replace hw := hw.2
    refine lv_aload_n hx hb dX2_carryOut_114 rfl (lv_at hl 0 rfl) ?_
    refine k_get 9 X hk (wg_3 G _) rfl (hz_wsX20 _) (Nat.le_of_ble_eq_true rfl) (List.mem_cons_of_mem _ (aw_r3 _ (List.mem_of_getElem? (i := 10) rfl))) rfl dX2_carryOut_115 ?_
    refine lv_iconst (v := (1 : Int32)) hx hb dX2_carryOut_118 (by decide) ?_
    refine k_iald X hk (wg_17 G _) hw.1 dX2_carryOut_119 ?_
    replace hw := hw.2
    refine k_callVv (rest := []) X hk (c_X3_shiftLanes l G _ _ _ _ hw) (cwV 2 X.1.2.2.2.2 (gzV (aw_r13 _ (List.mem_of_getElem? (i := 22) rfl)) (aw_r13 _ (List.mem_of_getElem? (i := 23) rfl)) (aw_r14 _ (List.mem_of_getElem? (i := 0) rfl)) (aw_r1 _ (List.mem_of_getElem? (i := 15) rfl)) (aw_r14 _ (List.mem_of_getElem? (i := 1) rfl))) rfl rfl rfl hd_X3_shiftLanes ⟨(Nat.le_of_ble_eq_true rfl), (Nat.le_of_ble_eq_true rfl)⟩) (wg_1 G _) rfl rfl hl.1 rfl (Nat.le_of_ble_eq_true rfl) dX2_carryOut_120 ⟨Nat.zero_le _, Nat.zero_le _⟩ (fun σ8 H locs hw hk => ?_)
    refine lv_goto (tgt := 156) hx hb dX2_carryOut_123 (by decide) ?_
    exact k_vret X hk hw dX2_carryOut_156
  replace hw := hw.2
  have ec1 := lv_neT (a := 0) c1 rfl
  have ec4 := lv_neT (a := 1) c4 rfl
  have ec7 := lv_neT (a := 2) c7 rfl
  refine lv_tableOut (tgt := 126) hx hb dX2_carryOut_1 (by omega) (by decide) ?_
  replace hw := hw c1 c4 c7
  refine lv_aload_n hx hb dX2_carryOut_126 rfl (lv_at hl 0 rfl) ?_
  refine k_get 3 X hk (wg_3 G _) rfl (hz_wsX20 _) (Nat.le_of_ble_eq_true rfl) (List.mem_cons_of_mem _ (aw_r3 _ (List.mem_of_getElem? (i := 13) rfl))) rfl dX2_carryOut_127 ?_
  refine lv_aload_n hx hb dX2_carryOut_130 rfl (lv_at hl 0 rfl) ?_
  refine k_get 9 X hk (wg_3 G _) rfl (hz_wsX20 _) (Nat.le_of_ble_eq_true rfl) (List.mem_cons_of_mem _ (aw_r3 _ (List.mem_of_getElem? (i := 10) rfl))) rfl dX2_carryOut_131 ?_
  refine lv_iconst (v := (0 : Int32)) hx hb dX2_carryOut_134 (by decide) ?_
  refine k_iald X hk (wg_17 G _) hw.1 dX2_carryOut_135 ?_
  replace hw := hw.2
  refine lv_aload_n hx hb dX2_carryOut_136 rfl (lv_at hl 0 rfl) ?_
  refine k_get 9 X hk (wg_3 G _) rfl (hz_wsX20 _) (Nat.le_of_ble_eq_true rfl) (List.mem_cons_of_mem _ (aw_r3 _ (List.mem_of_getElem? (i := 10) rfl))) rfl dX2_carryOut_137 ?_
  refine lv_iconst (v := (1 : Int32)) hx hb dX2_carryOut_140 (by decide) ?_
  refine k_iald X hk (wg_17 G _) hw.1 dX2_carryOut_141 ?_
  replace hw := hw.2
  refine lv_aload_n hx hb dX2_carryOut_142 rfl (lv_at hl 0 rfl) ?_
  refine k_get 10 X hk (wg_3 G _) rfl (hz_wsX20 _) (Nat.le_of_ble_eq_true rfl) (List.mem_cons_of_mem _ (aw_r11 _ (List.mem_of_getElem? (i := 21) rfl))) rfl dX2_carryOut_143 ?_
  refine lv_aload_n hx hb dX2_carryOut_146 rfl (lv_at hl 0 rfl) ?_
  refine k_get 9 X hk (wg_3 G _) rfl (hz_wsX20 _) (Nat.le_of_ble_eq_true rfl) (List.mem_cons_of_mem _ (aw_r3 _ (List.mem_of_getElem? (i := 10) rfl))) rfl dX2_carryOut_147 ?_
  refine lv_iconst (v := (2 : Int32)) hx hb dX2_carryOut_150 (by decide) ?_
  refine k_iald X hk (wg_17 G _) hw.1 dX2_carryOut_151 ?_
  replace hw := hw.2
  refine k_callVi (rest := []) X hk (c_X1_add l G _ _ _ _ _ _ hw) (cwV 4 X.1.2.2.2.2 (gzV (aw_r14 _ (List.mem_of_getElem? (i := 2) rfl)) (aw_r14 _ (List.mem_of_getElem? (i := 3) rfl)) (aw_r14 _ (List.mem_of_getElem? (i := 4) rfl)) (aw_r1 _ (List.mem_of_getElem? (i := 19) rfl)) (aw_r14 _ (List.mem_of_getElem? (i := 5) rfl))) rfl rfl rfl hd_X1_add ⟨(Nat.le_of_ble_eq_true rfl), (Nat.le_of_ble_eq_true rfl)⟩) (wg_2 G _) rfl rfl hl.1 rfl (Nat.le_of_ble_eq_true rfl) dX2_carryOut_152 ⟨Nat.zero_le _, Nat.zero_le _⟩ (fun r11 σ10 H locs hw hk => ?_)
  refine lv_pop hx hb dX2_carryOut_155 rfl ?_
  exact k_vret X hk hw dX2_carryOut_156
def rm_X2_isFull : Room := { frames := 0, cells := 0, slots := 0, locals := 0 }
abbrev wz_X2_isFull : List Cond := Cond.code yX2_isFull cX2_isFull 2 (some .boolean) :: wsA
theorem hd_X2_isFull : yX2_isFull.cls = RX2 ∧ yX2_isFull.cls ≠ "java/lang/invoke/MethodHandle" ∧ yX2_isFull.cls ≠ "java/lang/invoke/VarHandle" ∧ (parseMethodDescriptor yX2_isFull.desc).map (fun d => d.parameters.length) = some 1 := by decide +kernel
def wp_X2_isFull (σ : Sg) (p1 : Int32) (Q : Int32 → Sg → Prop) : Prop := (p1 = (0 : Int32) → (((σ 1 0) < (8 : Int32) → (bz (0 : Int32) ∧ Q (0 : Int32) σ)) ∧ (¬ ((σ 1 0) < (8 : Int32)) → (bz (1 : Int32) ∧ Q (1 : Int32) σ)))) ∧ (p1 = (1 : Int32) → (((σ 1 1) < (12 : Int32) → (bz (0 : Int32) ∧ Q (0 : Int32) σ)) ∧ (¬ ((σ 1 1) < (12 : Int32)) → (bz (1 : Int32) ∧ Q (1 : Int32) σ)))) ∧ (p1 = (2 : Int32) → (bz (0 : Int32) ∧ Q (0 : Int32) σ)) ∧ (p1 = (3 : Int32) → (((σ 2 0) < (40 : Int32) → (bz (0 : Int32) ∧ Q (0 : Int32) σ)) ∧ (¬ ((σ 2 0) < (40 : Int32)) → (bz (1 : Int32) ∧ Q (1 : Int32) σ)))) ∧ (¬ p1 = (0 : Int32) → ¬ p1 = (1 : Int32) → ¬ p1 = (2 : Int32) → ¬ p1 = (3 : Int32) → (bz (0 : Int32) ∧ Q (0 : Int32) σ))
set_option maxHeartbeats 4000000 in
set_option maxRecDepth 100000 in
theorem c_X2_isFull (l : Launch) (G : Gw) (σ : Sg) (p1 : Int32) (Q : Int32 → Sg → Prop) (hw : wp_X2_isFull σ p1 Q) : MetI l yX2_isFull wz_X2_isFull rm_X2_isFull G σ [.ref (G.1 3), .int p1] Q := by
  refine MetI.of cX2_isFull 2 (some .boolean) (by decide) rfl (Nat.le_of_ble_eq_true rfl) ?_
  intro p e s m below meth c X hk ls hl
  have X : KC p m meth c cX2_isFull 2 s _ wz_X2_isFull RX2 (some .boolean) G := X
  have hl : lv_has ls 2 [(0, .ref (G.1 3)), (1, .int p1)] := hl
  unfold wp_X2_isFull at hw
  have hx := X.1.1
  have hb := X.1.2.1
  refine lv_iload_n hx hb dX2_isFull_0 rfl (lv_at hl 1 rfl) ?_
  by_cases c1 : p1 = (0 : Int32)
  · have ec1 : (p1).toInt = 0 := by rw [c1]; rfl
    refine lv_tableIn (tgt := 32) hx hb dX2_isFull_1 (by rw [ec1]; decide) (by rw [ec1]; decide) (by rw [ec1]; rfl) (by decide) ?_
    replace hw := hw.1 c1
    refine lv_aload_n hx hb dX2_isFull_32 rfl (lv_at hl 0 rfl) ?_
    refine k_get 2 X hk (wg_3 G _) rfl (hz_wsX20 _) (Nat.le_of_ble_eq_true rfl) (List.mem_cons_of_mem _ (aw_r3 _ (List.mem_of_getElem? (i := 12) rfl))) rfl dX2_isFull_33 ?_
    refine k_get 0 X hk (wg_1 G _) rfl (hz_wsX30 _) (Nat.le_of_ble_eq_true rfl) (List.mem_cons_of_mem _ (aw_r7 _ (List.mem_of_getElem? (i := 4) rfl))) rfl dX2_isFull_36 ?_
    refine lv_bipush (v := (8 : Int32)) hx hb dX2_isFull_39 (by decide) ?_
    refine lv_icmp_lt (tgt := 48) hx hb dX2_isFull_41 (by decide) (fun c2 => ?_) (fun c2 => ?_)
    · replace hw := hw.1 c2
      refine lv_iconst (v := (0 : Int32)) hx hb dX2_isFull_48 (by decide) ?_
      exact k_zret X hk hw dX2_isFull_49
    · replace hw := hw.2 c2
      refine lv_iconst (v := (1 : Int32)) hx hb dX2_isFull_44 (by decide) ?_
      refine lv_goto (tgt := 49) hx hb dX2_isFull_45 (by decide) ?_
      exact k_zret X hk hw dX2_isFull_49
  replace hw := hw.2
  by_cases c3 : p1 = (1 : Int32)
  · have ec3 : (p1).toInt = 1 := by rw [c3]; rfl
    refine lv_tableIn (tgt := 50) hx hb dX2_isFull_1 (by rw [ec3]; decide) (by rw [ec3]; decide) (by rw [ec3]; rfl) (by decide) ?_
    replace hw := hw.1 c3
    refine lv_aload_n hx hb dX2_isFull_50 rfl (lv_at hl 0 rfl) ?_
    refine k_get 2 X hk (wg_3 G _) rfl (hz_wsX20 _) (Nat.le_of_ble_eq_true rfl) (List.mem_cons_of_mem _ (aw_r3 _ (List.mem_of_getElem? (i := 12) rfl))) rfl dX2_isFull_51 ?_
    refine k_get 1 X hk (wg_1 G _) rfl (hz_wsX30 _) (Nat.le_of_ble_eq_true rfl) (List.mem_cons_of_mem _ (aw_r7 _ (List.mem_of_getElem? (i := 5) rfl))) rfl dX2_isFull_54 ?_
    refine lv_bipush (v := (12 : Int32)) hx hb dX2_isFull_57 (by decide) ?_
    refine lv_icmp_lt (tgt := 66) hx hb dX2_isFull_59 (by decide) (fun c4 => ?_) (fun c4 => ?_)
    · replace hw := hw.1 c4
      refine lv_iconst (v := (0 : Int32)) hx hb dX2_isFull_66 (by decide) ?_
      exact k_zret X hk hw dX2_isFull_67
    · replace hw := hw.2 c4
      refine lv_iconst (v := (1 : Int32)) hx hb dX2_isFull_62 (by decide) ?_
      refine lv_goto (tgt := 67) hx hb dX2_isFull_63 (by decide) ?_
      exact k_zret X hk hw dX2_isFull_67
  replace hw := hw.2
  by_cases c5 : p1 = (2 : Int32)
  · have ec5 : (p1).toInt = 2 := by rw [c5]; rfl
    refine lv_tableIn (tgt := 86) hx hb dX2_isFull_1 (by rw [ec5]; decide) (by rw [ec5]; decide) (by rw [ec5]; rfl) (by decide) ?_
    replace hw := hw.1 c5
    refine lv_iconst (v := (0 : Int32)) hx hb dX2_isFull_86 (by decide) ?_
    exact k_zret X hk hw dX2_isFull_87
  replace hw := hw.2
  by_cases c6 : p1 = (3 : Int32)
  · have ec6 : (p1).toInt = 3 := by rw [c6]; rfl
    refine lv_tableIn (tgt := 68) hx hb dX2_isFull_1 (by rw [ec6]; decide) (by rw [ec6]; decide) (by rw [ec6]; rfl) (by decide) ?_
    replace hw := hw.1 c6
    refine lv_aload_n hx hb dX2_isFull_68 rfl (lv_at hl 0 rfl) ?_
    refine k_get 3 X hk (wg_3 G _) rfl (hz_wsX20 _) (Nat.le_of_ble_eq_true rfl) (List.mem_cons_of_mem _ (aw_r3 _ (List.mem_of_getElem? (i := 13) rfl))) rfl dX2_isFull_69 ?_
    refine k_get 0 X hk (wg_2 G _) rfl (hz_wsX10 _) (Nat.le_of_ble_eq_true rfl) (List.mem_cons_of_mem _ (aw_r7 _ (List.mem_of_getElem? (i := 6) rfl))) rfl dX2_isFull_72 ?_
    refine lv_bipush (v := (40 : Int32)) hx hb dX2_isFull_75 (by decide) ?_
    refine lv_icmp_lt (tgt := 84) hx hb dX2_isFull_77 (by decide) (fun c7 => ?_) (fun c7 => ?_)
    · replace hw := hw.1 c7
      refine lv_iconst (v := (0 : Int32)) hx hb dX2_isFull_84 (by decide) ?_
      exact k_zret X hk hw dX2_isFull_85
    · replace hw := hw.2 c7
      refine lv_iconst (v := (1 : Int32)) hx hb dX2_isFull_80 (by decide) ?_
      refine lv_goto (tgt := 85) hx hb dX2_isFull_81 (by decide) ?_
      exact k_zret X hk hw dX2_isFull_85
  replace hw := hw.2
  have ec1 := lv_neT (a := 0) c1 rfl
  have ec3 := lv_neT (a := 1) c3 rfl
  have ec5 := lv_neT (a := 2) c5 rfl
  have ec6 := lv_neT (a := 3) c6 rfl
  refine lv_tableOut (tgt := 86) hx hb dX2_isFull_1 (by omega) (by decide) ?_
  replace hw := hw c1 c3 c5 c6
  refine lv_iconst (v := (0 : Int32)) hx hb dX2_isFull_86 (by decide) ?_
  exact k_zret X hk hw dX2_isFull_87
def rm_X2_intFits : Room := { frames := 2, cells := 0, slots := 0, locals := 44 }
abbrev wz_X2_intFits : List Cond := Cond.code yX2_intFits cX2_intFits 4 (some .boolean) :: wsA
theorem hd_X2_intFits : yX2_intFits.cls = RX2 ∧ yX2_intFits.cls ≠ "java/lang/invoke/MethodHandle" ∧ yX2_intFits.cls ≠ "java/lang/invoke/VarHandle" ∧ (parseMethodDescriptor yX2_intFits.desc).map (fun d => d.parameters.length) = some 2 := by decide +kernel
def wp_X2_intFits_16 (Q : Int32 → Sg → Prop)  (x1 x2 y0 : Int32) (σ : Sg) : Prop := (x1 = (0 : Int32) → (wp_X3_factFits σ x2 (σ 3 8) (fun r4 σ3 => bz r4 ∧ Q r4 σ3))) ∧ (x1 = (1 : Int32) → (wp_X3_roadFits σ x2 (σ 3 8) y0 (fun r7 σ6 => bz r7 ∧ Q r7 σ6))) ∧ (x1 = (2 : Int32) → ((x2 = 0 → (wp_X3_hasRoad σ (σ 3 8) (fun r13 σ12 => bz r13 ∧ Q r13 σ12))) ∧ (¬ (x2 = 0) → (wp_X3_turnFits σ y0 (σ 3 8) (fun r11 σ10 => bz r11 ∧ Q r11 σ10))))) ∧ (¬ x1 = (0 : Int32) → ¬ x1 = (1 : Int32) → ¬ x1 = (2 : Int32) → (wp_X1_moveFits σ x2 (σ 3 8) (fun r15 σ14 => bz r15 ∧ Q r15 σ14)))
set_option maxHeartbeats 4000000 in
set_option maxRecDepth 100000 in
theorem t_X2_intFits_16 {p : Program} {l : Launch} {e : Env} {s : State} {m : MethodId} {args : Array Value} {below : List Frame} {meth : Method} {c : Code} {G : Gw} (X : KC p m meth c cX2_intFits 4 s args wz_X2_intFits RX2 (some .boolean) G) (Q : Int32 → Sg → Prop)  : ∀ (σ : Sg) (x1 x2 y0 : Int32) (H : Heap) (locs : List Loc) (ls : Array Slot), wp_X2_intFits_16 Q  x1 x2 y0 σ → WK G s H locs σ → lv_has ls 4 [(0, .ref (G.1 3)), (1, .int x1), (2, .int x2)] → W p l e rm_X2_intFits s m args below meth c H locs 0 0 (ZI below args s G Q) (F0 m 16 ls [.int y0]) := by
  have hx := X.1.1
  have hb := X.1.2.1
  intro σ x1 x2 y0 H locs ls hw hk hl
  unfold wp_X2_intFits_16 at hw
  refine lv_istore_n (lv' := [(3, .int y0), (0, .ref (G.1 3)), (1, .int x1), (2, .int x2)]) hx hb dX2_intFits_16 rfl hl (Nat.le_of_ble_eq_true rfl) rfl (fun ls hl => ?_)
  refine lv_iload_n hx hb dX2_intFits_17 rfl (lv_at hl 2 rfl) ?_
  by_cases c2 : x1 = (0 : Int32)
  · have ec2 : (x1).toInt = 0 := by rw [c2]; rfl
    refine lv_tableIn (tgt := 44) hx hb dX2_intFits_18 (by rw [ec2]; decide) (by rw [ec2]; decide) (by rw [ec2]; rfl) (by decide) ?_
    replace hw := hw.1 c2
    refine lv_aload_n hx hb dX2_intFits_44 rfl (lv_at hl 1 rfl) ?_
    refine k_get 2 X hk (wg_3 G _) rfl (hz_wsX20 _) (Nat.le_of_ble_eq_true rfl) (List.mem_cons_of_mem _ (aw_r3 _ (List.mem_of_getElem? (i := 12) rfl))) rfl dX2_intFits_45 ?_
    refine lv_iload_n hx hb dX2_intFits_48 rfl (lv_at hl 3 rfl) ?_
    refine lv_aload_n hx hb dX2_intFits_49 rfl (lv_at hl 1 rfl) ?_
    refine k_get 8 X hk (wg_3 G _) rfl (hz_wsX20 _) (Nat.le_of_ble_eq_true rfl) (List.mem_cons_of_mem _ (aw_r7 _ (List.mem_of_getElem? (i := 20) rfl))) rfl dX2_intFits_50 ?_
    refine k_callVi (rest := []) X hk (c_X3_factFits l G _ _ _ _ hw) (cwV 2 X.1.2.2.2.2 (gzV (aw_r12 _ (List.mem_of_getElem? (i := 2) rfl)) (aw_r12 _ (List.mem_of_getElem? (i := 3) rfl)) (aw_r12 _ (List.mem_of_getElem? (i := 4) rfl)) (aw_r1 _ (List.mem_of_getElem? (i := 15) rfl)) (aw_r12 _ (List.mem_of_getElem? (i := 5) rfl))) rfl rfl rfl hd_X3_factFits ⟨(Nat.le_of_ble_eq_true rfl), (Nat.le_of_ble_eq_true rfl)⟩) (wg_1 G _) rfl rfl hl.1 rfl (Nat.le_of_ble_eq_true rfl) dX2_intFits_53 ⟨Nat.zero_le _, Nat.zero_le _⟩ (fun r4 σ3 H locs hw hk => ?_)
    exact k_zret X hk hw dX2_intFits_56
  replace hw := hw.2
  by_cases c5 : x1 = (1 : Int32)
  · have ec5 : (x1).toInt = 1 := by rw [c5]; rfl
    refine lv_tableIn (tgt := 57) hx hb dX2_intFits_18 (by rw [ec5]; decide) (by rw [ec5]; decide) (by rw [ec5]; rfl) (by decide) ?_
    replace hw := hw.1 c5
    refine lv_aload_n hx hb dX2_intFits_57 rfl (lv_at hl 1 rfl) ?_
    refine k_get 2 X hk (wg_3 G _) rfl (hz_wsX20 _) (Nat.le_of_ble_eq_true rfl) (List.mem_cons_of_mem _ (aw_r3 _ (List.mem_of_getElem? (i := 12) rfl))) rfl dX2_intFits_58 ?_
    refine lv_iload_n hx hb dX2_intFits_61 rfl (lv_at hl 3 rfl) ?_
    refine lv_aload_n hx hb dX2_intFits_62 rfl (lv_at hl 1 rfl) ?_
    refine k_get 8 X hk (wg_3 G _) rfl (hz_wsX20 _) (Nat.le_of_ble_eq_true rfl) (List.mem_cons_of_mem _ (aw_r7 _ (List.mem_of_getElem? (i := 20) rfl))) rfl dX2_intFits_63 ?_
    refine lv_iload_n hx hb dX2_intFits_66 rfl (lv_at hl 0 rfl) ?_
    refine k_callVi (rest := []) X hk (c_X3_roadFits l G _ _ _ _ _ hw) (cwV 3 X.1.2.2.2.2 (gzV (aw_r12 _ (List.mem_of_getElem? (i := 6) rfl)) (aw_r12 _ (List.mem_of_getElem? (i := 7) rfl)) (aw_r12 _ (List.mem_of_getElem? (i := 8) rfl)) (aw_r1 _ (List.mem_of_getElem? (i := 15) rfl)) (aw_r12 _ (List.mem_of_getElem? (i := 9) rfl))) rfl rfl rfl hd_X3_roadFits ⟨(Nat.le_of_ble_eq_true rfl), (Nat.le_of_ble_eq_true rfl)⟩) (wg_1 G _) rfl rfl hl.1 rfl (Nat.le_of_ble_eq_true rfl) dX2_intFits_67 ⟨Nat.zero_le _, Nat.zero_le _⟩ (fun r7 σ6 H locs hw hk => ?_)
    exact k_zret X hk hw dX2_intFits_70
  replace hw := hw.2
  by_cases c8 : x1 = (2 : Int32)
  · have ec8 : (x1).toInt = 2 := by rw [c8]; rfl
    refine lv_tableIn (tgt := 71) hx hb dX2_intFits_18 (by rw [ec8]; decide) (by rw [ec8]; decide) (by rw [ec8]; rfl) (by decide) ?_
    replace hw := hw.1 c8
    refine lv_iload_n hx hb dX2_intFits_71 rfl (lv_at hl 3 rfl) ?_
    refine lv_if_ne (tgt := 89) hx hb dX2_intFits_72 (by decide) (fun c9 => ?_) (fun c9 => ?_)
    · replace hw := hw.2 c9
      refine lv_aload_n hx hb dX2_intFits_89 rfl (lv_at hl 1 rfl) ?_
      refine k_get 2 X hk (wg_3 G _) rfl (hz_wsX20 _) (Nat.le_of_ble_eq_true rfl) (List.mem_cons_of_mem _ (aw_r3 _ (List.mem_of_getElem? (i := 12) rfl))) rfl dX2_intFits_90 ?_
      refine lv_iload_n hx hb dX2_intFits_93 rfl (lv_at hl 0 rfl) ?_
      refine lv_aload_n hx hb dX2_intFits_94 rfl (lv_at hl 1 rfl) ?_
      refine k_get 8 X hk (wg_3 G _) rfl (hz_wsX20 _) (Nat.le_of_ble_eq_true rfl) (List.mem_cons_of_mem _ (aw_r7 _ (List.mem_of_getElem? (i := 20) rfl))) rfl dX2_intFits_95 ?_
      refine k_callVi (rest := []) X hk (c_X3_turnFits l G _ _ _ _ hw) (cwV 2 X.1.2.2.2.2 (gzV (aw_r12 _ (List.mem_of_getElem? (i := 20) rfl)) (aw_r12 _ (List.mem_of_getElem? (i := 21) rfl)) (aw_r12 _ (List.mem_of_getElem? (i := 22) rfl)) (aw_r1 _ (List.mem_of_getElem? (i := 15) rfl)) (aw_r12 _ (List.mem_of_getElem? (i := 23) rfl))) rfl rfl rfl hd_X3_turnFits ⟨(Nat.le_of_ble_eq_true rfl), (Nat.le_of_ble_eq_true rfl)⟩) (wg_1 G _) rfl rfl hl.1 rfl (Nat.le_of_ble_eq_true rfl) dX2_intFits_98 ⟨Nat.zero_le _, Nat.zero_le _⟩ (fun r11 σ10 H locs hw hk => ?_)
      exact k_zret X hk hw dX2_intFits_101
    · replace hw := hw.1 c9
      refine lv_aload_n hx hb dX2_intFits_75 rfl (lv_at hl 1 rfl) ?_
      refine k_get 2 X hk (wg_3 G _) rfl (hz_wsX20 _) (Nat.le_of_ble_eq_true rfl) (List.mem_cons_of_mem _ (aw_r3 _ (List.mem_of_getElem? (i := 12) rfl))) rfl dX2_intFits_76 ?_
      refine lv_aload_n hx hb dX2_intFits_79 rfl (lv_at hl 1 rfl) ?_
      refine k_get 8 X hk (wg_3 G _) rfl (hz_wsX20 _) (Nat.le_of_ble_eq_true rfl) (List.mem_cons_of_mem _ (aw_r7 _ (List.mem_of_getElem? (i := 20) rfl))) rfl dX2_intFits_80 ?_
      refine k_callVi (rest := []) X hk (c_X3_hasRoad l G _ _ _ hw) (cwV 1 X.1.2.2.2.2 (gzV (aw_r12 _ (List.mem_of_getElem? (i := 15) rfl)) (aw_r12 _ (List.mem_of_getElem? (i := 16) rfl)) (aw_r12 _ (List.mem_of_getElem? (i := 17) rfl)) (aw_r1 _ (List.mem_of_getElem? (i := 15) rfl)) (aw_r12 _ (List.mem_of_getElem? (i := 18) rfl))) rfl rfl rfl hd_X3_hasRoad ⟨(Nat.le_of_ble_eq_true rfl), (Nat.le_of_ble_eq_true rfl)⟩) (wg_1 G _) rfl rfl hl.1 rfl (Nat.le_of_ble_eq_true rfl) dX2_intFits_83 ⟨Nat.zero_le _, Nat.zero_le _⟩ (fun r13 σ12 H locs hw hk => ?_)
      refine lv_goto (tgt := 101) hx hb dX2_intFits_86 (by decide) ?_
      exact k_zret X hk hw dX2_intFits_101
  replace hw := hw.2
  have ec2 := lv_neT (a := 0) c2 rfl
  have ec5 := lv_neT (a := 1) c5 rfl
  have ec8 := lv_neT (a := 2) c8 rfl
  refine lv_tableOut (tgt := 102) hx hb dX2_intFits_18 (by omega) (by decide) ?_
  replace hw := hw c2 c5 c8
  refine lv_aload_n hx hb dX2_intFits_102 rfl (lv_at hl 1 rfl) ?_
  refine k_get 3 X hk (wg_3 G _) rfl (hz_wsX20 _) (Nat.le_of_ble_eq_true rfl) (List.mem_cons_of_mem _ (aw_r3 _ (List.mem_of_getElem? (i := 13) rfl))) rfl dX2_intFits_103 ?_
  refine lv_iload_n hx hb dX2_intFits_106 rfl (lv_at hl 3 rfl) ?_
  refine lv_aload_n hx hb dX2_intFits_107 rfl (lv_at hl 1 rfl) ?_
  refine k_get 8 X hk (wg_3 G _) rfl (hz_wsX20 _) (Nat.le_of_ble_eq_true rfl) (List.mem_cons_of_mem _ (aw_r7 _ (List.mem_of_getElem? (i := 20) rfl))) rfl dX2_intFits_108 ?_
  refine k_callVi (rest := []) X hk (c_X1_moveFits l G _ _ _ _ hw) (cwV 2 X.1.2.2.2.2 (gzV (aw_r13 _ (List.mem_of_getElem? (i := 1) rfl)) (aw_r13 _ (List.mem_of_getElem? (i := 2) rfl)) (aw_r13 _ (List.mem_of_getElem? (i := 3) rfl)) (aw_r1 _ (List.mem_of_getElem? (i := 19) rfl)) (aw_r13 _ (List.mem_of_getElem? (i := 4) rfl))) rfl rfl rfl hd_X1_moveFits ⟨(Nat.le_of_ble_eq_true rfl), (Nat.le_of_ble_eq_true rfl)⟩) (wg_2 G _) rfl rfl hl.1 rfl (Nat.le_of_ble_eq_true rfl) dX2_intFits_111 ⟨Nat.zero_le _, Nat.zero_le _⟩ (fun r15 σ14 H locs hw hk => ?_)
  exact k_zret X hk hw dX2_intFits_114
def wp_X2_intFits (σ : Sg) (p1 p2 : Int32) (Q : Int32 → Sg → Prop) : Prop := (p2 ≤ 0 → (wp_X2_intFits_16 Q  p1 p2 (0 : Int32) σ)) ∧ (¬ (p2 ≤ 0) → (vp_in (p2 - (1 : Int32)) 5 ∧ (wp_X2_intFits_16 Q  p1 p2 (σ 17 ((p2 - (1 : Int32))).toNatClampNeg) σ)))
set_option maxHeartbeats 4000000 in
set_option maxRecDepth 100000 in
theorem c_X2_intFits (l : Launch) (G : Gw) (σ : Sg) (p1 p2 : Int32) (Q : Int32 → Sg → Prop) (hw : wp_X2_intFits σ p1 p2 Q) : MetI l yX2_intFits wz_X2_intFits rm_X2_intFits G σ [.ref (G.1 3), .int p1, .int p2] Q := by
  refine MetI.of cX2_intFits 4 (some .boolean) (by decide) rfl (Nat.le_of_ble_eq_true rfl) ?_
  intro p e s m below meth c X hk ls hl
  have X : KC p m meth c cX2_intFits 4 s _ wz_X2_intFits RX2 (some .boolean) G := X
  have hl : lv_has ls 4 [(0, .ref (G.1 3)), (1, .int p1), (2, .int p2)] := hl
  unfold wp_X2_intFits at hw
  have hx := X.1.1
  have hb := X.1.2.1
  refine lv_iload_n hx hb dX2_intFits_0 rfl (lv_at hl 2 rfl) ?_
  refine lv_if_le (tgt := 15) hx hb dX2_intFits_1 (by decide) (fun c1 => ?_) (fun c1 => ?_)
  · replace hw := hw.1 c1
    refine lv_iconst (v := (0 : Int32)) hx hb dX2_intFits_15 (by decide) ?_
    exact t_X2_intFits_16 X Q   _ _ _ _ _ _ _ hw hk hl
  · replace hw := hw.2 c1
    refine lv_aload_n hx hb dX2_intFits_4 rfl (lv_at hl 0 rfl) ?_
    refine k_get 9 X hk (wg_3 G _) rfl (hz_wsX20 _) (Nat.le_of_ble_eq_true rfl) (List.mem_cons_of_mem _ (aw_r3 _ (List.mem_of_getElem? (i := 10) rfl))) rfl dX2_intFits_5 ?_
    refine lv_iload_n hx hb dX2_intFits_8 rfl (lv_at hl 2 rfl) ?_
    refine lv_iconst (v := (1 : Int32)) hx hb dX2_intFits_9 (by decide) ?_
    refine lv_isub hx hb dX2_intFits_10 ?_
    refine k_iald X hk (wg_17 G _) hw.1 dX2_intFits_11 ?_
    replace hw := hw.2
    refine lv_goto (tgt := 16) hx hb dX2_intFits_12 (by decide) ?_
    exact t_X2_intFits_16 X Q   _ _ _ _ _ _ _ hw hk hl
def rm_X2_intsOf : Room := { frames := 0, cells := 0, slots := 0, locals := 0 }
abbrev wz_X2_intsOf : List Cond := Cond.code yX2_intsOf cX2_intsOf 1 (some .int) :: wsA
theorem hds_X2_intsOf : yX2_intsOf.cls ≠ "java/lang/invoke/MethodHandle" ∧ yX2_intsOf.cls ≠ "java/lang/invoke/VarHandle" ∧ (parseMethodDescriptor yX2_intsOf.desc).map (fun d => d.parameters.length) = some 1 := by decide +kernel
def wp_X2_intsOf (σ : Sg) (p0 : Int32) (Q : Int32 → Sg → Prop) : Prop := (p0 = (0 : Int32) → (Q (4 : Int32) σ)) ∧ (p0 = (1 : Int32) → (Q (5 : Int32) σ)) ∧ (p0 = (2 : Int32) → (Q (2 : Int32) σ)) ∧ (¬ p0 = (0 : Int32) → ¬ p0 = (1 : Int32) → ¬ p0 = (2 : Int32) → (Q (3 : Int32) σ))
set_option maxHeartbeats 4000000 in
set_option maxRecDepth 100000 in
theorem c_X2_intsOf (l : Launch) (G : Gw) (σ : Sg) (p0 : Int32) (Q : Int32 → Sg → Prop) (hw : wp_X2_intsOf σ p0 Q) : MetI l yX2_intsOf wz_X2_intsOf rm_X2_intsOf G σ [.int p0] Q := by
  refine MetI.of cX2_intsOf 1 (some .int) (by decide) rfl (Nat.le_of_ble_eq_true rfl) ?_
  intro p e s m below meth c X hk ls hl
  have X : KC p m meth c cX2_intsOf 1 s _ wz_X2_intsOf RX2 (some .int) G := X
  have hl : lv_has ls 1 [(0, .int p0)] := hl
  unfold wp_X2_intsOf at hw
  have hx := X.1.1
  have hb := X.1.2.1
  refine lv_iload_n hx hb dX2_intsOf_0 rfl (lv_at hl 0 rfl) ?_
  by_cases c1 : p0 = (0 : Int32)
  · have ec1 : (p0).toInt = 0 := by rw [c1]; rfl
    refine lv_tableIn (tgt := 28) hx hb dX2_intsOf_1 (by rw [ec1]; decide) (by rw [ec1]; decide) (by rw [ec1]; rfl) (by decide) ?_
    replace hw := hw.1 c1
    refine lv_iconst (v := (4 : Int32)) hx hb dX2_intsOf_28 (by decide) ?_
    exact k_iret X hk hw dX2_intsOf_29
  replace hw := hw.2
  by_cases c2 : p0 = (1 : Int32)
  · have ec2 : (p0).toInt = 1 := by rw [c2]; rfl
    refine lv_tableIn (tgt := 30) hx hb dX2_intsOf_1 (by rw [ec2]; decide) (by rw [ec2]; decide) (by rw [ec2]; rfl) (by decide) ?_
    replace hw := hw.1 c2
    refine lv_iconst (v := (5 : Int32)) hx hb dX2_intsOf_30 (by decide) ?_
    exact k_iret X hk hw dX2_intsOf_31
  replace hw := hw.2
  by_cases c3 : p0 = (2 : Int32)
  · have ec3 : (p0).toInt = 2 := by rw [c3]; rfl
    refine lv_tableIn (tgt := 32) hx hb dX2_intsOf_1 (by rw [ec3]; decide) (by rw [ec3]; decide) (by rw [ec3]; rfl) (by decide) ?_
    replace hw := hw.1 c3
    refine lv_iconst (v := (2 : Int32)) hx hb dX2_intsOf_32 (by decide) ?_
    exact k_iret X hk hw dX2_intsOf_33
  replace hw := hw.2
  have ec1 := lv_neT (a := 0) c1 rfl
  have ec2 := lv_neT (a := 1) c2 rfl
  have ec3 := lv_neT (a := 2) c3 rfl
  refine lv_tableOut (tgt := 34) hx hb dX2_intsOf_1 (by omega) (by decide) ?_
  replace hw := hw c1 c2 c3
  refine lv_iconst (v := (3 : Int32)) hx hb dX2_intsOf_34 (by decide) ?_
  exact k_iret X hk hw dX2_intsOf_35
def rm_X2_isDigit : Room := { frames := 0, cells := 0, slots := 0, locals := 0 }
abbrev wz_X2_isDigit : List Cond := Cond.code yX2_isDigit cX2_isDigit 2 (some .boolean) :: wsA
theorem hd_X2_isDigit : yX2_isDigit.cls = RX2 ∧ yX2_isDigit.cls ≠ "java/lang/invoke/MethodHandle" ∧ yX2_isDigit.cls ≠ "java/lang/invoke/VarHandle" ∧ (parseMethodDescriptor yX2_isDigit.desc).map (fun d => d.parameters.length) = some 1 := by decide +kernel
def wp_X2_isDigit (σ : Sg) (p1 : Int32) (Q : Int32 → Sg → Prop) : Prop := ((σ 3 0) ≤ p1 → (bz (0 : Int32) ∧ Q (0 : Int32) σ)) ∧ (¬ ((σ 3 0) ≤ p1) → (vp_in p1 400 ∧ (((σ 16 (p1).toNatClampNeg) < (48 : Int32) → (bz (0 : Int32) ∧ Q (0 : Int32) σ)) ∧ (¬ ((σ 16 (p1).toNatClampNeg) < (48 : Int32)) → (vp_in p1 400 ∧ (((57 : Int32) < (σ 16 (p1).toNatClampNeg) → (bz (0 : Int32) ∧ Q (0 : Int32) σ)) ∧ (¬ ((57 : Int32) < (σ 16 (p1).toNatClampNeg)) → (bz (1 : Int32) ∧ Q (1 : Int32) σ))))))))
set_option maxHeartbeats 4000000 in
set_option maxRecDepth 100000 in
theorem c_X2_isDigit (l : Launch) (G : Gw) (σ : Sg) (p1 : Int32) (Q : Int32 → Sg → Prop) (hw : wp_X2_isDigit σ p1 Q) : MetI l yX2_isDigit wz_X2_isDigit rm_X2_isDigit G σ [.ref (G.1 3), .int p1] Q := by
  refine MetI.of cX2_isDigit 2 (some .boolean) (by decide) rfl (Nat.le_of_ble_eq_true rfl) ?_
  intro p e s m below meth c X hk ls hl
  have X : KC p m meth c cX2_isDigit 2 s _ wz_X2_isDigit RX2 (some .boolean) G := X
  have hl : lv_has ls 2 [(0, .ref (G.1 3)), (1, .int p1)] := hl
  unfold wp_X2_isDigit at hw
  have hx := X.1.1
  have hb := X.1.2.1
  refine lv_iload_n hx hb dX2_isDigit_0 rfl (lv_at hl 1 rfl) ?_
  refine lv_aload_n hx hb dX2_isDigit_1 rfl (lv_at hl 0 rfl) ?_
  refine k_get 0 X hk (wg_3 G _) rfl (hz_wsX20 _) (Nat.le_of_ble_eq_true rfl) (List.mem_cons_of_mem _ (aw_r5 _ (List.mem_of_getElem? (i := 18) rfl))) rfl dX2_isDigit_2 ?_
  refine lv_icmp_ge (tgt := 34) hx hb dX2_isDigit_5 (by decide) (fun c1 => ?_) (fun c1 => ?_)
  · replace hw := hw.1 c1
    refine lv_iconst (v := (0 : Int32)) hx hb dX2_isDigit_34 (by decide) ?_
    exact k_zret X hk hw dX2_isDigit_35
  · replace hw := hw.2 c1
    refine lv_aload_n hx hb dX2_isDigit_8 rfl (lv_at hl 0 rfl) ?_
    refine k_get 4 X hk (wg_3 G _) rfl (hz_wsX20 _) (Nat.le_of_ble_eq_true rfl) (List.mem_cons_of_mem _ (aw_r3 _ (List.mem_of_getElem? (i := 9) rfl))) rfl dX2_isDigit_9 ?_
    refine lv_iload_n hx hb dX2_isDigit_12 rfl (lv_at hl 1 rfl) ?_
    refine k_bald X hk (wg_16 G _) hw.1 dX2_isDigit_13 ?_
    replace hw := hw.2
    refine lv_bipush (v := (48 : Int32)) hx hb dX2_isDigit_14 (by decide) ?_
    refine lv_icmp_lt (tgt := 34) hx hb dX2_isDigit_16 (by decide) (fun c2 => ?_) (fun c2 => ?_)
    · replace hw := hw.1 c2
      refine lv_iconst (v := (0 : Int32)) hx hb dX2_isDigit_34 (by decide) ?_
      exact k_zret X hk hw dX2_isDigit_35
    · replace hw := hw.2 c2
      refine lv_aload_n hx hb dX2_isDigit_19 rfl (lv_at hl 0 rfl) ?_
      refine k_get 4 X hk (wg_3 G _) rfl (hz_wsX20 _) (Nat.le_of_ble_eq_true rfl) (List.mem_cons_of_mem _ (aw_r3 _ (List.mem_of_getElem? (i := 9) rfl))) rfl dX2_isDigit_20 ?_
      refine lv_iload_n hx hb dX2_isDigit_23 rfl (lv_at hl 1 rfl) ?_
      refine k_bald X hk (wg_16 G _) hw.1 dX2_isDigit_24 ?_
      replace hw := hw.2
      refine lv_bipush (v := (57 : Int32)) hx hb dX2_isDigit_25 (by decide) ?_
      refine lv_icmp_gt (tgt := 34) hx hb dX2_isDigit_27 (by decide) (fun c3 => ?_) (fun c3 => ?_)
      · replace hw := hw.1 c3
        refine lv_iconst (v := (0 : Int32)) hx hb dX2_isDigit_34 (by decide) ?_
        exact k_zret X hk hw dX2_isDigit_35
      · replace hw := hw.2 c3
        refine lv_iconst (v := (1 : Int32)) hx hb dX2_isDigit_30 (by decide) ?_
        refine lv_goto (tgt := 35) hx hb dX2_isDigit_31 (by decide) ?_
        exact k_zret X hk hw dX2_isDigit_35
def rm_X2_isLetter : Room := { frames := 0, cells := 0, slots := 0, locals := 0 }
abbrev wz_X2_isLetter : List Cond := Cond.code yX2_isLetter cX2_isLetter 2 (some .boolean) :: wsA
theorem hd_X2_isLetter : yX2_isLetter.cls = RX2 ∧ yX2_isLetter.cls ≠ "java/lang/invoke/MethodHandle" ∧ yX2_isLetter.cls ≠ "java/lang/invoke/VarHandle" ∧ (parseMethodDescriptor yX2_isLetter.desc).map (fun d => d.parameters.length) = some 1 := by decide +kernel
def wp_X2_isLetter (σ : Sg) (p1 : Int32) (Q : Int32 → Sg → Prop) : Prop := ((σ 3 0) ≤ p1 → (bz (0 : Int32) ∧ Q (0 : Int32) σ)) ∧ (¬ ((σ 3 0) ≤ p1) → (vp_in p1 400 ∧ (((σ 16 (p1).toNatClampNeg) < (97 : Int32) → (bz (0 : Int32) ∧ Q (0 : Int32) σ)) ∧ (¬ ((σ 16 (p1).toNatClampNeg) < (97 : Int32)) → (vp_in p1 400 ∧ (((122 : Int32) < (σ 16 (p1).toNatClampNeg) → (bz (0 : Int32) ∧ Q (0 : Int32) σ)) ∧ (¬ ((122 : Int32) < (σ 16 (p1).toNatClampNeg)) → (bz (1 : Int32) ∧ Q (1 : Int32) σ))))))))
set_option maxHeartbeats 4000000 in
set_option maxRecDepth 100000 in
theorem c_X2_isLetter (l : Launch) (G : Gw) (σ : Sg) (p1 : Int32) (Q : Int32 → Sg → Prop) (hw : wp_X2_isLetter σ p1 Q) : MetI l yX2_isLetter wz_X2_isLetter rm_X2_isLetter G σ [.ref (G.1 3), .int p1] Q := by
  refine MetI.of cX2_isLetter 2 (some .boolean) (by decide) rfl (Nat.le_of_ble_eq_true rfl) ?_
  intro p e s m below meth c X hk ls hl
  have X : KC p m meth c cX2_isLetter 2 s _ wz_X2_isLetter RX2 (some .boolean) G := X
  have hl : lv_has ls 2 [(0, .ref (G.1 3)), (1, .int p1)] := hl
  unfold wp_X2_isLetter at hw
  have hx := X.1.1
  have hb := X.1.2.1
  refine lv_iload_n hx hb dX2_isLetter_0 rfl (lv_at hl 1 rfl) ?_
  refine lv_aload_n hx hb dX2_isLetter_1 rfl (lv_at hl 0 rfl) ?_
  refine k_get 0 X hk (wg_3 G _) rfl (hz_wsX20 _) (Nat.le_of_ble_eq_true rfl) (List.mem_cons_of_mem _ (aw_r5 _ (List.mem_of_getElem? (i := 18) rfl))) rfl dX2_isLetter_2 ?_
  refine lv_icmp_ge (tgt := 34) hx hb dX2_isLetter_5 (by decide) (fun c1 => ?_) (fun c1 => ?_)
  · replace hw := hw.1 c1
    refine lv_iconst (v := (0 : Int32)) hx hb dX2_isLetter_34 (by decide) ?_
    exact k_zret X hk hw dX2_isLetter_35
  · replace hw := hw.2 c1
    refine lv_aload_n hx hb dX2_isLetter_8 rfl (lv_at hl 0 rfl) ?_
    refine k_get 4 X hk (wg_3 G _) rfl (hz_wsX20 _) (Nat.le_of_ble_eq_true rfl) (List.mem_cons_of_mem _ (aw_r3 _ (List.mem_of_getElem? (i := 9) rfl))) rfl dX2_isLetter_9 ?_
    refine lv_iload_n hx hb dX2_isLetter_12 rfl (lv_at hl 1 rfl) ?_
    refine k_bald X hk (wg_16 G _) hw.1 dX2_isLetter_13 ?_
    replace hw := hw.2
    refine lv_bipush (v := (97 : Int32)) hx hb dX2_isLetter_14 (by decide) ?_
    refine lv_icmp_lt (tgt := 34) hx hb dX2_isLetter_16 (by decide) (fun c2 => ?_) (fun c2 => ?_)
    · replace hw := hw.1 c2
      refine lv_iconst (v := (0 : Int32)) hx hb dX2_isLetter_34 (by decide) ?_
      exact k_zret X hk hw dX2_isLetter_35
    · replace hw := hw.2 c2
      refine lv_aload_n hx hb dX2_isLetter_19 rfl (lv_at hl 0 rfl) ?_
      refine k_get 4 X hk (wg_3 G _) rfl (hz_wsX20 _) (Nat.le_of_ble_eq_true rfl) (List.mem_cons_of_mem _ (aw_r3 _ (List.mem_of_getElem? (i := 9) rfl))) rfl dX2_isLetter_20 ?_
      refine lv_iload_n hx hb dX2_isLetter_23 rfl (lv_at hl 1 rfl) ?_
      refine k_bald X hk (wg_16 G _) hw.1 dX2_isLetter_24 ?_
      replace hw := hw.2
      refine lv_bipush (v := (122 : Int32)) hx hb dX2_isLetter_25 (by decide) ?_
      refine lv_icmp_gt (tgt := 34) hx hb dX2_isLetter_27 (by decide) (fun c3 => ?_) (fun c3 => ?_)
      · replace hw := hw.1 c3
        refine lv_iconst (v := (0 : Int32)) hx hb dX2_isLetter_34 (by decide) ?_
        exact k_zret X hk hw dX2_isLetter_35
      · replace hw := hw.2 c3
        refine lv_iconst (v := (1 : Int32)) hx hb dX2_isLetter_30 (by decide) ?_
        refine lv_goto (tgt := 35) hx hb dX2_isLetter_31 (by decide) ?_
        exact k_zret X hk hw dX2_isLetter_35
def rm_X2_readLetters : Room := { frames := 1, cells := 0, slots := 0, locals := 21 }
abbrev wz_X2_readLetters : List Cond := Cond.code yX2_readLetters cX2_readLetters 1 none :: wsA
theorem hd_X2_readLetters : yX2_readLetters.cls = RX2 ∧ yX2_readLetters.cls ≠ "java/lang/invoke/MethodHandle" ∧ yX2_readLetters.cls ≠ "java/lang/invoke/VarHandle" ∧ (parseMethodDescriptor yX2_readLetters.desc).map (fun d => d.parameters.length) = some 0 := by decide +kernel
def wp_X2_readLetters_5 (Q : Sg → Prop)  : Nat → Sg → Prop
  | 0, _ => False
  | n + 1, σ => wp_X2_isLetter σ (σ 3 5) (fun r3 σ2 => (r3 = 0 → (Q σ2)) ∧ (¬ (r3 = 0) → (((σ2 3 0) ≤ (σ2 3 5) → (Q σ2)) ∧ (¬ ((σ2 3 0) ≤ (σ2 3 5)) → (∀ σ6 : Sg, σ6 = (put σ2 3 5 ((σ2 3 5) + (1 : Int32))) → (wp_X2_readLetters_5 Q  n  σ6))))))
set_option maxHeartbeats 4000000 in
set_option maxRecDepth 100000 in
theorem t_X2_readLetters_5 {p : Program} {l : Launch} {e : Env} {s : State} {m : MethodId} {args : Array Value} {below : List Frame} {meth : Method} {c : Code} {G : Gw} (X : KC p m meth c cX2_readLetters 1 s args wz_X2_readLetters RX2 none G) (Q : Sg → Prop)  : ∀ (n : Nat) (σ : Sg) (H : Heap) (locs : List Loc) (ls : Array Slot), wp_X2_readLetters_5 Q  n  σ → WK G s H locs σ → lv_has ls 1 [(0, .ref (G.1 3))] → W p l e rm_X2_readLetters s m args below meth c H locs 0 0 (ZV below args s G Q) (F0 m 5 ls []) := by
  have hx := X.1.1
  have hb := X.1.2.1
  intro n
  induction n with
  | zero =>
    intro σ H locs ls hw hk hl
    exact False.elim hw
  | succ n ih =>
    intro σ H locs ls hw hk hl
    rw [wp_X2_readLetters_5] at hw
    refine lv_aload_n hx hb dX2_readLetters_5 rfl (lv_at hl 0 rfl) ?_
    refine lv_aload_n hx hb dX2_readLetters_6 rfl (lv_at hl 0 rfl) ?_
    refine k_get 5 X hk (wg_3 G _) rfl (hz_wsX20 _) (Nat.le_of_ble_eq_true rfl) (List.mem_cons_of_mem _ (aw_r7 _ (List.mem_of_getElem? (i := 13) rfl))) rfl dX2_readLetters_7 ?_
    refine k_callVi (rest := []) X hk (c_X2_isLetter l G _ _ _ hw) (cwV 1 X.1.2.2.2.2 (gzV (aw_r7 _ (List.mem_of_getElem? (i := 21) rfl)) (aw_r7 _ (List.mem_of_getElem? (i := 22) rfl)) (aw_r7 _ (List.mem_of_getElem? (i := 23) rfl)) (aw_r1 _ (List.mem_of_getElem? (i := 23) rfl)) (aw_r8 _ (List.mem_of_getElem? (i := 0) rfl))) rfl rfl rfl hd_X2_isLetter ⟨(Nat.le_of_ble_eq_true rfl), (Nat.le_of_ble_eq_true rfl)⟩) (wg_3 G _) rfl rfl hl.1 rfl (Nat.le_of_ble_eq_true rfl) dX2_readLetters_10 ⟨Nat.zero_le _, Nat.zero_le _⟩ (fun r3 σ2 H locs hw hk => ?_)
    refine lv_if_eq (tgt := 40) hx hb dX2_readLetters_13 (by decide) (fun c4 => ?_) (fun c4 => ?_)
    · replace hw := hw.1 c4
      exact k_vret X hk hw dX2_readLetters_40
    · replace hw := hw.2 c4
      refine lv_aload_n hx hb dX2_readLetters_16 rfl (lv_at hl 0 rfl) ?_
      refine k_get 5 X hk (wg_3 G _) rfl (hz_wsX20 _) (Nat.le_of_ble_eq_true rfl) (List.mem_cons_of_mem _ (aw_r7 _ (List.mem_of_getElem? (i := 13) rfl))) rfl dX2_readLetters_17 ?_
      refine lv_aload_n hx hb dX2_readLetters_20 rfl (lv_at hl 0 rfl) ?_
      refine k_get 0 X hk (wg_3 G _) rfl (hz_wsX20 _) (Nat.le_of_ble_eq_true rfl) (List.mem_cons_of_mem _ (aw_r5 _ (List.mem_of_getElem? (i := 18) rfl))) rfl dX2_readLetters_21 ?_
      refine lv_icmp_ge (tgt := 40) hx hb dX2_readLetters_24 (by decide) (fun c5 => ?_) (fun c5 => ?_)
      · replace hw := hw.1 c5
        exact k_vret X hk hw dX2_readLetters_40
      · replace hw := hw.2 c5
        refine lv_aload_n hx hb dX2_readLetters_27 rfl (lv_at hl 0 rfl) ?_
        refine lv_dup hx hb dX2_readLetters_28 rfl ?_
        refine k_get 5 X hk (wg_3 G _) rfl (hz_wsX20 _) (Nat.le_of_ble_eq_true rfl) (List.mem_cons_of_mem _ (aw_r7 _ (List.mem_of_getElem? (i := 13) rfl))) rfl dX2_readLetters_29 ?_
        refine lv_iconst (v := (1 : Int32)) hx hb dX2_readLetters_32 (by decide) ?_
        refine lv_iadd hx hb dX2_readLetters_33 ?_
        refine k_put 5 X hk (wg_3 G _) rfl (hz_wsX20 _) tyX2_ok nmX2 (Nat.le_of_ble_eq_true rfl) (List.mem_cons_of_mem _ (aw_r7 _ (List.mem_of_getElem? (i := 13) rfl))) rfl rfl (Nat.le_of_ble_eq_true rfl) (ws_3_5 G _ _) dX2_readLetters_34 (fun H locs hk => ?_)
        obtain ⟨σ6, eσ6⟩ : ∃ y : Sg, y = (put σ2 3 5 ((σ2 3 5) + (1 : Int32))) := ⟨_, rfl⟩
        rw [← eσ6] at hk
        replace hw := hw σ6 eσ6
        refine lv_goto (tgt := 5) hx hb dX2_readLetters_37 (by decide) ?_
        exact ih _  _ _ _ hw hk hl
def wp_X2_readLetters (σ : Sg) (Q : Sg → Prop) : Prop := ∀ σ1 : Sg, σ1 = (put σ 3 6 (1 : Int32)) → (∃ n0, wp_X2_readLetters_5 Q  n0  σ1)
set_option maxHeartbeats 4000000 in
set_option maxRecDepth 100000 in
theorem c_X2_readLetters (l : Launch) (G : Gw) (σ : Sg) (Q : Sg → Prop) (hw : wp_X2_readLetters σ  Q) : MetV l yX2_readLetters wz_X2_readLetters rm_X2_readLetters G σ [.ref (G.1 3)] Q := by
  refine MetV.of cX2_readLetters 1 none (by decide) rfl (Nat.le_of_ble_eq_true rfl) ?_
  intro p e s m below meth c X hk ls hl
  have X : KC p m meth c cX2_readLetters 1 s _ wz_X2_readLetters RX2 none G := X
  have hl : lv_has ls 1 [(0, .ref (G.1 3))] := hl
  unfold wp_X2_readLetters at hw
  have hx := X.1.1
  have hb := X.1.2.1
  refine lv_aload_n hx hb dX2_readLetters_0 rfl (lv_at hl 0 rfl) ?_
  refine lv_iconst (v := (1 : Int32)) hx hb dX2_readLetters_1 (by decide) ?_
  refine k_put 6 X hk (wg_3 G _) rfl (hz_wsX20 _) tyX2_ok nmX2 (Nat.le_of_ble_eq_true rfl) (List.mem_cons_of_mem _ (aw_r7 _ (List.mem_of_getElem? (i := 14) rfl))) rfl rfl (Nat.le_of_ble_eq_true rfl) (ws_3_6 G _ _) dX2_readLetters_2 (fun H locs hk => ?_)
  obtain ⟨σ1, eσ1⟩ : ∃ y : Sg, y = (put σ 3 6 (1 : Int32)) := ⟨_, rfl⟩
  rw [← eσ1] at hk
  replace hw := hw σ1 eσ1
  obtain ⟨n0, hw⟩ := hw
  exact t_X2_readLetters_5 X Q   n0 _  _ _ _ hw hk hl
def rm_X2_readNumber : Room := { frames := 1, cells := 0, slots := 0, locals := 21 }
abbrev wz_X2_readNumber : List Cond := Cond.code yX2_readNumber cX2_readNumber 3 none :: wsA
theorem hd_X2_readNumber : yX2_readNumber.cls = RX2 ∧ yX2_readNumber.cls ≠ "java/lang/invoke/MethodHandle" ∧ yX2_readNumber.cls ≠ "java/lang/invoke/VarHandle" ∧ (parseMethodDescriptor yX2_readNumber.desc).map (fun d => d.parameters.length) = some 0 := by decide +kernel
def wp_X2_readNumber_119 (Q : Sg → Prop)  (x1 y1 : Int32) (σ : Sg) : Prop := ∀ σ9 : Sg, σ9 = (put σ 3 6 y1) → ((x1 = 0 → (Q σ9)) ∧ (¬ (x1 = 0) → (∀ σ11 : Sg, σ11 = (put σ9 3 8 (-(σ9 3 8))) → (Q σ11))))
set_option maxHeartbeats 4000000 in
set_option maxRecDepth 100000 in
theorem t_X2_readNumber_119 {p : Program} {l : Launch} {e : Env} {s : State} {m : MethodId} {args : Array Value} {below : List Frame} {meth : Method} {c : Code} {G : Gw} (X : KC p m meth c cX2_readNumber 3 s args wz_X2_readNumber RX2 none G) (Q : Sg → Prop)  : ∀ (σ : Sg) (x1 y1 : Int32) (H : Heap) (locs : List Loc) (ls : Array Slot), wp_X2_readNumber_119 Q  x1 y1 σ → WK G s H locs σ → lv_has ls 3 [(0, .ref (G.1 3)), (1, .int x1)] → W p l e rm_X2_readNumber s m args below meth c H locs 0 0 (ZV below args s G Q) (F0 m 119 ls [.int y1, .ref (G.1 3)]) := by
  have hx := X.1.1
  have hb := X.1.2.1
  intro σ x1 y1 H locs ls hw hk hl
  unfold wp_X2_readNumber_119 at hw
  refine k_put 6 X hk (wg_3 G _) rfl (hz_wsX20 _) tyX2_ok nmX2 (Nat.le_of_ble_eq_true rfl) (List.mem_cons_of_mem _ (aw_r7 _ (List.mem_of_getElem? (i := 14) rfl))) rfl rfl (Nat.le_of_ble_eq_true rfl) (ws_3_6 G _ _) dX2_readNumber_119 (fun H locs hk => ?_)
  obtain ⟨σ9, eσ9⟩ : ∃ y : Sg, y = (put σ 3 6 y1) := ⟨_, rfl⟩
  rw [← eσ9] at hk
  replace hw := hw σ9 eσ9
  refine lv_iload_n hx hb dX2_readNumber_122 rfl (lv_at hl 1 rfl) ?_
  refine lv_if_eq (tgt := 135) hx hb dX2_readNumber_123 (by decide) (fun c10 => ?_) (fun c10 => ?_)
  · replace hw := hw.1 c10
    exact k_vret X hk hw dX2_readNumber_135
  · replace hw := hw.2 c10
    refine lv_aload_n hx hb dX2_readNumber_126 rfl (lv_at hl 0 rfl) ?_
    refine lv_aload_n hx hb dX2_readNumber_127 rfl (lv_at hl 0 rfl) ?_
    refine k_get 8 X hk (wg_3 G _) rfl (hz_wsX20 _) (Nat.le_of_ble_eq_true rfl) (List.mem_cons_of_mem _ (aw_r7 _ (List.mem_of_getElem? (i := 20) rfl))) rfl dX2_readNumber_128 ?_
    refine lv_ineg hx hb dX2_readNumber_131 ?_
    refine k_put 8 X hk (wg_3 G _) rfl (hz_wsX20 _) tyX2_ok nmX2 (Nat.le_of_ble_eq_true rfl) (List.mem_cons_of_mem _ (aw_r7 _ (List.mem_of_getElem? (i := 20) rfl))) rfl rfl (Nat.le_of_ble_eq_true rfl) (ws_3_8 G _ _) dX2_readNumber_132 (fun H locs hk => ?_)
    obtain ⟨σ11, eσ11⟩ : ∃ y : Sg, y = (put σ9 3 8 (-(σ9 3 8))) := ⟨_, rfl⟩
    rw [← eσ11] at hk
    replace hw := hw σ11 eσ11
    exact k_vret X hk hw dX2_readNumber_135
def wp_X2_readNumber_103 (Q : Sg → Prop)  (x1 x2 : Int32) (σ : Sg) : Prop := (((σ 3 5) - x2) ≤ (3 : Int32) → (wp_X2_readNumber_119 Q  x1 (2 : Int32) σ)) ∧ (¬ (((σ 3 5) - x2) ≤ (3 : Int32)) → (wp_X2_readNumber_119 Q  x1 (4 : Int32) σ))
set_option maxHeartbeats 4000000 in
set_option maxRecDepth 100000 in
theorem t_X2_readNumber_103 {p : Program} {l : Launch} {e : Env} {s : State} {m : MethodId} {args : Array Value} {below : List Frame} {meth : Method} {c : Code} {G : Gw} (X : KC p m meth c cX2_readNumber 3 s args wz_X2_readNumber RX2 none G) (Q : Sg → Prop)  : ∀ (σ : Sg) (x1 x2 : Int32) (H : Heap) (locs : List Loc) (ls : Array Slot), wp_X2_readNumber_103 Q  x1 x2 σ → WK G s H locs σ → lv_has ls 3 [(0, .ref (G.1 3)), (1, .int x1), (2, .int x2)] → W p l e rm_X2_readNumber s m args below meth c H locs 0 0 (ZV below args s G Q) (F0 m 103 ls []) := by
  have hx := X.1.1
  have hb := X.1.2.1
  intro σ x1 x2 H locs ls hw hk hl
  unfold wp_X2_readNumber_103 at hw
  refine lv_aload_n hx hb dX2_readNumber_103 rfl (lv_at hl 0 rfl) ?_
  refine lv_aload_n hx hb dX2_readNumber_104 rfl (lv_at hl 0 rfl) ?_
  refine k_get 5 X hk (wg_3 G _) rfl (hz_wsX20 _) (Nat.le_of_ble_eq_true rfl) (List.mem_cons_of_mem _ (aw_r7 _ (List.mem_of_getElem? (i := 13) rfl))) rfl dX2_readNumber_105 ?_
  refine lv_iload_n hx hb dX2_readNumber_108 rfl (lv_at hl 2 rfl) ?_
  refine lv_isub hx hb dX2_readNumber_109 ?_
  refine lv_iconst (v := (3 : Int32)) hx hb dX2_readNumber_110 (by decide) ?_
  refine lv_icmp_le (tgt := 118) hx hb dX2_readNumber_111 (by decide) (fun c8 => ?_) (fun c8 => ?_)
  · replace hw := hw.1 c8
    refine lv_iconst (v := (2 : Int32)) hx hb dX2_readNumber_118 (by decide) ?_
    exact t_X2_readNumber_119 X Q   _ _ _ _ _ _ hw hk (lv_sub hl [0, 1] rfl)
  · replace hw := hw.2 c8
    refine lv_iconst (v := (4 : Int32)) hx hb dX2_readNumber_114 (by decide) ?_
    refine lv_goto (tgt := 119) hx hb dX2_readNumber_115 (by decide) ?_
    exact t_X2_readNumber_119 X Q   _ _ _ _ _ _ hw hk (lv_sub hl [0, 1] rfl)
def wp_X2_readNumber_44 (Q : Sg → Prop)  : Nat → Int32 → Int32 → Sg → Prop
  | 0, _, _, _ => False
  | n + 1, x1, x2, σ => wp_X2_isDigit σ (σ 3 5) (fun r6 σ5 => (r6 = 0 → (wp_X2_readNumber_103 Q  x1 x2 σ5)) ∧ (¬ (r6 = 0) → (((σ5 3 0) ≤ (σ5 3 5) → (wp_X2_readNumber_103 Q  x1 x2 σ5)) ∧ (¬ ((σ5 3 0) ≤ (σ5 3 5)) → (vp_in (σ5 3 5) 400 ∧ (∀ σ13 : Sg, σ13 = (put σ5 3 8 ((((σ5 3 8) * (10 : Int32)) + (σ5 16 ((σ5 3 5)).toNatClampNeg)) - (48 : Int32))) → (∀ σ14 : Sg, σ14 = (put σ13 3 5 ((σ13 3 5) + (1 : Int32))) → (wp_X2_readNumber_44 Q  n x1 x2 σ14))))))))
set_option maxHeartbeats 4000000 in
set_option maxRecDepth 100000 in
theorem t_X2_readNumber_44 {p : Program} {l : Launch} {e : Env} {s : State} {m : MethodId} {args : Array Value} {below : List Frame} {meth : Method} {c : Code} {G : Gw} (X : KC p m meth c cX2_readNumber 3 s args wz_X2_readNumber RX2 none G) (Q : Sg → Prop)  : ∀ (n : Nat) (σ : Sg) (x1 x2 : Int32) (H : Heap) (locs : List Loc) (ls : Array Slot), wp_X2_readNumber_44 Q  n x1 x2 σ → WK G s H locs σ → lv_has ls 3 [(0, .ref (G.1 3)), (1, .int x1), (2, .int x2)] → W p l e rm_X2_readNumber s m args below meth c H locs 0 0 (ZV below args s G Q) (F0 m 44 ls []) := by
  have hx := X.1.1
  have hb := X.1.2.1
  intro n
  induction n with
  | zero =>
    intro σ x1 x2 H locs ls hw hk hl
    exact False.elim hw
  | succ n ih =>
    intro σ x1 x2 H locs ls hw hk hl
    rw [wp_X2_readNumber_44] at hw
    refine lv_aload_n hx hb dX2_readNumber_44 rfl (lv_at hl 0 rfl) ?_
    refine lv_aload_n hx hb dX2_readNumber_45 rfl (lv_at hl 0 rfl) ?_
    refine k_get 5 X hk (wg_3 G _) rfl (hz_wsX20 _) (Nat.le_of_ble_eq_true rfl) (List.mem_cons_of_mem _ (aw_r7 _ (List.mem_of_getElem? (i := 13) rfl))) rfl dX2_readNumber_46 ?_
    refine k_callVi (rest := []) X hk (c_X2_isDigit l G _ _ _ hw) (cwV 1 X.1.2.2.2.2 (gzV (aw_r8 _ (List.mem_of_getElem? (i := 5) rfl)) (aw_r8 _ (List.mem_of_getElem? (i := 6) rfl)) (aw_r8 _ (List.mem_of_getElem? (i := 7) rfl)) (aw_r1 _ (List.mem_of_getElem? (i := 23) rfl)) (aw_r8 _ (List.mem_of_getElem? (i := 8) rfl))) rfl rfl rfl hd_X2_isDigit ⟨(Nat.le_of_ble_eq_true rfl), (Nat.le_of_ble_eq_true rfl)⟩) (wg_3 G _) rfl rfl hl.1 rfl (Nat.le_of_ble_eq_true rfl) dX2_readNumber_49 ⟨Nat.zero_le _, Nat.zero_le _⟩ (fun r6 σ5 H locs hw hk => ?_)
    refine lv_if_eq (tgt := 103) hx hb dX2_readNumber_52 (by decide) (fun c7 => ?_) (fun c7 => ?_)
    · replace hw := hw.1 c7
      exact t_X2_readNumber_103 X Q   _ _ _ _ _ _ hw hk hl
    · replace hw := hw.2 c7
      refine lv_aload_n hx hb dX2_readNumber_55 rfl (lv_at hl 0 rfl) ?_
      refine k_get 5 X hk (wg_3 G _) rfl (hz_wsX20 _) (Nat.le_of_ble_eq_true rfl) (List.mem_cons_of_mem _ (aw_r7 _ (List.mem_of_getElem? (i := 13) rfl))) rfl dX2_readNumber_56 ?_
      refine lv_aload_n hx hb dX2_readNumber_59 rfl (lv_at hl 0 rfl) ?_
      refine k_get 0 X hk (wg_3 G _) rfl (hz_wsX20 _) (Nat.le_of_ble_eq_true rfl) (List.mem_cons_of_mem _ (aw_r5 _ (List.mem_of_getElem? (i := 18) rfl))) rfl dX2_readNumber_60 ?_
      refine lv_icmp_ge (tgt := 103) hx hb dX2_readNumber_63 (by decide) (fun c12 => ?_) (fun c12 => ?_)
      · replace hw := hw.1 c12
        exact t_X2_readNumber_103 X Q   _ _ _ _ _ _ hw hk hl
      · replace hw := hw.2 c12
        refine lv_aload_n hx hb dX2_readNumber_66 rfl (lv_at hl 0 rfl) ?_
        refine lv_aload_n hx hb dX2_readNumber_67 rfl (lv_at hl 0 rfl) ?_
        refine k_get 8 X hk (wg_3 G _) rfl (hz_wsX20 _) (Nat.le_of_ble_eq_true rfl) (List.mem_cons_of_mem _ (aw_r7 _ (List.mem_of_getElem? (i := 20) rfl))) rfl dX2_readNumber_68 ?_
        refine lv_bipush (v := (10 : Int32)) hx hb dX2_readNumber_71 (by decide) ?_
        refine lv_imul hx hb dX2_readNumber_73 ?_
        refine lv_aload_n hx hb dX2_readNumber_74 rfl (lv_at hl 0 rfl) ?_
        refine k_get 4 X hk (wg_3 G _) rfl (hz_wsX20 _) (Nat.le_of_ble_eq_true rfl) (List.mem_cons_of_mem _ (aw_r3 _ (List.mem_of_getElem? (i := 9) rfl))) rfl dX2_readNumber_75 ?_
        refine lv_aload_n hx hb dX2_readNumber_78 rfl (lv_at hl 0 rfl) ?_
        refine k_get 5 X hk (wg_3 G _) rfl (hz_wsX20 _) (Nat.le_of_ble_eq_true rfl) (List.mem_cons_of_mem _ (aw_r7 _ (List.mem_of_getElem? (i := 13) rfl))) rfl dX2_readNumber_79 ?_
        refine k_bald X hk (wg_16 G _) hw.1 dX2_readNumber_82 ?_
        replace hw := hw.2
        refine lv_iadd hx hb dX2_readNumber_83 ?_
        refine lv_bipush (v := (48 : Int32)) hx hb dX2_readNumber_84 (by decide) ?_
        refine lv_isub hx hb dX2_readNumber_86 ?_
        refine k_put 8 X hk (wg_3 G _) rfl (hz_wsX20 _) tyX2_ok nmX2 (Nat.le_of_ble_eq_true rfl) (List.mem_cons_of_mem _ (aw_r7 _ (List.mem_of_getElem? (i := 20) rfl))) rfl rfl (Nat.le_of_ble_eq_true rfl) (ws_3_8 G _ _) dX2_readNumber_87 (fun H locs hk => ?_)
        obtain ⟨σ13, eσ13⟩ : ∃ y : Sg, y = (put σ5 3 8 ((((σ5 3 8) * (10 : Int32)) + (σ5 16 ((σ5 3 5)).toNatClampNeg)) - (48 : Int32))) := ⟨_, rfl⟩
        rw [← eσ13] at hk
        replace hw := hw σ13 eσ13
        refine lv_aload_n hx hb dX2_readNumber_90 rfl (lv_at hl 0 rfl) ?_
        refine lv_dup hx hb dX2_readNumber_91 rfl ?_
        refine k_get 5 X hk (wg_3 G _) rfl (hz_wsX20 _) (Nat.le_of_ble_eq_true rfl) (List.mem_cons_of_mem _ (aw_r7 _ (List.mem_of_getElem? (i := 13) rfl))) rfl dX2_readNumber_92 ?_
        refine lv_iconst (v := (1 : Int32)) hx hb dX2_readNumber_95 (by decide) ?_
        refine lv_iadd hx hb dX2_readNumber_96 ?_
        refine k_put 5 X hk (wg_3 G _) rfl (hz_wsX20 _) tyX2_ok nmX2 (Nat.le_of_ble_eq_true rfl) (List.mem_cons_of_mem _ (aw_r7 _ (List.mem_of_getElem? (i := 13) rfl))) rfl rfl (Nat.le_of_ble_eq_true rfl) (ws_3_5 G _ _) dX2_readNumber_97 (fun H locs hk => ?_)
        obtain ⟨σ14, eσ14⟩ : ∃ y : Sg, y = (put σ13 3 5 ((σ13 3 5) + (1 : Int32))) := ⟨_, rfl⟩
        rw [← eσ14] at hk
        replace hw := hw σ14 eσ14
        refine lv_goto (tgt := 44) hx hb dX2_readNumber_100 (by decide) ?_
        exact ih _ _ _ _ _ _ hw hk hl
def wp_X2_readNumber_34 (Q : Sg → Prop)  (x1 : Int32) (σ : Sg) : Prop := ∀ x2_3 : Int32, x2_3 = (σ 3 5) → (∀ σ4 : Sg, σ4 = (put σ 3 8 (0 : Int32)) → (∃ n0, wp_X2_readNumber_44 Q  n0 x1 x2_3 σ4))
set_option maxHeartbeats 4000000 in
set_option maxRecDepth 100000 in
theorem t_X2_readNumber_34 {p : Program} {l : Launch} {e : Env} {s : State} {m : MethodId} {args : Array Value} {below : List Frame} {meth : Method} {c : Code} {G : Gw} (X : KC p m meth c cX2_readNumber 3 s args wz_X2_readNumber RX2 none G) (Q : Sg → Prop)  : ∀ (σ : Sg) (x1 : Int32) (H : Heap) (locs : List Loc) (ls : Array Slot), wp_X2_readNumber_34 Q  x1 σ → WK G s H locs σ → lv_has ls 3 [(0, .ref (G.1 3)), (1, .int x1)] → W p l e rm_X2_readNumber s m args below meth c H locs 0 0 (ZV below args s G Q) (F0 m 34 ls []) := by
  have hx := X.1.1
  have hb := X.1.2.1
  intro σ x1 H locs ls hw hk hl
  unfold wp_X2_readNumber_34 at hw
  refine lv_aload_n hx hb dX2_readNumber_34 rfl (lv_at hl 0 rfl) ?_
  refine k_get 5 X hk (wg_3 G _) rfl (hz_wsX20 _) (Nat.le_of_ble_eq_true rfl) (List.mem_cons_of_mem _ (aw_r7 _ (List.mem_of_getElem? (i := 13) rfl))) rfl dX2_readNumber_35 ?_
  refine lv_topi (fun x2_3 ex2_3 => ?_)
  replace hw := hw x2_3 ex2_3
  refine lv_istore_n (lv' := [(2, .int x2_3), (0, .ref (G.1 3)), (1, .int x1)]) hx hb dX2_readNumber_38 rfl hl (Nat.le_of_ble_eq_true rfl) rfl (fun ls hl => ?_)
  refine lv_aload_n hx hb dX2_readNumber_39 rfl (lv_at hl 1 rfl) ?_
  refine lv_iconst (v := (0 : Int32)) hx hb dX2_readNumber_40 (by decide) ?_
  refine k_put 8 X hk (wg_3 G _) rfl (hz_wsX20 _) tyX2_ok nmX2 (Nat.le_of_ble_eq_true rfl) (List.mem_cons_of_mem _ (aw_r7 _ (List.mem_of_getElem? (i := 20) rfl))) rfl rfl (Nat.le_of_ble_eq_true rfl) (ws_3_8 G _ _) dX2_readNumber_41 (fun H locs hk => ?_)
  obtain ⟨σ4, eσ4⟩ : ∃ y : Sg, y = (put σ 3 8 (0 : Int32)) := ⟨_, rfl⟩
  rw [← eσ4] at hk
  replace hw := hw σ4 eσ4
  obtain ⟨n0, hw⟩ := hw
  exact t_X2_readNumber_44 X Q   n0 _ _ _ _ _ _ hw hk (lv_sub hl [1, 2, 0] rfl)
def wp_X2_readNumber_19 (Q : Sg → Prop)  (y0 : Int32) (σ : Sg) : Prop := (y0 = 0 → (wp_X2_readNumber_34 Q  y0 σ)) ∧ (¬ (y0 = 0) → (∀ σ15 : Sg, σ15 = (put σ 3 5 ((σ 3 5) + (1 : Int32))) → (wp_X2_readNumber_34 Q  y0 σ15)))
set_option maxHeartbeats 4000000 in
set_option maxRecDepth 100000 in
theorem t_X2_readNumber_19 {p : Program} {l : Launch} {e : Env} {s : State} {m : MethodId} {args : Array Value} {below : List Frame} {meth : Method} {c : Code} {G : Gw} (X : KC p m meth c cX2_readNumber 3 s args wz_X2_readNumber RX2 none G) (Q : Sg → Prop)  : ∀ (σ : Sg) (y0 : Int32) (H : Heap) (locs : List Loc) (ls : Array Slot), wp_X2_readNumber_19 Q  y0 σ → WK G s H locs σ → lv_has ls 3 [(0, .ref (G.1 3))] → W p l e rm_X2_readNumber s m args below meth c H locs 0 0 (ZV below args s G Q) (F0 m 19 ls [.int y0]) := by
  have hx := X.1.1
  have hb := X.1.2.1
  intro σ y0 H locs ls hw hk hl
  unfold wp_X2_readNumber_19 at hw
  refine lv_istore_n (lv' := [(1, .int y0), (0, .ref (G.1 3))]) hx hb dX2_readNumber_19 rfl hl (Nat.le_of_ble_eq_true rfl) rfl (fun ls hl => ?_)
  refine lv_iload_n hx hb dX2_readNumber_20 rfl (lv_at hl 0 rfl) ?_
  refine lv_if_eq (tgt := 34) hx hb dX2_readNumber_21 (by decide) (fun c2 => ?_) (fun c2 => ?_)
  · replace hw := hw.1 c2
    exact t_X2_readNumber_34 X Q   _ _ _ _ _ hw hk (lv_sub hl [1, 0] rfl)
  · replace hw := hw.2 c2
    refine lv_aload_n hx hb dX2_readNumber_24 rfl (lv_at hl 1 rfl) ?_
    refine lv_dup hx hb dX2_readNumber_25 rfl ?_
    refine k_get 5 X hk (wg_3 G _) rfl (hz_wsX20 _) (Nat.le_of_ble_eq_true rfl) (List.mem_cons_of_mem _ (aw_r7 _ (List.mem_of_getElem? (i := 13) rfl))) rfl dX2_readNumber_26 ?_
    refine lv_iconst (v := (1 : Int32)) hx hb dX2_readNumber_29 (by decide) ?_
    refine lv_iadd hx hb dX2_readNumber_30 ?_
    refine k_put 5 X hk (wg_3 G _) rfl (hz_wsX20 _) tyX2_ok nmX2 (Nat.le_of_ble_eq_true rfl) (List.mem_cons_of_mem _ (aw_r7 _ (List.mem_of_getElem? (i := 13) rfl))) rfl rfl (Nat.le_of_ble_eq_true rfl) (ws_3_5 G _ _) dX2_readNumber_31 (fun H locs hk => ?_)
    obtain ⟨σ15, eσ15⟩ : ∃ y : Sg, y = (put σ 3 5 ((σ 3 5) + (1 : Int32))) := ⟨_, rfl⟩
    rw [← eσ15] at hk
    replace hw := hw σ15 eσ15
    exact t_X2_readNumber_34 X Q   _ _ _ _ _ hw hk (lv_sub hl [1, 0] rfl)
def wp_X2_readNumber (σ : Sg) (Q : Sg → Prop) : Prop := vp_in (σ 3 5) 400 ∧ (((σ 16 ((σ 3 5)).toNatClampNeg) = (45 : Int32) → (wp_X2_readNumber_19 Q  (1 : Int32) σ)) ∧ (¬ ((σ 16 ((σ 3 5)).toNatClampNeg) = (45 : Int32)) → (wp_X2_readNumber_19 Q  (0 : Int32) σ)))
set_option maxHeartbeats 4000000 in
set_option maxRecDepth 100000 in
theorem c_X2_readNumber (l : Launch) (G : Gw) (σ : Sg) (Q : Sg → Prop) (hw : wp_X2_readNumber σ  Q) : MetV l yX2_readNumber wz_X2_readNumber rm_X2_readNumber G σ [.ref (G.1 3)] Q := by
  refine MetV.of cX2_readNumber 3 none (by decide) rfl (Nat.le_of_ble_eq_true rfl) ?_
  intro p e s m below meth c X hk ls hl
  have X : KC p m meth c cX2_readNumber 3 s _ wz_X2_readNumber RX2 none G := X
  have hl : lv_has ls 3 [(0, .ref (G.1 3))] := hl
  unfold wp_X2_readNumber at hw
  have hx := X.1.1
  have hb := X.1.2.1
  refine lv_aload_n hx hb dX2_readNumber_0 rfl (lv_at hl 0 rfl) ?_
  refine k_get 4 X hk (wg_3 G _) rfl (hz_wsX20 _) (Nat.le_of_ble_eq_true rfl) (List.mem_cons_of_mem _ (aw_r3 _ (List.mem_of_getElem? (i := 9) rfl))) rfl dX2_readNumber_1 ?_
  refine lv_aload_n hx hb dX2_readNumber_4 rfl (lv_at hl 0 rfl) ?_
  refine k_get 5 X hk (wg_3 G _) rfl (hz_wsX20 _) (Nat.le_of_ble_eq_true rfl) (List.mem_cons_of_mem _ (aw_r7 _ (List.mem_of_getElem? (i := 13) rfl))) rfl dX2_readNumber_5 ?_
  refine k_bald X hk (wg_16 G _) hw.1 dX2_readNumber_8 ?_
  replace hw := hw.2
  refine lv_bipush (v := (45 : Int32)) hx hb dX2_readNumber_9 (by decide) ?_
  refine lv_icmp_ne (tgt := 18) hx hb dX2_readNumber_11 (by decide) (fun c1 => ?_) (fun c1 => ?_)
  · replace hw := hw.2 c1
    refine lv_iconst (v := (0 : Int32)) hx hb dX2_readNumber_18 (by decide) ?_
    exact t_X2_readNumber_19 X Q   _ _ _ _ _ hw hk hl
  · replace hw := hw.1 c1
    refine lv_iconst (v := (1 : Int32)) hx hb dX2_readNumber_14 (by decide) ?_
    refine lv_goto (tgt := 19) hx hb dX2_readNumber_15 (by decide) ?_
    exact t_X2_readNumber_19 X Q   _ _ _ _ _ hw hk hl
def rm_X2_readToken : Room := { frames := 2, cells := 0, slots := 0, locals := 43 }
abbrev wz_X2_readToken : List Cond := Cond.code yX2_readToken cX2_readToken 1 none :: wsA
theorem hd_X2_readToken : yX2_readToken.cls = RX2 ∧ yX2_readToken.cls ≠ "java/lang/invoke/MethodHandle" ∧ yX2_readToken.cls ≠ "java/lang/invoke/VarHandle" ∧ (parseMethodDescriptor yX2_readToken.desc).map (fun d => d.parameters.length) = some 0 := by decide +kernel
def wp_X2_readToken_135 (Q : Sg → Prop)  (σ : Sg) : Prop := wp_X2_readNumber σ  (fun σ10 => Q σ10)
set_option maxHeartbeats 4000000 in
set_option maxRecDepth 100000 in
theorem t_X2_readToken_135 {p : Program} {l : Launch} {e : Env} {s : State} {m : MethodId} {args : Array Value} {below : List Frame} {meth : Method} {c : Code} {G : Gw} (X : KC p m meth c cX2_readToken 1 s args wz_X2_readToken RX2 none G) (Q : Sg → Prop)  : ∀ (σ : Sg) (H : Heap) (locs : List Loc) (ls : Array Slot), wp_X2_readToken_135 Q   σ → WK G s H locs σ → lv_has ls 1 [(0, .ref (G.1 3))] → W p l e rm_X2_readToken s m args below meth c H locs 0 0 (ZV below args s G Q) (F0 m 135 ls []) := by
  have hx := X.1.1
  have hb := X.1.2.1
  intro σ H locs ls hw hk hl
  unfold wp_X2_readToken_135 at hw
  refine lv_aload_n hx hb dX2_readToken_135 rfl (lv_at hl 0 rfl) ?_
  refine k_callVv (rest := []) X hk (c_X2_readNumber l G _  _ hw) (cwV 0 X.1.2.2.2.2 (gzV (aw_r8 _ (List.mem_of_getElem? (i := 9) rfl)) (aw_r8 _ (List.mem_of_getElem? (i := 10) rfl)) (aw_r8 _ (List.mem_of_getElem? (i := 11) rfl)) (aw_r1 _ (List.mem_of_getElem? (i := 23) rfl)) (aw_r8 _ (List.mem_of_getElem? (i := 12) rfl))) rfl rfl rfl hd_X2_readNumber ⟨(Nat.le_of_ble_eq_true rfl), (Nat.le_of_ble_eq_true rfl)⟩) (wg_3 G _) rfl rfl hl.1 rfl (Nat.le_of_ble_eq_true rfl) dX2_readToken_136 ⟨Nat.zero_le _, Nat.zero_le _⟩ (fun σ10 H locs hw hk => ?_)
  refine lv_goto (tgt := 170) hx hb dX2_readToken_139 (by decide) ?_
  exact k_vret X hk hw dX2_readToken_170
def wp_X2_readToken_142 (Q : Sg → Prop)  (σ : Sg) : Prop := ∀ σ13 : Sg, σ13 = (put σ 3 6 (3 : Int32)) → (vp_in (σ13 3 5) 400 ∧ (∀ σ14 : Sg, σ14 = (put σ13 3 8 (σ13 16 ((σ13 3 5)).toNatClampNeg)) → (∀ σ15 : Sg, σ15 = (put σ14 3 5 ((σ14 3 5) + (1 : Int32))) → (Q σ15))))
set_option maxHeartbeats 4000000 in
set_option maxRecDepth 100000 in
theorem t_X2_readToken_142 {p : Program} {l : Launch} {e : Env} {s : State} {m : MethodId} {args : Array Value} {below : List Frame} {meth : Method} {c : Code} {G : Gw} (X : KC p m meth c cX2_readToken 1 s args wz_X2_readToken RX2 none G) (Q : Sg → Prop)  : ∀ (σ : Sg) (H : Heap) (locs : List Loc) (ls : Array Slot), wp_X2_readToken_142 Q   σ → WK G s H locs σ → lv_has ls 1 [(0, .ref (G.1 3))] → W p l e rm_X2_readToken s m args below meth c H locs 0 0 (ZV below args s G Q) (F0 m 142 ls []) := by
  have hx := X.1.1
  have hb := X.1.2.1
  intro σ H locs ls hw hk hl
  unfold wp_X2_readToken_142 at hw
  refine lv_aload_n hx hb dX2_readToken_142 rfl (lv_at hl 0 rfl) ?_
  refine lv_iconst (v := (3 : Int32)) hx hb dX2_readToken_143 (by decide) ?_
  refine k_put 6 X hk (wg_3 G _) rfl (hz_wsX20 _) tyX2_ok nmX2 (Nat.le_of_ble_eq_true rfl) (List.mem_cons_of_mem _ (aw_r7 _ (List.mem_of_getElem? (i := 14) rfl))) rfl rfl (Nat.le_of_ble_eq_true rfl) (ws_3_6 G _ _) dX2_readToken_144 (fun H locs hk => ?_)
  obtain ⟨σ13, eσ13⟩ : ∃ y : Sg, y = (put σ 3 6 (3 : Int32)) := ⟨_, rfl⟩
  rw [← eσ13] at hk
  replace hw := hw σ13 eσ13
  refine lv_aload_n hx hb dX2_readToken_147 rfl (lv_at hl 0 rfl) ?_
  refine lv_aload_n hx hb dX2_readToken_148 rfl (lv_at hl 0 rfl) ?_
  refine k_get 4 X hk (wg_3 G _) rfl (hz_wsX20 _) (Nat.le_of_ble_eq_true rfl) (List.mem_cons_of_mem _ (aw_r3 _ (List.mem_of_getElem? (i := 9) rfl))) rfl dX2_readToken_149 ?_
  refine lv_aload_n hx hb dX2_readToken_152 rfl (lv_at hl 0 rfl) ?_
  refine k_get 5 X hk (wg_3 G _) rfl (hz_wsX20 _) (Nat.le_of_ble_eq_true rfl) (List.mem_cons_of_mem _ (aw_r7 _ (List.mem_of_getElem? (i := 13) rfl))) rfl dX2_readToken_153 ?_
  refine k_bald X hk (wg_16 G _) hw.1 dX2_readToken_156 ?_
  replace hw := hw.2
  refine k_put 8 X hk (wg_3 G _) rfl (hz_wsX20 _) tyX2_ok nmX2 (Nat.le_of_ble_eq_true rfl) (List.mem_cons_of_mem _ (aw_r7 _ (List.mem_of_getElem? (i := 20) rfl))) rfl rfl (Nat.le_of_ble_eq_true rfl) (ws_3_8 G _ _) dX2_readToken_157 (fun H locs hk => ?_)
  obtain ⟨σ14, eσ14⟩ : ∃ y : Sg, y = (put σ13 3 8 (σ13 16 ((σ13 3 5)).toNatClampNeg)) := ⟨_, rfl⟩
  rw [← eσ14] at hk
  replace hw := hw σ14 eσ14
  refine lv_aload_n hx hb dX2_readToken_160 rfl (lv_at hl 0 rfl) ?_
  refine lv_dup hx hb dX2_readToken_161 rfl ?_
  refine k_get 5 X hk (wg_3 G _) rfl (hz_wsX20 _) (Nat.le_of_ble_eq_true rfl) (List.mem_cons_of_mem _ (aw_r7 _ (List.mem_of_getElem? (i := 13) rfl))) rfl dX2_readToken_162 ?_
  refine lv_iconst (v := (1 : Int32)) hx hb dX2_readToken_165 (by decide) ?_
  refine lv_iadd hx hb dX2_readToken_166 ?_
  refine k_put 5 X hk (wg_3 G _) rfl (hz_wsX20 _) tyX2_ok nmX2 (Nat.le_of_ble_eq_true rfl) (List.mem_cons_of_mem _ (aw_r7 _ (List.mem_of_getElem? (i := 13) rfl))) rfl rfl (Nat.le_of_ble_eq_true rfl) (ws_3_5 G _ _) dX2_readToken_167 (fun H locs hk => ?_)
  obtain ⟨σ15, eσ15⟩ : ∃ y : Sg, y = (put σ14 3 5 ((σ14 3 5) + (1 : Int32))) := ⟨_, rfl⟩
  rw [← eσ15] at hk
  replace hw := hw σ15 eσ15
  exact k_vret X hk hw dX2_readToken_170
def wp_X2_readToken_52 (Q : Sg → Prop)  (σ : Sg) : Prop := ∀ σ2 : Sg, σ2 = (put σ 3 7 (σ 3 5)) → (((σ2 3 5) < (σ2 3 0) → (wp_X2_isLetter σ2 (σ2 3 5) (fun r5 σ4 => (r5 = 0 → (wp_X2_isDigit σ4 (σ4 3 5) (fun r8 σ7 => (r8 = 0 → (vp_in (σ7 3 5) 400 ∧ (((σ7 16 ((σ7 3 5)).toNatClampNeg) = (45 : Int32) → (wp_X2_isDigit σ7 ((σ7 3 5) + (1 : Int32)) (fun r17 σ16 => (r17 = 0 → (wp_X2_readToken_142 Q   σ16)) ∧ (¬ (r17 = 0) → (wp_X2_readToken_135 Q   σ16))))) ∧ (¬ ((σ7 16 ((σ7 3 5)).toNatClampNeg) = (45 : Int32)) → (wp_X2_readToken_142 Q   σ7))))) ∧ (¬ (r8 = 0) → (wp_X2_readToken_135 Q   σ7))))) ∧ (¬ (r5 = 0) → (wp_X2_readLetters σ4  (fun σ19 => Q σ19)))))) ∧ (¬ ((σ2 3 5) < (σ2 3 0)) → (∀ σ21 : Sg, σ21 = (put σ2 3 6 (0 : Int32)) → (Q σ21))))
set_option maxHeartbeats 4000000 in
set_option maxRecDepth 100000 in
theorem t_X2_readToken_52 {p : Program} {l : Launch} {e : Env} {s : State} {m : MethodId} {args : Array Value} {below : List Frame} {meth : Method} {c : Code} {G : Gw} (X : KC p m meth c cX2_readToken 1 s args wz_X2_readToken RX2 none G) (Q : Sg → Prop)  : ∀ (σ : Sg) (H : Heap) (locs : List Loc) (ls : Array Slot), wp_X2_readToken_52 Q   σ → WK G s H locs σ → lv_has ls 1 [(0, .ref (G.1 3))] → W p l e rm_X2_readToken s m args below meth c H locs 0 0 (ZV below args s G Q) (F0 m 52 ls []) := by
  have hx := X.1.1
  have hb := X.1.2.1
  intro σ H locs ls hw hk hl
  unfold wp_X2_readToken_52 at hw
  refine lv_aload_n hx hb dX2_readToken_52 rfl (lv_at hl 0 rfl) ?_
  refine lv_aload_n hx hb dX2_readToken_53 rfl (lv_at hl 0 rfl) ?_
  refine k_get 5 X hk (wg_3 G _) rfl (hz_wsX20 _) (Nat.le_of_ble_eq_true rfl) (List.mem_cons_of_mem _ (aw_r7 _ (List.mem_of_getElem? (i := 13) rfl))) rfl dX2_readToken_54 ?_
  refine k_put 7 X hk (wg_3 G _) rfl (hz_wsX20 _) tyX2_ok nmX2 (Nat.le_of_ble_eq_true rfl) (List.mem_cons_of_mem _ (aw_r7 _ (List.mem_of_getElem? (i := 19) rfl))) rfl rfl (Nat.le_of_ble_eq_true rfl) (ws_3_7 G _ _) dX2_readToken_57 (fun H locs hk => ?_)
  obtain ⟨σ2, eσ2⟩ : ∃ y : Sg, y = (put σ 3 7 (σ 3 5)) := ⟨_, rfl⟩
  rw [← eσ2] at hk
  replace hw := hw σ2 eσ2
  refine lv_aload_n hx hb dX2_readToken_60 rfl (lv_at hl 0 rfl) ?_
  refine k_get 5 X hk (wg_3 G _) rfl (hz_wsX20 _) (Nat.le_of_ble_eq_true rfl) (List.mem_cons_of_mem _ (aw_r7 _ (List.mem_of_getElem? (i := 13) rfl))) rfl dX2_readToken_61 ?_
  refine lv_aload_n hx hb dX2_readToken_64 rfl (lv_at hl 0 rfl) ?_
  refine k_get 0 X hk (wg_3 G _) rfl (hz_wsX20 _) (Nat.le_of_ble_eq_true rfl) (List.mem_cons_of_mem _ (aw_r5 _ (List.mem_of_getElem? (i := 18) rfl))) rfl dX2_readToken_65 ?_
  refine lv_icmp_lt (tgt := 79) hx hb dX2_readToken_68 (by decide) (fun c3 => ?_) (fun c3 => ?_)
  · replace hw := hw.1 c3
    refine lv_aload_n hx hb dX2_readToken_79 rfl (lv_at hl 0 rfl) ?_
    refine lv_aload_n hx hb dX2_readToken_80 rfl (lv_at hl 0 rfl) ?_
    refine k_get 5 X hk (wg_3 G _) rfl (hz_wsX20 _) (Nat.le_of_ble_eq_true rfl) (List.mem_cons_of_mem _ (aw_r7 _ (List.mem_of_getElem? (i := 13) rfl))) rfl dX2_readToken_81 ?_
    refine k_callVi (rest := []) X hk (c_X2_isLetter l G _ _ _ hw) (cwV 1 X.1.2.2.2.2 (gzV (aw_r7 _ (List.mem_of_getElem? (i := 21) rfl)) (aw_r7 _ (List.mem_of_getElem? (i := 22) rfl)) (aw_r7 _ (List.mem_of_getElem? (i := 23) rfl)) (aw_r1 _ (List.mem_of_getElem? (i := 23) rfl)) (aw_r8 _ (List.mem_of_getElem? (i := 0) rfl))) rfl rfl rfl hd_X2_isLetter ⟨(Nat.le_of_ble_eq_true rfl), (Nat.le_of_ble_eq_true rfl)⟩) (wg_3 G _) rfl rfl hl.1 rfl (Nat.le_of_ble_eq_true rfl) dX2_readToken_84 ⟨Nat.zero_le _, Nat.zero_le _⟩ (fun r5 σ4 H locs hw hk => ?_)
    refine lv_if_eq (tgt := 97) hx hb dX2_readToken_87 (by decide) (fun c6 => ?_) (fun c6 => ?_)
    · replace hw := hw.1 c6
      refine lv_aload_n hx hb dX2_readToken_97 rfl (lv_at hl 0 rfl) ?_
      refine lv_aload_n hx hb dX2_readToken_98 rfl (lv_at hl 0 rfl) ?_
      refine k_get 5 X hk (wg_3 G _) rfl (hz_wsX20 _) (Nat.le_of_ble_eq_true rfl) (List.mem_cons_of_mem _ (aw_r7 _ (List.mem_of_getElem? (i := 13) rfl))) rfl dX2_readToken_99 ?_
      refine k_callVi (rest := []) X hk (c_X2_isDigit l G _ _ _ hw) (cwV 1 X.1.2.2.2.2 (gzV (aw_r8 _ (List.mem_of_getElem? (i := 5) rfl)) (aw_r8 _ (List.mem_of_getElem? (i := 6) rfl)) (aw_r8 _ (List.mem_of_getElem? (i := 7) rfl)) (aw_r1 _ (List.mem_of_getElem? (i := 23) rfl)) (aw_r8 _ (List.mem_of_getElem? (i := 8) rfl))) rfl rfl rfl hd_X2_isDigit ⟨(Nat.le_of_ble_eq_true rfl), (Nat.le_of_ble_eq_true rfl)⟩) (wg_3 G _) rfl rfl hl.1 rfl (Nat.le_of_ble_eq_true rfl) dX2_readToken_102 ⟨Nat.zero_le _, Nat.zero_le _⟩ (fun r8 σ7 H locs hw hk => ?_)
      refine lv_if_ne (tgt := 135) hx hb dX2_readToken_105 (by decide) (fun c9 => ?_) (fun c9 => ?_)
      · replace hw := hw.2 c9
        exact t_X2_readToken_135 X Q   _  _ _ _ hw hk hl
      · replace hw := hw.1 c9
        refine lv_aload_n hx hb dX2_readToken_108 rfl (lv_at hl 0 rfl) ?_
        refine k_get 4 X hk (wg_3 G _) rfl (hz_wsX20 _) (Nat.le_of_ble_eq_true rfl) (List.mem_cons_of_mem _ (aw_r3 _ (List.mem_of_getElem? (i := 9) rfl))) rfl dX2_readToken_109 ?_
        refine lv_aload_n hx hb dX2_readToken_112 rfl (lv_at hl 0 rfl) ?_
        refine k_get 5 X hk (wg_3 G _) rfl (hz_wsX20 _) (Nat.le_of_ble_eq_true rfl) (List.mem_cons_of_mem _ (aw_r7 _ (List.mem_of_getElem? (i := 13) rfl))) rfl dX2_readToken_113 ?_
        refine k_bald X hk (wg_16 G _) hw.1 dX2_readToken_116 ?_
        replace hw := hw.2
        refine lv_bipush (v := (45 : Int32)) hx hb dX2_readToken_117 (by decide) ?_
        refine lv_icmp_ne (tgt := 142) hx hb dX2_readToken_119 (by decide) (fun c12 => ?_) (fun c12 => ?_)
        · replace hw := hw.2 c12
          exact t_X2_readToken_142 X Q   _  _ _ _ hw hk hl
        · replace hw := hw.1 c12
          refine lv_aload_n hx hb dX2_readToken_122 rfl (lv_at hl 0 rfl) ?_
          refine lv_aload_n hx hb dX2_readToken_123 rfl (lv_at hl 0 rfl) ?_
          refine k_get 5 X hk (wg_3 G _) rfl (hz_wsX20 _) (Nat.le_of_ble_eq_true rfl) (List.mem_cons_of_mem _ (aw_r7 _ (List.mem_of_getElem? (i := 13) rfl))) rfl dX2_readToken_124 ?_
          refine lv_iconst (v := (1 : Int32)) hx hb dX2_readToken_127 (by decide) ?_
          refine lv_iadd hx hb dX2_readToken_128 ?_
          refine k_callVi (rest := []) X hk (c_X2_isDigit l G _ _ _ hw) (cwV 1 X.1.2.2.2.2 (gzV (aw_r8 _ (List.mem_of_getElem? (i := 5) rfl)) (aw_r8 _ (List.mem_of_getElem? (i := 6) rfl)) (aw_r8 _ (List.mem_of_getElem? (i := 7) rfl)) (aw_r1 _ (List.mem_of_getElem? (i := 23) rfl)) (aw_r8 _ (List.mem_of_getElem? (i := 8) rfl))) rfl rfl rfl hd_X2_isDigit ⟨(Nat.le_of_ble_eq_true rfl), (Nat.le_of_ble_eq_true rfl)⟩) (wg_3 G _) rfl rfl hl.1 rfl (Nat.le_of_ble_eq_true rfl) dX2_readToken_129 ⟨Nat.zero_le _, Nat.zero_le _⟩ (fun r17 σ16 H locs hw hk => ?_)
          refine lv_if_eq (tgt := 142) hx hb dX2_readToken_132 (by decide) (fun c18 => ?_) (fun c18 => ?_)
          · replace hw := hw.1 c18
            exact t_X2_readToken_142 X Q   _  _ _ _ hw hk hl
          · replace hw := hw.2 c18
            exact t_X2_readToken_135 X Q   _  _ _ _ hw hk hl
    · replace hw := hw.2 c6
      refine lv_aload_n hx hb dX2_readToken_90 rfl (lv_at hl 0 rfl) ?_
      refine k_callVv (rest := []) X hk (c_X2_readLetters l G _  _ hw) (cwV 0 X.1.2.2.2.2 (gzV (aw_r8 _ (List.mem_of_getElem? (i := 1) rfl)) (aw_r8 _ (List.mem_of_getElem? (i := 2) rfl)) (aw_r8 _ (List.mem_of_getElem? (i := 3) rfl)) (aw_r1 _ (List.mem_of_getElem? (i := 23) rfl)) (aw_r8 _ (List.mem_of_getElem? (i := 4) rfl))) rfl rfl rfl hd_X2_readLetters ⟨(Nat.le_of_ble_eq_true rfl), (Nat.le_of_ble_eq_true rfl)⟩) (wg_3 G _) rfl rfl hl.1 rfl (Nat.le_of_ble_eq_true rfl) dX2_readToken_91 ⟨Nat.zero_le _, Nat.zero_le _⟩ (fun σ19 H locs hw hk => ?_)
      refine lv_goto (tgt := 170) hx hb dX2_readToken_94 (by decide) ?_
      exact k_vret X hk hw dX2_readToken_170
  · replace hw := hw.2 c3
    refine lv_aload_n hx hb dX2_readToken_71 rfl (lv_at hl 0 rfl) ?_
    refine lv_iconst (v := (0 : Int32)) hx hb dX2_readToken_72 (by decide) ?_
    refine k_put 6 X hk (wg_3 G _) rfl (hz_wsX20 _) tyX2_ok nmX2 (Nat.le_of_ble_eq_true rfl) (List.mem_cons_of_mem _ (aw_r7 _ (List.mem_of_getElem? (i := 14) rfl))) rfl rfl (Nat.le_of_ble_eq_true rfl) (ws_3_6 G _ _) dX2_readToken_73 (fun H locs hk => ?_)
    obtain ⟨σ21, eσ21⟩ : ∃ y : Sg, y = (put σ2 3 6 (0 : Int32)) := ⟨_, rfl⟩
    rw [← eσ21] at hk
    replace hw := hw σ21 eσ21
    refine lv_goto (tgt := 170) hx hb dX2_readToken_76 (by decide) ?_
    exact k_vret X hk hw dX2_readToken_170
def wp_X2_readToken_39 (Q : Sg → Prop) (K0 : Sg → Prop) (σ : Sg) : Prop := ∀ σ23 : Sg, σ23 = (put σ 3 5 ((σ 3 5) + (1 : Int32))) → (K0  σ23)
set_option maxHeartbeats 4000000 in
set_option maxRecDepth 100000 in
theorem t_X2_readToken_39 {p : Program} {l : Launch} {e : Env} {s : State} {m : MethodId} {args : Array Value} {below : List Frame} {meth : Method} {c : Code} {G : Gw} (X : KC p m meth c cX2_readToken 1 s args wz_X2_readToken RX2 none G) (Q : Sg → Prop) (K0 : Sg → Prop) (hK0 : ∀ (σ : Sg) (H : Heap) (locs : List Loc) (ls : Array Slot), K0  σ → WK G s H locs σ → lv_has ls 1 [(0, .ref (G.1 3))] → W p l e rm_X2_readToken s m args below meth c H locs 0 0 (ZV below args s G Q) (F0 m 0 ls [])) : ∀ (σ : Sg) (H : Heap) (locs : List Loc) (ls : Array Slot), wp_X2_readToken_39 Q K0  σ → WK G s H locs σ → lv_has ls 1 [(0, .ref (G.1 3))] → W p l e rm_X2_readToken s m args below meth c H locs 0 0 (ZV below args s G Q) (F0 m 39 ls []) := by
  have hx := X.1.1
  have hb := X.1.2.1
  intro σ H locs ls hw hk hl
  unfold wp_X2_readToken_39 at hw
  refine lv_aload_n hx hb dX2_readToken_39 rfl (lv_at hl 0 rfl) ?_
  refine lv_dup hx hb dX2_readToken_40 rfl ?_
  refine k_get 5 X hk (wg_3 G _) rfl (hz_wsX20 _) (Nat.le_of_ble_eq_true rfl) (List.mem_cons_of_mem _ (aw_r7 _ (List.mem_of_getElem? (i := 13) rfl))) rfl dX2_readToken_41 ?_
  refine lv_iconst (v := (1 : Int32)) hx hb dX2_readToken_44 (by decide) ?_
  refine lv_iadd hx hb dX2_readToken_45 ?_
  refine k_put 5 X hk (wg_3 G _) rfl (hz_wsX20 _) tyX2_ok nmX2 (Nat.le_of_ble_eq_true rfl) (List.mem_cons_of_mem _ (aw_r7 _ (List.mem_of_getElem? (i := 13) rfl))) rfl rfl (Nat.le_of_ble_eq_true rfl) (ws_3_5 G _ _) dX2_readToken_46 (fun H locs hk => ?_)
  obtain ⟨σ23, eσ23⟩ : ∃ y : Sg, y = (put σ 3 5 ((σ 3 5) + (1 : Int32))) := ⟨_, rfl⟩
  rw [← eσ23] at hk
  replace hw := hw σ23 eσ23
  refine lv_goto (tgt := 0) hx hb dX2_readToken_49 (by decide) ?_
  exact hK0 _  _ _ _ hw hk hl
def wp_X2_readToken_0 (Q : Sg → Prop)  : Nat → Sg → Prop
  | 0, _ => False
  | n + 1, σ => ((σ 3 0) ≤ (σ 3 5) → (wp_X2_readToken_52 Q   σ)) ∧ (¬ ((σ 3 0) ≤ (σ 3 5)) → (vp_in (σ 3 5) 400 ∧ (((σ 16 ((σ 3 5)).toNatClampNeg) = (32 : Int32) → (wp_X2_readToken_39 Q (fun σ => wp_X2_readToken_0 Q  n σ)  σ)) ∧ (¬ ((σ 16 ((σ 3 5)).toNatClampNeg) = (32 : Int32)) → (vp_in (σ 3 5) 400 ∧ (((σ 16 ((σ 3 5)).toNatClampNeg) = (10 : Int32) → (wp_X2_readToken_39 Q (fun σ => wp_X2_readToken_0 Q  n σ)  σ)) ∧ (¬ ((σ 16 ((σ 3 5)).toNatClampNeg) = (10 : Int32)) → (wp_X2_readToken_52 Q   σ))))))))
set_option maxHeartbeats 4000000 in
set_option maxRecDepth 100000 in
theorem t_X2_readToken_0 {p : Program} {l : Launch} {e : Env} {s : State} {m : MethodId} {args : Array Value} {below : List Frame} {meth : Method} {c : Code} {G : Gw} (X : KC p m meth c cX2_readToken 1 s args wz_X2_readToken RX2 none G) (Q : Sg → Prop)  : ∀ (n : Nat) (σ : Sg) (H : Heap) (locs : List Loc) (ls : Array Slot), wp_X2_readToken_0 Q  n  σ → WK G s H locs σ → lv_has ls 1 [(0, .ref (G.1 3))] → W p l e rm_X2_readToken s m args below meth c H locs 0 0 (ZV below args s G Q) (F0 m 0 ls []) := by
  have hx := X.1.1
  have hb := X.1.2.1
  intro n
  induction n with
  | zero =>
    intro σ H locs ls hw hk hl
    exact False.elim hw
  | succ n ih =>
    intro σ H locs ls hw hk hl
    rw [wp_X2_readToken_0] at hw
    refine lv_aload_n hx hb dX2_readToken_0 rfl (lv_at hl 0 rfl) ?_
    refine k_get 5 X hk (wg_3 G _) rfl (hz_wsX20 _) (Nat.le_of_ble_eq_true rfl) (List.mem_cons_of_mem _ (aw_r7 _ (List.mem_of_getElem? (i := 13) rfl))) rfl dX2_readToken_1 ?_
    refine lv_aload_n hx hb dX2_readToken_4 rfl (lv_at hl 0 rfl) ?_
    refine k_get 0 X hk (wg_3 G _) rfl (hz_wsX20 _) (Nat.le_of_ble_eq_true rfl) (List.mem_cons_of_mem _ (aw_r5 _ (List.mem_of_getElem? (i := 18) rfl))) rfl dX2_readToken_5 ?_
    refine lv_icmp_ge (tgt := 52) hx hb dX2_readToken_8 (by decide) (fun c1 => ?_) (fun c1 => ?_)
    · replace hw := hw.1 c1
      exact t_X2_readToken_52 X Q   _  _ _ _ hw hk hl
    · replace hw := hw.2 c1
      refine lv_aload_n hx hb dX2_readToken_11 rfl (lv_at hl 0 rfl) ?_
      refine k_get 4 X hk (wg_3 G _) rfl (hz_wsX20 _) (Nat.le_of_ble_eq_true rfl) (List.mem_cons_of_mem _ (aw_r3 _ (List.mem_of_getElem? (i := 9) rfl))) rfl dX2_readToken_12 ?_
      refine lv_aload_n hx hb dX2_readToken_15 rfl (lv_at hl 0 rfl) ?_
      refine k_get 5 X hk (wg_3 G _) rfl (hz_wsX20 _) (Nat.le_of_ble_eq_true rfl) (List.mem_cons_of_mem _ (aw_r7 _ (List.mem_of_getElem? (i := 13) rfl))) rfl dX2_readToken_16 ?_
      refine k_bald X hk (wg_16 G _) hw.1 dX2_readToken_19 ?_
      replace hw := hw.2
      refine lv_bipush (v := (32 : Int32)) hx hb dX2_readToken_20 (by decide) ?_
      refine lv_icmp_eq (tgt := 39) hx hb dX2_readToken_22 (by decide) (fun c22 => ?_) (fun c22 => ?_)
      · replace hw := hw.1 c22
        exact t_X2_readToken_39 X Q _ ih _  _ _ _ hw hk hl
      · replace hw := hw.2 c22
        refine lv_aload_n hx hb dX2_readToken_25 rfl (lv_at hl 0 rfl) ?_
        refine k_get 4 X hk (wg_3 G _) rfl (hz_wsX20 _) (Nat.le_of_ble_eq_true rfl) (List.mem_cons_of_mem _ (aw_r3 _ (List.mem_of_getElem? (i := 9) rfl))) rfl dX2_readToken_26 ?_
        refine lv_aload_n hx hb dX2_readToken_29 rfl (lv_at hl 0 rfl) ?_
        refine k_get 5 X hk (wg_3 G _) rfl (hz_wsX20 _) (Nat.le_of_ble_eq_true rfl) (List.mem_cons_of_mem _ (aw_r7 _ (List.mem_of_getElem? (i := 13) rfl))) rfl dX2_readToken_30 ?_
        refine k_bald X hk (wg_16 G _) hw.1 dX2_readToken_33 ?_
        replace hw := hw.2
        refine lv_bipush (v := (10 : Int32)) hx hb dX2_readToken_34 (by decide) ?_
        refine lv_icmp_ne (tgt := 52) hx hb dX2_readToken_36 (by decide) (fun c24 => ?_) (fun c24 => ?_)
        · replace hw := hw.2 c24
          exact t_X2_readToken_52 X Q   _  _ _ _ hw hk hl
        · replace hw := hw.1 c24
          exact t_X2_readToken_39 X Q _ ih _  _ _ _ hw hk hl
def wp_X2_readToken (σ : Sg) (Q : Sg → Prop) : Prop := ∃ n0, wp_X2_readToken_0 Q  n0  σ
set_option maxHeartbeats 4000000 in
set_option maxRecDepth 100000 in
theorem c_X2_readToken (l : Launch) (G : Gw) (σ : Sg) (Q : Sg → Prop) (hw : wp_X2_readToken σ  Q) : MetV l yX2_readToken wz_X2_readToken rm_X2_readToken G σ [.ref (G.1 3)] Q := by
  refine MetV.of cX2_readToken 1 none (by decide) rfl (Nat.le_of_ble_eq_true rfl) ?_
  intro p e s m below meth c X hk ls hl
  have X : KC p m meth c cX2_readToken 1 s _ wz_X2_readToken RX2 none G := X
  have hl : lv_has ls 1 [(0, .ref (G.1 3))] := hl
  unfold wp_X2_readToken at hw
  have hx := X.1.1
  have hb := X.1.2.1
  obtain ⟨n0, hw⟩ := hw
  exact t_X2_readToken_0 X Q   n0 _  _ _ _ hw hk hl
def rm_X2_isWord : Room := { frames := 4, cells := 0, slots := 0, locals := 85 }
abbrev wz_X2_isWord : List Cond := Cond.code yX2_isWord cX2_isWord 3 (some .boolean) :: wsA
theorem hd_X2_isWord : yX2_isWord.cls = RX2 ∧ yX2_isWord.cls ≠ "java/lang/invoke/MethodHandle" ∧ yX2_isWord.cls ≠ "java/lang/invoke/VarHandle" ∧ (parseMethodDescriptor yX2_isWord.desc).map (fun d => d.parameters.length) = some 1 := by decide +kernel
def wp_X2_isWord_28 (w : Nat) (Q : Int32 → Sg → Prop)  : Nat → Int32 → Sg → Prop
  | 0, _, _ => False
  | n + 1, x2, σ => w < 7 ∧ (((nI (lenS.getD w 0)) ≤ x2 → (bz (1 : Int32) ∧ Q (1 : Int32) σ)) ∧ (¬ ((nI (lenS.getD w 0)) ≤ x2) → (vp_in ((σ 3 7) + x2) 400 ∧ (w < 7 ∧ vp_in x2 (lenS.getD w 0) ∧ (((σ 16 (((σ 3 7) + x2)).toNatClampNeg) = ((bytS.getD w []).getD (x2).toNatClampNeg 0) → (∀ x2_11 : Int32, x2_11 = (x2 + (1 : Int32)) → (wp_X2_isWord_28 w Q  n x2_11 σ))) ∧ (¬ ((σ 16 (((σ 3 7) + x2)).toNatClampNeg) = ((bytS.getD w []).getD (x2).toNatClampNeg 0)) → (bz (0 : Int32) ∧ Q (0 : Int32) σ)))))))
set_option maxHeartbeats 4000000 in
set_option maxRecDepth 100000 in
theorem t_X2_isWord_28 {p : Program} {l : Launch} {e : Env} {s : State} {m : MethodId} {args : Array Value} {below : List Frame} {meth : Method} {c : Code} {G : Gw} (X : KC p m meth c cX2_isWord 3 s args wz_X2_isWord RX2 (some .boolean) G) (w : Nat) (Q : Int32 → Sg → Prop)  : ∀ (n : Nat) (σ : Sg) (x2 : Int32) (H : Heap) (locs : List Loc) (ls : Array Slot), wp_X2_isWord_28 w Q  n x2 σ → WK G s H locs σ → lv_has ls 3 [(0, .ref (G.1 3)), (1, .ref (G.2.2.2.1 w)), (2, .int x2)] → W p l e rm_X2_isWord s m args below meth c H locs 0 0 (ZI below args s G Q) (F0 m 28 ls []) := by
  have hx := X.1.1
  have hb := X.1.2.1
  intro n
  induction n with
  | zero =>
    intro σ x2 H locs ls hw hk hl
    exact False.elim hw
  | succ n ih =>
    intro σ x2 H locs ls hw hk hl
    rw [wp_X2_isWord_28] at hw
    refine lv_iload_n hx hb dX2_isWord_28 rfl (lv_at hl 2 rfl) ?_
    refine lv_aload_n hx hb dX2_isWord_29 rfl (lv_at hl 1 rfl) ?_
    refine k_callTi (rest := [.int x2]) X hk (c_length l G _ w hw.1 (fun r τ => r = (nI (lenS.getD w 0)) ∧ τ = σ) ⟨rfl, rfl⟩) (cwV 0 X.1.2.2.2.2 (gzV (aw_r9 _ (List.mem_of_getElem? (i := 1) rfl)) (aw_r9 _ (List.mem_of_getElem? (i := 2) rfl)) (aw_r9 _ (List.mem_of_getElem? (i := 3) rfl)) (aw_r9 _ (List.mem_of_getElem? (i := 4) rfl)) (aw_r9 _ (List.mem_of_getElem? (i := 5) rfl))) rfl rfl rfl hd_length ⟨(Nat.le_of_ble_eq_true rfl), (Nat.le_of_ble_eq_true rfl)⟩) (vk_recv X.2.2.2.1 hw.1 hk.2.2.2) rfl hl.1 rfl (Nat.le_of_ble_eq_true rfl) dX2_isWord_30 ⟨Nat.zero_le _, Nat.zero_le _⟩ (fun r6 σ5 H locs h9 hk => ?_)
    obtain ⟨h8, h9⟩ := h9
    rw [h9] at hk
    rw [h8]
    replace hw := hw.2
    refine lv_icmp_ge (tgt := 63) hx hb dX2_isWord_33 (by decide) (fun c7 => ?_) (fun c7 => ?_)
    · replace hw := hw.1 c7
      refine lv_iconst (v := (1 : Int32)) hx hb dX2_isWord_63 (by decide) ?_
      exact k_zret X hk hw dX2_isWord_64
    · replace hw := hw.2 c7
      refine lv_aload_n hx hb dX2_isWord_36 rfl (lv_at hl 0 rfl) ?_
      refine k_get 4 X hk (wg_3 G _) rfl (hz_wsX20 _) (Nat.le_of_ble_eq_true rfl) (List.mem_cons_of_mem _ (aw_r3 _ (List.mem_of_getElem? (i := 9) rfl))) rfl dX2_isWord_37 ?_
      refine lv_aload_n hx hb dX2_isWord_40 rfl (lv_at hl 0 rfl) ?_
      refine k_get 7 X hk (wg_3 G _) rfl (hz_wsX20 _) (Nat.le_of_ble_eq_true rfl) (List.mem_cons_of_mem _ (aw_r7 _ (List.mem_of_getElem? (i := 19) rfl))) rfl dX2_isWord_41 ?_
      refine lv_iload_n hx hb dX2_isWord_44 rfl (lv_at hl 2 rfl) ?_
      refine lv_iadd hx hb dX2_isWord_45 ?_
      refine k_bald X hk (wg_16 G _) hw.1 dX2_isWord_46 ?_
      replace hw := hw.2
      refine lv_aload_n hx hb dX2_isWord_47 rfl (lv_at hl 1 rfl) ?_
      refine lv_iload_n hx hb dX2_isWord_48 rfl (lv_at hl 2 rfl) ?_
      refine k_callTi (rest := [.int (σ 16 (((σ 3 7) + x2)).toNatClampNeg)]) X hk (c_charAt l G _ w hw.1 _ hw.2.1 (fun r τ => r = ((bytS.getD w []).getD (x2).toNatClampNeg 0) ∧ τ = σ) ⟨rfl, rfl⟩) (cwV 1 X.1.2.2.2.2 (gzV (aw_r9 _ (List.mem_of_getElem? (i := 13) rfl)) (aw_r9 _ (List.mem_of_getElem? (i := 14) rfl)) (aw_r9 _ (List.mem_of_getElem? (i := 15) rfl)) (aw_r9 _ (List.mem_of_getElem? (i := 4) rfl)) (aw_r9 _ (List.mem_of_getElem? (i := 16) rfl))) rfl rfl rfl hd_charAt ⟨(Nat.le_of_ble_eq_true rfl), (Nat.le_of_ble_eq_true rfl)⟩) (vk_recv X.2.2.2.1 hw.1 hk.2.2.2) rfl hl.1 rfl (Nat.le_of_ble_eq_true rfl) dX2_isWord_49 ⟨Nat.zero_le _, Nat.zero_le _⟩ (fun r9 σ8 H locs h9 hk => ?_)
      obtain ⟨h8, h9⟩ := h9
      rw [h9] at hk
      rw [h8]
      replace hw := hw.2.2
      refine lv_icmp_eq (tgt := 57) hx hb dX2_isWord_52 (by decide) (fun c10 => ?_) (fun c10 => ?_)
      · replace hw := hw.1 c10
        obtain ⟨x2_11, ex2_11⟩ : ∃ y : Int32, y = (x2 + (1 : Int32)) := ⟨_, rfl⟩
        replace hw := hw x2_11 ex2_11
        refine lv_iinc (v := x2_11) (lv' := [(2, .int x2_11), (0, .ref (G.1 3)), (1, .ref (G.2.2.2.1 w))]) hx hb dX2_isWord_57 hl (k := 2) rfl (by rw [ex2_11]; rfl) (Nat.le_of_ble_eq_true rfl) rfl (fun ls hl => ?_)
        refine lv_goto (tgt := 28) hx hb dX2_isWord_60 (by decide) ?_
        exact ih _ _ _ _ _ hw hk (lv_sub hl [1, 2, 0] rfl)
      · replace hw := hw.2 c10
        refine lv_iconst (v := (0 : Int32)) hx hb dX2_isWord_55 (by decide) ?_
        exact k_zret X hk hw dX2_isWord_56
def wp_X2_isWord (σ : Sg) (w : Nat) (Q : Int32 → Sg → Prop) : Prop := ((σ 3 6) = (1 : Int32) → (w < 7 ∧ ((((σ 3 5) - (σ 3 7)) = (nI (lenS.getD w 0)) → (∃ n0, wp_X2_isWord_28 w Q  n0 (0 : Int32) σ)) ∧ (¬ (((σ 3 5) - (σ 3 7)) = (nI (lenS.getD w 0))) → (bz (0 : Int32) ∧ Q (0 : Int32) σ))))) ∧ (¬ ((σ 3 6) = (1 : Int32)) → (bz (0 : Int32) ∧ Q (0 : Int32) σ))
set_option maxHeartbeats 4000000 in
set_option maxRecDepth 100000 in
theorem c_X2_isWord (l : Launch) (G : Gw) (σ : Sg) (w : Nat) (Q : Int32 → Sg → Prop) (hw : wp_X2_isWord σ w Q) : MetI l yX2_isWord wz_X2_isWord rm_X2_isWord G σ [.ref (G.1 3), .ref (G.2.2.2.1 w)] Q := by
  refine MetI.of cX2_isWord 3 (some .boolean) (by decide) rfl (Nat.le_of_ble_eq_true rfl) ?_
  intro p e s m below meth c X hk ls hl
  have X : KC p m meth c cX2_isWord 3 s _ wz_X2_isWord RX2 (some .boolean) G := X
  have hl : lv_has ls 3 [(0, .ref (G.1 3)), (1, .ref (G.2.2.2.1 w))] := hl
  unfold wp_X2_isWord at hw
  have hx := X.1.1
  have hb := X.1.2.1
  refine lv_aload_n hx hb dX2_isWord_0 rfl (lv_at hl 0 rfl) ?_
  refine k_get 6 X hk (wg_3 G _) rfl (hz_wsX20 _) (Nat.le_of_ble_eq_true rfl) (List.mem_cons_of_mem _ (aw_r7 _ (List.mem_of_getElem? (i := 14) rfl))) rfl dX2_isWord_1 ?_
  refine lv_iconst (v := (1 : Int32)) hx hb dX2_isWord_4 (by decide) ?_
  refine lv_icmp_ne (tgt := 24) hx hb dX2_isWord_5 (by decide) (fun c1 => ?_) (fun c1 => ?_)
  · replace hw := hw.2 c1
    refine lv_iconst (v := (0 : Int32)) hx hb dX2_isWord_24 (by decide) ?_
    exact k_zret X hk hw dX2_isWord_25
  · replace hw := hw.1 c1
    refine lv_aload_n hx hb dX2_isWord_8 rfl (lv_at hl 0 rfl) ?_
    refine k_get 5 X hk (wg_3 G _) rfl (hz_wsX20 _) (Nat.le_of_ble_eq_true rfl) (List.mem_cons_of_mem _ (aw_r7 _ (List.mem_of_getElem? (i := 13) rfl))) rfl dX2_isWord_9 ?_
    refine lv_aload_n hx hb dX2_isWord_12 rfl (lv_at hl 0 rfl) ?_
    refine k_get 7 X hk (wg_3 G _) rfl (hz_wsX20 _) (Nat.le_of_ble_eq_true rfl) (List.mem_cons_of_mem _ (aw_r7 _ (List.mem_of_getElem? (i := 19) rfl))) rfl dX2_isWord_13 ?_
    refine lv_isub hx hb dX2_isWord_16 ?_
    refine lv_aload_n hx hb dX2_isWord_17 rfl (lv_at hl 1 rfl) ?_
    refine k_callTi (rest := [.int ((σ 3 5) - (σ 3 7))]) X hk (c_length l G _ w hw.1 (fun r τ => r = (nI (lenS.getD w 0)) ∧ τ = σ) ⟨rfl, rfl⟩) (cwV 0 X.1.2.2.2.2 (gzV (aw_r9 _ (List.mem_of_getElem? (i := 1) rfl)) (aw_r9 _ (List.mem_of_getElem? (i := 2) rfl)) (aw_r9 _ (List.mem_of_getElem? (i := 3) rfl)) (aw_r9 _ (List.mem_of_getElem? (i := 4) rfl)) (aw_r9 _ (List.mem_of_getElem? (i := 5) rfl))) rfl rfl rfl hd_length ⟨(Nat.le_of_ble_eq_true rfl), (Nat.le_of_ble_eq_true rfl)⟩) (vk_recv X.2.2.2.1 hw.1 hk.2.2.2) rfl hl.1 rfl (Nat.le_of_ble_eq_true rfl) dX2_isWord_18 ⟨Nat.zero_le _, Nat.zero_le _⟩ (fun r3 σ2 H locs h9 hk => ?_)
    obtain ⟨h8, h9⟩ := h9
    rw [h9] at hk
    rw [h8]
    replace hw := hw.2
    refine lv_icmp_eq (tgt := 26) hx hb dX2_isWord_21 (by decide) (fun c4 => ?_) (fun c4 => ?_)
    · replace hw := hw.1 c4
      refine lv_iconst (v := (0 : Int32)) hx hb dX2_isWord_26 (by decide) ?_
      refine lv_istore_n (lv' := [(2, .int (0 : Int32)), (0, .ref (G.1 3)), (1, .ref (G.2.2.2.1 w))]) hx hb dX2_isWord_27 rfl hl (Nat.le_of_ble_eq_true rfl) rfl (fun ls hl => ?_)
      obtain ⟨n0, hw⟩ := hw
      exact t_X2_isWord_28 X w Q   n0 _ _ _ _ _ hw hk (lv_sub hl [1, 2, 0] rfl)
    · replace hw := hw.2 c4
      refine lv_iconst (v := (0 : Int32)) hx hb dX2_isWord_24 (by decide) ?_
      exact k_zret X hk hw dX2_isWord_25
def rm_X2_refuse : Room := { frames := 0, cells := 0, slots := 0, locals := 0 }
abbrev wz_X2_refuse : List Cond := Cond.code yX2_refuse cX2_refuse 2 (some .boolean) :: wsA
theorem hd_X2_refuse : yX2_refuse.cls = RX2 ∧ yX2_refuse.cls ≠ "java/lang/invoke/MethodHandle" ∧ yX2_refuse.cls ≠ "java/lang/invoke/VarHandle" ∧ (parseMethodDescriptor yX2_refuse.desc).map (fun d => d.parameters.length) = some 1 := by decide +kernel
def wp_X2_refuse (σ : Sg) (p1 : Int32) (Q : Int32 → Sg → Prop) : Prop := ∀ σ1 : Sg, σ1 = (put σ 3 1 (p1 + ((8 : Int32) * (σ 3 7)))) → (bz (0 : Int32) ∧ Q (0 : Int32) σ1)
set_option maxHeartbeats 4000000 in
set_option maxRecDepth 100000 in
theorem c_X2_refuse (l : Launch) (G : Gw) (σ : Sg) (p1 : Int32) (Q : Int32 → Sg → Prop) (hw : wp_X2_refuse σ p1 Q) : MetI l yX2_refuse wz_X2_refuse rm_X2_refuse G σ [.ref (G.1 3), .int p1] Q := by
  refine MetI.of cX2_refuse 2 (some .boolean) (by decide) rfl (Nat.le_of_ble_eq_true rfl) ?_
  intro p e s m below meth c X hk ls hl
  have X : KC p m meth c cX2_refuse 2 s _ wz_X2_refuse RX2 (some .boolean) G := X
  have hl : lv_has ls 2 [(0, .ref (G.1 3)), (1, .int p1)] := hl
  unfold wp_X2_refuse at hw
  have hx := X.1.1
  have hb := X.1.2.1
  refine lv_aload_n hx hb dX2_refuse_0 rfl (lv_at hl 0 rfl) ?_
  refine lv_iload_n hx hb dX2_refuse_1 rfl (lv_at hl 1 rfl) ?_
  refine lv_bipush (v := (8 : Int32)) hx hb dX2_refuse_2 (by decide) ?_
  refine lv_aload_n hx hb dX2_refuse_4 rfl (lv_at hl 0 rfl) ?_
  refine k_get 7 X hk (wg_3 G _) rfl (hz_wsX20 _) (Nat.le_of_ble_eq_true rfl) (List.mem_cons_of_mem _ (aw_r7 _ (List.mem_of_getElem? (i := 19) rfl))) rfl dX2_refuse_5 ?_
  refine lv_imul hx hb dX2_refuse_8 ?_
  refine lv_iadd hx hb dX2_refuse_9 ?_
  refine k_put 1 X hk (wg_3 G _) rfl (hz_wsX20 _) tyX2_ok nmX2 (Nat.le_of_ble_eq_true rfl) (List.mem_cons_of_mem _ (aw_r7 _ (List.mem_of_getElem? (i := 12) rfl))) rfl rfl (Nat.le_of_ble_eq_true rfl) (ws_3_1 G _ _) dX2_refuse_10 (fun H locs hk => ?_)
  obtain ⟨σ1, eσ1⟩ : ∃ y : Sg, y = (put σ 3 1 (p1 + ((8 : Int32) * (σ 3 7)))) := ⟨_, rfl⟩
  rw [← eσ1] at hk
  replace hw := hw σ1 eσ1
  refine lv_iconst (v := (0 : Int32)) hx hb dX2_refuse_13 (by decide) ?_
  exact k_zret X hk hw dX2_refuse_14
def rm_X2_readWay : Room := { frames := 5, cells := 0, slots := 0, locals := 107 }
abbrev wz_X2_readWay : List Cond := Cond.code yX2_readWay cX2_readWay 1 (some .boolean) :: wsA
theorem hd_X2_readWay : yX2_readWay.cls = RX2 ∧ yX2_readWay.cls ≠ "java/lang/invoke/MethodHandle" ∧ yX2_readWay.cls ≠ "java/lang/invoke/VarHandle" ∧ (parseMethodDescriptor yX2_readWay.desc).map (fun d => d.parameters.length) = some 0 := by decide +kernel
def wp_X2_readWay (σ : Sg) (Q : Int32 → Sg → Prop) : Prop := wp_X2_readToken σ  (fun σ1 => wp_X2_isWord σ1 4 (fun r4 σ3 => bz r4 ∧ (∀ σ5 : Sg, σ5 = (put σ3 3 10 r4) → (((σ5 3 10) = 0 → (wp_X2_isWord σ5 5 (fun r8 σ7 => (r8 = 0 → (wp_X2_refuse σ7 (1 : Int32) (fun r11 σ10 => (r11 = 0 → (bz (0 : Int32) ∧ Q (0 : Int32) σ10)) ∧ (¬ (r11 = 0) → (bz (1 : Int32) ∧ Q (1 : Int32) σ10))))) ∧ (¬ (r8 = 0) → (bz (1 : Int32) ∧ Q (1 : Int32) σ7))))) ∧ (¬ ((σ5 3 10) = 0) → (bz (1 : Int32) ∧ Q (1 : Int32) σ5))))))
set_option maxHeartbeats 4000000 in
set_option maxRecDepth 100000 in
theorem c_X2_readWay (l : Launch) (G : Gw) (σ : Sg) (Q : Int32 → Sg → Prop) (hw : wp_X2_readWay σ  Q) : MetI l yX2_readWay wz_X2_readWay rm_X2_readWay G σ [.ref (G.1 3)] Q := by
  refine MetI.of cX2_readWay 1 (some .boolean) (by decide) rfl (Nat.le_of_ble_eq_true rfl) ?_
  intro p e s m below meth c X hk ls hl
  have X : KC p m meth c cX2_readWay 1 s _ wz_X2_readWay RX2 (some .boolean) G := X
  have hl : lv_has ls 1 [(0, .ref (G.1 3))] := hl
  unfold wp_X2_readWay at hw
  have hx := X.1.1
  have hb := X.1.2.1
  refine lv_aload_n hx hb dX2_readWay_0 rfl (lv_at hl 0 rfl) ?_
  refine k_callVv (rest := []) X hk (c_X2_readToken l G _  _ hw) (cwV 0 X.1.2.2.2.2 (gzV (aw_r7 _ (List.mem_of_getElem? (i := 15) rfl)) (aw_r7 _ (List.mem_of_getElem? (i := 16) rfl)) (aw_r7 _ (List.mem_of_getElem? (i := 17) rfl)) (aw_r1 _ (List.mem_of_getElem? (i := 23) rfl)) (aw_r7 _ (List.mem_of_getElem? (i := 18) rfl))) rfl rfl rfl hd_X2_readToken ⟨(Nat.le_of_ble_eq_true rfl), (Nat.le_of_ble_eq_true rfl)⟩) (wg_3 G _) rfl rfl hl.1 rfl (Nat.le_of_ble_eq_true rfl) dX2_readWay_1 ⟨Nat.zero_le _, Nat.zero_le _⟩ (fun σ1 H locs hw hk => ?_)
  refine lv_aload_n hx hb dX2_readWay_4 rfl (lv_at hl 0 rfl) ?_
  refine lv_aload_n hx hb dX2_readWay_5 rfl (lv_at hl 0 rfl) ?_
  refine va_ldcS hx hb X.1.2.2.2.1 (EN.r4 X.2.2.2) dX2_readWay_6 ?_
  refine k_callVi (rest := [.ref (G.1 3)]) X hk (c_X2_isWord l G _ _ _ hw) (cwV 1 X.1.2.2.2.2 (gzV (aw_r8 _ (List.mem_of_getElem? (i := 21) rfl)) (aw_r8 _ (List.mem_of_getElem? (i := 22) rfl)) (aw_r8 _ (List.mem_of_getElem? (i := 23) rfl)) (aw_r1 _ (List.mem_of_getElem? (i := 23) rfl)) (aw_r9 _ (List.mem_of_getElem? (i := 0) rfl))) rfl rfl rfl hd_X2_isWord ⟨(Nat.le_of_ble_eq_true rfl), (Nat.le_of_ble_eq_true rfl)⟩) (wg_3 G _) rfl rfl hl.1 rfl (Nat.le_of_ble_eq_true rfl) dX2_readWay_8 ⟨Nat.zero_le _, Nat.zero_le _⟩ (fun r4 σ3 H locs hw hk => ?_)
  refine k_putz 10 X hk (wg_3 G _) rfl (hz_wsX20 _) tyX2_ok nmX2 (Nat.le_of_ble_eq_true rfl) (List.mem_cons_of_mem _ (aw_r11 _ (List.mem_of_getElem? (i := 21) rfl))) rfl rfl (Nat.le_of_ble_eq_true rfl) hw.1 (ws_3_10 G _ _) dX2_readWay_11 (fun H locs hk => ?_)
  replace hw := hw.2
  obtain ⟨σ5, eσ5⟩ : ∃ y : Sg, y = (put σ3 3 10 r4) := ⟨_, rfl⟩
  rw [← eσ5] at hk
  replace hw := hw σ5 eσ5
  refine lv_aload_n hx hb dX2_readWay_14 rfl (lv_at hl 0 rfl) ?_
  refine k_get 10 X hk (wg_3 G _) rfl (hz_wsX20 _) (Nat.le_of_ble_eq_true rfl) (List.mem_cons_of_mem _ (aw_r11 _ (List.mem_of_getElem? (i := 21) rfl))) rfl dX2_readWay_15 ?_
  refine lv_if_ne (tgt := 38) hx hb dX2_readWay_18 (by decide) (fun c6 => ?_) (fun c6 => ?_)
  · replace hw := hw.2 c6
    refine lv_iconst (v := (1 : Int32)) hx hb dX2_readWay_38 (by decide) ?_
    refine lv_goto (tgt := 43) hx hb dX2_readWay_39 (by decide) ?_
    exact k_zret X hk hw dX2_readWay_43
  · replace hw := hw.1 c6
    refine lv_aload_n hx hb dX2_readWay_21 rfl (lv_at hl 0 rfl) ?_
    refine va_ldcS hx hb X.1.2.2.2.1 (EN.r5 X.2.2.2) dX2_readWay_22 ?_
    refine k_callVi (rest := []) X hk (c_X2_isWord l G _ _ _ hw) (cwV 1 X.1.2.2.2.2 (gzV (aw_r8 _ (List.mem_of_getElem? (i := 21) rfl)) (aw_r8 _ (List.mem_of_getElem? (i := 22) rfl)) (aw_r8 _ (List.mem_of_getElem? (i := 23) rfl)) (aw_r1 _ (List.mem_of_getElem? (i := 23) rfl)) (aw_r9 _ (List.mem_of_getElem? (i := 0) rfl))) rfl rfl rfl hd_X2_isWord ⟨(Nat.le_of_ble_eq_true rfl), (Nat.le_of_ble_eq_true rfl)⟩) (wg_3 G _) rfl rfl hl.1 rfl (Nat.le_of_ble_eq_true rfl) dX2_readWay_24 ⟨Nat.zero_le _, Nat.zero_le _⟩ (fun r8 σ7 H locs hw hk => ?_)
    refine lv_if_ne (tgt := 38) hx hb dX2_readWay_27 (by decide) (fun c9 => ?_) (fun c9 => ?_)
    · replace hw := hw.2 c9
      refine lv_iconst (v := (1 : Int32)) hx hb dX2_readWay_38 (by decide) ?_
      refine lv_goto (tgt := 43) hx hb dX2_readWay_39 (by decide) ?_
      exact k_zret X hk hw dX2_readWay_43
    · replace hw := hw.1 c9
      refine lv_aload_n hx hb dX2_readWay_30 rfl (lv_at hl 0 rfl) ?_
      refine lv_iconst (v := (1 : Int32)) hx hb dX2_readWay_31 (by decide) ?_
      refine k_callVi (rest := []) X hk (c_X2_refuse l G _ _ _ hw) (cwV 1 X.1.2.2.2.2 (gzV (aw_r11 _ (List.mem_of_getElem? (i := 2) rfl)) (aw_r11 _ (List.mem_of_getElem? (i := 3) rfl)) (aw_r11 _ (List.mem_of_getElem? (i := 4) rfl)) (aw_r1 _ (List.mem_of_getElem? (i := 23) rfl)) (aw_r11 _ (List.mem_of_getElem? (i := 5) rfl))) rfl rfl rfl hd_X2_refuse ⟨(Nat.le_of_ble_eq_true rfl), (Nat.le_of_ble_eq_true rfl)⟩) (wg_3 G _) rfl rfl hl.1 rfl (Nat.le_of_ble_eq_true rfl) dX2_readWay_32 ⟨Nat.zero_le _, Nat.zero_le _⟩ (fun r11 σ10 H locs hw hk => ?_)
      refine lv_if_eq (tgt := 42) hx hb dX2_readWay_35 (by decide) (fun c12 => ?_) (fun c12 => ?_)
      · replace hw := hw.1 c12
        refine lv_iconst (v := (0 : Int32)) hx hb dX2_readWay_42 (by decide) ?_
        exact k_zret X hk hw dX2_readWay_43
      · replace hw := hw.2 c12
        refine lv_iconst (v := (1 : Int32)) hx hb dX2_readWay_38 (by decide) ?_
        refine lv_goto (tgt := 43) hx hb dX2_readWay_39 (by decide) ?_
        exact k_zret X hk hw dX2_readWay_43
def rm_X2_readInts : Room := { frames := 6, cells := 0, slots := 0, locals := 127 }
abbrev wz_X2_readInts : List Cond := Cond.code yX2_readInts cX2_readInts 4 (some .boolean) :: wsA
theorem hd_X2_readInts : yX2_readInts.cls = RX2 ∧ yX2_readInts.cls ≠ "java/lang/invoke/MethodHandle" ∧ yX2_readInts.cls ≠ "java/lang/invoke/VarHandle" ∧ (parseMethodDescriptor yX2_readInts.desc).map (fun d => d.parameters.length) = some 1 := by decide +kernel
def wp_X2_readInts_31 (Q : Int32 → Sg → Prop) (K7 : Int32 → Int32 → Int32 → Sg → Prop) (x1 x2 x3 : Int32) (σ : Sg) : Prop := wp_X2_readToken σ  (fun σ5 => ((σ5 3 6) = (2 : Int32) → (wp_X2_intFits σ5 x1 x3 (fun r9 σ8 => (r9 = 0 → (wp_X2_refuse σ8 (2 : Int32) (fun r14 σ13 => bz r14 ∧ Q r14 σ13))) ∧ (¬ (r9 = 0) → (vp_in x3 5 ∧ (∀ σ11 : Sg, σ11 = (put σ8 17 (x3).toNatClampNeg (σ8 3 8)) → (∀ x3_12 : Int32, x3_12 = (x3 + (1 : Int32)) → (K7 x1 x2 x3_12 σ11)))))))) ∧ (¬ ((σ5 3 6) = (2 : Int32)) → (wp_X2_refuse σ5 (1 : Int32) (fun r16 σ15 => bz r16 ∧ Q r16 σ15))))
set_option maxHeartbeats 4000000 in
set_option maxRecDepth 100000 in
theorem t_X2_readInts_31 {p : Program} {l : Launch} {e : Env} {s : State} {m : MethodId} {args : Array Value} {below : List Frame} {meth : Method} {c : Code} {G : Gw} (X : KC p m meth c cX2_readInts 4 s args wz_X2_readInts RX2 (some .boolean) G) (Q : Int32 → Sg → Prop) (K7 : Int32 → Int32 → Int32 → Sg → Prop) (hK7 : ∀ (σ : Sg) (x1 x2 x3 : Int32) (H : Heap) (locs : List Loc) (ls : Array Slot), K7 x1 x2 x3 σ → WK G s H locs σ → lv_has ls 4 [(0, .ref (G.1 3)), (1, .int x1), (2, .int x2), (3, .int x3)] → W p l e rm_X2_readInts s m args below meth c H locs 0 0 (ZI below args s G Q) (F0 m 7 ls [])) : ∀ (σ : Sg) (x1 x2 x3 : Int32) (H : Heap) (locs : List Loc) (ls : Array Slot), wp_X2_readInts_31 Q K7 x1 x2 x3 σ → WK G s H locs σ → lv_has ls 4 [(0, .ref (G.1 3)), (1, .int x1), (2, .int x2), (3, .int x3)] → W p l e rm_X2_readInts s m args below meth c H locs 0 0 (ZI below args s G Q) (F0 m 31 ls []) := by
  have hx := X.1.1
  have hb := X.1.2.1
  intro σ x1 x2 x3 H locs ls hw hk hl
  unfold wp_X2_readInts_31 at hw
  refine lv_aload_n hx hb dX2_readInts_31 rfl (lv_at hl 0 rfl) ?_
  refine k_callVv (rest := []) X hk (c_X2_readToken l G _  _ hw) (cwV 0 X.1.2.2.2.2 (gzV (aw_r7 _ (List.mem_of_getElem? (i := 15) rfl)) (aw_r7 _ (List.mem_of_getElem? (i := 16) rfl)) (aw_r7 _ (List.mem_of_getElem? (i := 17) rfl)) (aw_r1 _ (List.mem_of_getElem? (i := 23) rfl)) (aw_r7 _ (List.mem_of_getElem? (i := 18) rfl))) rfl rfl rfl hd_X2_readToken ⟨(Nat.le_of_ble_eq_true rfl), (Nat.le_of_ble_eq_true rfl)⟩) (wg_3 G _) rfl rfl hl.1 rfl (Nat.le_of_ble_eq_true rfl) dX2_readInts_32 ⟨Nat.zero_le _, Nat.zero_le _⟩ (fun σ5 H locs hw hk => ?_)
  refine lv_aload_n hx hb dX2_readInts_35 rfl (lv_at hl 0 rfl) ?_
  refine k_get 6 X hk (wg_3 G _) rfl (hz_wsX20 _) (Nat.le_of_ble_eq_true rfl) (List.mem_cons_of_mem _ (aw_r7 _ (List.mem_of_getElem? (i := 14) rfl))) rfl dX2_readInts_36 ?_
  refine lv_iconst (v := (2 : Int32)) hx hb dX2_readInts_39 (by decide) ?_
  refine lv_icmp_eq (tgt := 49) hx hb dX2_readInts_40 (by decide) (fun c7 => ?_) (fun c7 => ?_)
  · replace hw := hw.1 c7
    refine lv_aload_n hx hb dX2_readInts_49 rfl (lv_at hl 0 rfl) ?_
    refine lv_iload_n hx hb dX2_readInts_50 rfl (lv_at hl 1 rfl) ?_
    refine lv_iload_n hx hb dX2_readInts_51 rfl (lv_at hl 3 rfl) ?_
    refine k_callVi (rest := []) X hk (c_X2_intFits l G _ _ _ _ hw) (cwV 2 X.1.2.2.2.2 (gzV (aw_r11 _ (List.mem_of_getElem? (i := 22) rfl)) (aw_r11 _ (List.mem_of_getElem? (i := 23) rfl)) (aw_r12 _ (List.mem_of_getElem? (i := 0) rfl)) (aw_r1 _ (List.mem_of_getElem? (i := 23) rfl)) (aw_r12 _ (List.mem_of_getElem? (i := 1) rfl))) rfl rfl rfl hd_X2_intFits ⟨(Nat.le_of_ble_eq_true rfl), (Nat.le_of_ble_eq_true rfl)⟩) (wg_3 G _) rfl rfl hl.1 rfl (Nat.le_of_ble_eq_true rfl) dX2_readInts_52 ⟨Nat.zero_le _, Nat.zero_le _⟩ (fun r9 σ8 H locs hw hk => ?_)
    refine lv_if_ne (tgt := 64) hx hb dX2_readInts_55 (by decide) (fun c10 => ?_) (fun c10 => ?_)
    · replace hw := hw.2 c10
      refine lv_aload_n hx hb dX2_readInts_64 rfl (lv_at hl 0 rfl) ?_
      refine k_get 9 X hk (wg_3 G _) rfl (hz_wsX20 _) (Nat.le_of_ble_eq_true rfl) (List.mem_cons_of_mem _ (aw_r3 _ (List.mem_of_getElem? (i := 10) rfl))) rfl dX2_readInts_65 ?_
      refine lv_iload_n hx hb dX2_readInts_68 rfl (lv_at hl 3 rfl) ?_
      refine lv_aload_n hx hb dX2_readInts_69 rfl (lv_at hl 0 rfl) ?_
      refine k_get 8 X hk (wg_3 G _) rfl (hz_wsX20 _) (Nat.le_of_ble_eq_true rfl) (List.mem_cons_of_mem _ (aw_r7 _ (List.mem_of_getElem? (i := 20) rfl))) rfl dX2_readInts_70 ?_
      refine k_iast X hk (wg_17 G _) (ws_17 G _) rfl hw.1 dX2_readInts_73 (fun H locs hk => ?_)
      replace hw := hw.2
      obtain ⟨σ11, eσ11⟩ : ∃ y : Sg, y = (put σ8 17 (x3).toNatClampNeg (σ8 3 8)) := ⟨_, rfl⟩
      rw [← eσ11] at hk
      replace hw := hw σ11 eσ11
      obtain ⟨x3_12, ex3_12⟩ : ∃ y : Int32, y = (x3 + (1 : Int32)) := ⟨_, rfl⟩
      replace hw := hw x3_12 ex3_12
      refine lv_iinc (v := x3_12) (lv' := [(3, .int x3_12), (0, .ref (G.1 3)), (1, .int x1), (2, .int x2)]) hx hb dX2_readInts_74 hl (k := 3) rfl (by rw [ex3_12]; rfl) (Nat.le_of_ble_eq_true rfl) rfl (fun ls hl => ?_)
      refine lv_goto (tgt := 7) hx hb dX2_readInts_77 (by decide) ?_
      exact hK7 _ _ _ _ _ _ _ hw hk (lv_sub hl [1, 2, 3, 0] rfl)
    · replace hw := hw.1 c10
      refine lv_aload_n hx hb dX2_readInts_58 rfl (lv_at hl 0 rfl) ?_
      refine lv_iconst (v := (2 : Int32)) hx hb dX2_readInts_59 (by decide) ?_
      refine k_callVi (rest := []) X hk (c_X2_refuse l G _ _ _ hw) (cwV 1 X.1.2.2.2.2 (gzV (aw_r11 _ (List.mem_of_getElem? (i := 2) rfl)) (aw_r11 _ (List.mem_of_getElem? (i := 3) rfl)) (aw_r11 _ (List.mem_of_getElem? (i := 4) rfl)) (aw_r1 _ (List.mem_of_getElem? (i := 23) rfl)) (aw_r11 _ (List.mem_of_getElem? (i := 5) rfl))) rfl rfl rfl hd_X2_refuse ⟨(Nat.le_of_ble_eq_true rfl), (Nat.le_of_ble_eq_true rfl)⟩) (wg_3 G _) rfl rfl hl.1 rfl (Nat.le_of_ble_eq_true rfl) dX2_readInts_60 ⟨Nat.zero_le _, Nat.zero_le _⟩ (fun r14 σ13 H locs hw hk => ?_)
      exact k_zret X hk hw dX2_readInts_63
  · replace hw := hw.2 c7
    refine lv_aload_n hx hb dX2_readInts_43 rfl (lv_at hl 0 rfl) ?_
    refine lv_iconst (v := (1 : Int32)) hx hb dX2_readInts_44 (by decide) ?_
    refine k_callVi (rest := []) X hk (c_X2_refuse l G _ _ _ hw) (cwV 1 X.1.2.2.2.2 (gzV (aw_r11 _ (List.mem_of_getElem? (i := 2) rfl)) (aw_r11 _ (List.mem_of_getElem? (i := 3) rfl)) (aw_r11 _ (List.mem_of_getElem? (i := 4) rfl)) (aw_r1 _ (List.mem_of_getElem? (i := 23) rfl)) (aw_r11 _ (List.mem_of_getElem? (i := 5) rfl))) rfl rfl rfl hd_X2_refuse ⟨(Nat.le_of_ble_eq_true rfl), (Nat.le_of_ble_eq_true rfl)⟩) (wg_3 G _) rfl rfl hl.1 rfl (Nat.le_of_ble_eq_true rfl) dX2_readInts_45 ⟨Nat.zero_le _, Nat.zero_le _⟩ (fun r16 σ15 H locs hw hk => ?_)
    exact k_zret X hk hw dX2_readInts_48
def wp_X2_readInts_7 (Q : Int32 → Sg → Prop)  : Nat → Int32 → Int32 → Int32 → Sg → Prop
  | 0, _, _, _, _ => False
  | n + 1, x1, x2, x3, σ => (x2 ≤ x3 → (bz (1 : Int32) ∧ Q (1 : Int32) σ)) ∧ (¬ (x2 ≤ x3) → ((x1 = (3 : Int32) → ((x3 = (2 : Int32) → (wp_X2_readWay σ  (fun r19 σ18 => (r19 = 0 → (bz (0 : Int32) ∧ Q (0 : Int32) σ18)) ∧ (¬ (r19 = 0) → (wp_X2_readInts_31 Q (fun z1 z2 z3 σ => wp_X2_readInts_7 Q  n z1 z2 z3 σ) x1 x2 x3 σ18))))) ∧ (¬ (x3 = (2 : Int32)) → (wp_X2_readInts_31 Q (fun z1 z2 z3 σ => wp_X2_readInts_7 Q  n z1 z2 z3 σ) x1 x2 x3 σ)))) ∧ (¬ (x1 = (3 : Int32)) → (wp_X2_readInts_31 Q (fun z1 z2 z3 σ => wp_X2_readInts_7 Q  n z1 z2 z3 σ) x1 x2 x3 σ))))
set_option maxHeartbeats 4000000 in
set_option maxRecDepth 100000 in
theorem t_X2_readInts_7 {p : Program} {l : Launch} {e : Env} {s : State} {m : MethodId} {args : Array Value} {below : List Frame} {meth : Method} {c : Code} {G : Gw} (X : KC p m meth c cX2_readInts 4 s args wz_X2_readInts RX2 (some .boolean) G) (Q : Int32 → Sg → Prop)  : ∀ (n : Nat) (σ : Sg) (x1 x2 x3 : Int32) (H : Heap) (locs : List Loc) (ls : Array Slot), wp_X2_readInts_7 Q  n x1 x2 x3 σ → WK G s H locs σ → lv_has ls 4 [(0, .ref (G.1 3)), (1, .int x1), (2, .int x2), (3, .int x3)] → W p l e rm_X2_readInts s m args below meth c H locs 0 0 (ZI below args s G Q) (F0 m 7 ls []) := by
  have hx := X.1.1
  have hb := X.1.2.1
  intro n
  induction n with
  | zero =>
    intro σ x1 x2 x3 H locs ls hw hk hl
    exact False.elim hw
  | succ n ih =>
    intro σ x1 x2 x3 H locs ls hw hk hl
    rw [wp_X2_readInts_7] at hw
    refine lv_iload_n hx hb dX2_readInts_7 rfl (lv_at hl 3 rfl) ?_
    refine lv_iload_n hx hb dX2_readInts_8 rfl (lv_at hl 2 rfl) ?_
    refine lv_icmp_ge (tgt := 80) hx hb dX2_readInts_9 (by decide) (fun c3 => ?_) (fun c3 => ?_)
    · replace hw := hw.1 c3
      refine lv_iconst (v := (1 : Int32)) hx hb dX2_readInts_80 (by decide) ?_
      exact k_zret X hk hw dX2_readInts_81
    · replace hw := hw.2 c3
      refine lv_iload_n hx hb dX2_readInts_12 rfl (lv_at hl 1 rfl) ?_
      refine lv_iconst (v := (3 : Int32)) hx hb dX2_readInts_13 (by decide) ?_
      refine lv_icmp_ne (tgt := 31) hx hb dX2_readInts_14 (by decide) (fun c4 => ?_) (fun c4 => ?_)
      · replace hw := hw.2 c4
        exact t_X2_readInts_31 X Q _ ih _ _ _ _ _ _ _ hw hk hl
      · replace hw := hw.1 c4
        refine lv_iload_n hx hb dX2_readInts_17 rfl (lv_at hl 3 rfl) ?_
        refine lv_iconst (v := (2 : Int32)) hx hb dX2_readInts_18 (by decide) ?_
        refine lv_icmp_ne (tgt := 31) hx hb dX2_readInts_19 (by decide) (fun c17 => ?_) (fun c17 => ?_)
        · replace hw := hw.2 c17
          exact t_X2_readInts_31 X Q _ ih _ _ _ _ _ _ _ hw hk hl
        · replace hw := hw.1 c17
          refine lv_aload_n hx hb dX2_readInts_22 rfl (lv_at hl 0 rfl) ?_
          refine k_callVi (rest := []) X hk (c_X2_readWay l G _  _ hw) (cwV 0 X.1.2.2.2.2 (gzV (aw_r11 _ (List.mem_of_getElem? (i := 17) rfl)) (aw_r11 _ (List.mem_of_getElem? (i := 18) rfl)) (aw_r11 _ (List.mem_of_getElem? (i := 19) rfl)) (aw_r1 _ (List.mem_of_getElem? (i := 23) rfl)) (aw_r11 _ (List.mem_of_getElem? (i := 20) rfl))) rfl rfl rfl hd_X2_readWay ⟨(Nat.le_of_ble_eq_true rfl), (Nat.le_of_ble_eq_true rfl)⟩) (wg_3 G _) rfl rfl hl.1 rfl (Nat.le_of_ble_eq_true rfl) dX2_readInts_23 ⟨Nat.zero_le _, Nat.zero_le _⟩ (fun r19 σ18 H locs hw hk => ?_)
          refine lv_if_ne (tgt := 31) hx hb dX2_readInts_26 (by decide) (fun c20 => ?_) (fun c20 => ?_)
          · replace hw := hw.2 c20
            exact t_X2_readInts_31 X Q _ ih _ _ _ _ _ _ _ hw hk hl
          · replace hw := hw.1 c20
            refine lv_iconst (v := (0 : Int32)) hx hb dX2_readInts_29 (by decide) ?_
            exact k_zret X hk hw dX2_readInts_30
def wp_X2_readInts (σ : Sg) (p1 : Int32) (Q : Int32 → Sg → Prop) : Prop := wp_X2_intsOf σ p1 (fun r2 σ1 => ∃ n0, wp_X2_readInts_7 Q  n0 p1 r2 (0 : Int32) σ1)
set_option maxHeartbeats 4000000 in
set_option maxRecDepth 100000 in
theorem c_X2_readInts (l : Launch) (G : Gw) (σ : Sg) (p1 : Int32) (Q : Int32 → Sg → Prop) (hw : wp_X2_readInts σ p1 Q) : MetI l yX2_readInts wz_X2_readInts rm_X2_readInts G σ [.ref (G.1 3), .int p1] Q := by
  refine MetI.of cX2_readInts 4 (some .boolean) (by decide) rfl (Nat.le_of_ble_eq_true rfl) ?_
  intro p e s m below meth c X hk ls hl
  have X : KC p m meth c cX2_readInts 4 s _ wz_X2_readInts RX2 (some .boolean) G := X
  have hl : lv_has ls 4 [(0, .ref (G.1 3)), (1, .int p1)] := hl
  unfold wp_X2_readInts at hw
  have hx := X.1.1
  have hb := X.1.2.1
  refine lv_iload_n hx hb dX2_readInts_0 rfl (lv_at hl 1 rfl) ?_
  refine k_callSi (rest := []) X hk (c_X2_intsOf l G _ _ _ hw) (va_cwS 1 X.1.2.2.2.2 (gzS (aw_r11 _ (List.mem_of_getElem? (i := 14) rfl)) (aw_r11 _ (List.mem_of_getElem? (i := 15) rfl)) (aw_r1 _ (List.mem_of_getElem? (i := 23) rfl)) (aw_r11 _ (List.mem_of_getElem? (i := 16) rfl))) rfl rfl rfl hds_X2_intsOf ⟨(Nat.le_of_ble_eq_true rfl), (Nat.le_of_ble_eq_true rfl)⟩) rfl hl.1 rfl (Nat.le_of_ble_eq_true rfl) dX2_readInts_1 ⟨Nat.zero_le _, Nat.zero_le _⟩ (fun r2 σ1 H locs hw hk => ?_)
  refine lv_istore_n (lv' := [(2, .int r2), (0, .ref (G.1 3)), (1, .int p1)]) hx hb dX2_readInts_4 rfl hl (Nat.le_of_ble_eq_true rfl) rfl (fun ls hl => ?_)
  refine lv_iconst (v := (0 : Int32)) hx hb dX2_readInts_5 (by decide) ?_
  refine lv_istore_n (lv' := [(3, .int (0 : Int32)), (2, .int r2), (0, .ref (G.1 3)), (1, .int p1)]) hx hb dX2_readInts_6 rfl hl (Nat.le_of_ble_eq_true rfl) rfl (fun ls hl => ?_)
  obtain ⟨n0, hw⟩ := hw
  exact t_X2_readInts_7 X Q   n0 _ _ _ _ _ _ _ hw hk (lv_sub hl [2, 3, 1, 0] rfl)
def rm_X2_statementOf : Room := { frames := 5, cells := 0, slots := 0, locals := 107 }
abbrev wz_X2_statementOf : List Cond := Cond.code yX2_statementOf cX2_statementOf 1 (some .int) :: wsA
theorem hd_X2_statementOf : yX2_statementOf.cls = RX2 ∧ yX2_statementOf.cls ≠ "java/lang/invoke/MethodHandle" ∧ yX2_statementOf.cls ≠ "java/lang/invoke/VarHandle" ∧ (parseMethodDescriptor yX2_statementOf.desc).map (fun d => d.parameters.length) = some 0 := by decide +kernel
def wp_X2_statementOf (σ : Sg) (Q : Int32 → Sg → Prop) : Prop := wp_X2_isWord σ 0 (fun r2 σ1 => (r2 = 0 → (wp_X2_isWord σ1 1 (fun r5 σ4 => (r5 = 0 → (wp_X2_isWord σ4 2 (fun r8 σ7 => (r8 = 0 → (wp_X2_isWord σ7 3 (fun r11 σ10 => (r11 = 0 → (Q (-1 : Int32) σ10)) ∧ (¬ (r11 = 0) → (Q (3 : Int32) σ10))))) ∧ (¬ (r8 = 0) → (Q (2 : Int32) σ7))))) ∧ (¬ (r5 = 0) → (Q (1 : Int32) σ4))))) ∧ (¬ (r2 = 0) → (Q (0 : Int32) σ1)))
set_option maxHeartbeats 4000000 in
set_option maxRecDepth 100000 in
theorem c_X2_statementOf (l : Launch) (G : Gw) (σ : Sg) (Q : Int32 → Sg → Prop) (hw : wp_X2_statementOf σ  Q) : MetI l yX2_statementOf wz_X2_statementOf rm_X2_statementOf G σ [.ref (G.1 3)] Q := by
  refine MetI.of cX2_statementOf 1 (some .int) (by decide) rfl (Nat.le_of_ble_eq_true rfl) ?_
  intro p e s m below meth c X hk ls hl
  have X : KC p m meth c cX2_statementOf 1 s _ wz_X2_statementOf RX2 (some .int) G := X
  have hl : lv_has ls 1 [(0, .ref (G.1 3))] := hl
  unfold wp_X2_statementOf at hw
  have hx := X.1.1
  have hb := X.1.2.1
  refine lv_aload_n hx hb dX2_statementOf_0 rfl (lv_at hl 0 rfl) ?_
  refine va_ldcS hx hb X.1.2.2.2.1 (EN.r0 X.2.2.2) dX2_statementOf_1 ?_
  refine k_callVi (rest := []) X hk (c_X2_isWord l G _ _ _ hw) (cwV 1 X.1.2.2.2.2 (gzV (aw_r8 _ (List.mem_of_getElem? (i := 21) rfl)) (aw_r8 _ (List.mem_of_getElem? (i := 22) rfl)) (aw_r8 _ (List.mem_of_getElem? (i := 23) rfl)) (aw_r1 _ (List.mem_of_getElem? (i := 23) rfl)) (aw_r9 _ (List.mem_of_getElem? (i := 0) rfl))) rfl rfl rfl hd_X2_isWord ⟨(Nat.le_of_ble_eq_true rfl), (Nat.le_of_ble_eq_true rfl)⟩) (wg_3 G _) rfl rfl hl.1 rfl (Nat.le_of_ble_eq_true rfl) dX2_statementOf_3 ⟨Nat.zero_le _, Nat.zero_le _⟩ (fun r2 σ1 H locs hw hk => ?_)
  refine lv_if_eq (tgt := 11) hx hb dX2_statementOf_6 (by decide) (fun c3 => ?_) (fun c3 => ?_)
  · replace hw := hw.1 c3
    refine lv_aload_n hx hb dX2_statementOf_11 rfl (lv_at hl 0 rfl) ?_
    refine va_ldcS hx hb X.1.2.2.2.1 (EN.r1 X.2.2.2) dX2_statementOf_12 ?_
    refine k_callVi (rest := []) X hk (c_X2_isWord l G _ _ _ hw) (cwV 1 X.1.2.2.2.2 (gzV (aw_r8 _ (List.mem_of_getElem? (i := 21) rfl)) (aw_r8 _ (List.mem_of_getElem? (i := 22) rfl)) (aw_r8 _ (List.mem_of_getElem? (i := 23) rfl)) (aw_r1 _ (List.mem_of_getElem? (i := 23) rfl)) (aw_r9 _ (List.mem_of_getElem? (i := 0) rfl))) rfl rfl rfl hd_X2_isWord ⟨(Nat.le_of_ble_eq_true rfl), (Nat.le_of_ble_eq_true rfl)⟩) (wg_3 G _) rfl rfl hl.1 rfl (Nat.le_of_ble_eq_true rfl) dX2_statementOf_14 ⟨Nat.zero_le _, Nat.zero_le _⟩ (fun r5 σ4 H locs hw hk => ?_)
    refine lv_if_eq (tgt := 22) hx hb dX2_statementOf_17 (by decide) (fun c6 => ?_) (fun c6 => ?_)
    · replace hw := hw.1 c6
      refine lv_aload_n hx hb dX2_statementOf_22 rfl (lv_at hl 0 rfl) ?_
      refine va_ldcS hx hb X.1.2.2.2.1 (EN.r2 X.2.2.2) dX2_statementOf_23 ?_
      refine k_callVi (rest := []) X hk (c_X2_isWord l G _ _ _ hw) (cwV 1 X.1.2.2.2.2 (gzV (aw_r8 _ (List.mem_of_getElem? (i := 21) rfl)) (aw_r8 _ (List.mem_of_getElem? (i := 22) rfl)) (aw_r8 _ (List.mem_of_getElem? (i := 23) rfl)) (aw_r1 _ (List.mem_of_getElem? (i := 23) rfl)) (aw_r9 _ (List.mem_of_getElem? (i := 0) rfl))) rfl rfl rfl hd_X2_isWord ⟨(Nat.le_of_ble_eq_true rfl), (Nat.le_of_ble_eq_true rfl)⟩) (wg_3 G _) rfl rfl hl.1 rfl (Nat.le_of_ble_eq_true rfl) dX2_statementOf_25 ⟨Nat.zero_le _, Nat.zero_le _⟩ (fun r8 σ7 H locs hw hk => ?_)
      refine lv_if_eq (tgt := 33) hx hb dX2_statementOf_28 (by decide) (fun c9 => ?_) (fun c9 => ?_)
      · replace hw := hw.1 c9
        refine lv_aload_n hx hb dX2_statementOf_33 rfl (lv_at hl 0 rfl) ?_
        refine va_ldcS hx hb X.1.2.2.2.1 (EN.r3 X.2.2.2) dX2_statementOf_34 ?_
        refine k_callVi (rest := []) X hk (c_X2_isWord l G _ _ _ hw) (cwV 1 X.1.2.2.2.2 (gzV (aw_r8 _ (List.mem_of_getElem? (i := 21) rfl)) (aw_r8 _ (List.mem_of_getElem? (i := 22) rfl)) (aw_r8 _ (List.mem_of_getElem? (i := 23) rfl)) (aw_r1 _ (List.mem_of_getElem? (i := 23) rfl)) (aw_r9 _ (List.mem_of_getElem? (i := 0) rfl))) rfl rfl rfl hd_X2_isWord ⟨(Nat.le_of_ble_eq_true rfl), (Nat.le_of_ble_eq_true rfl)⟩) (wg_3 G _) rfl rfl hl.1 rfl (Nat.le_of_ble_eq_true rfl) dX2_statementOf_36 ⟨Nat.zero_le _, Nat.zero_le _⟩ (fun r11 σ10 H locs hw hk => ?_)
        refine lv_if_eq (tgt := 46) hx hb dX2_statementOf_39 (by decide) (fun c12 => ?_) (fun c12 => ?_)
        · replace hw := hw.1 c12
          refine lv_iconst (v := (-1 : Int32)) hx hb dX2_statementOf_46 (by decide) ?_
          exact k_iret X hk hw dX2_statementOf_47
        · replace hw := hw.2 c12
          refine lv_iconst (v := (3 : Int32)) hx hb dX2_statementOf_42 (by decide) ?_
          refine lv_goto (tgt := 47) hx hb dX2_statementOf_43 (by decide) ?_
          exact k_iret X hk hw dX2_statementOf_47
      · replace hw := hw.2 c9
        refine lv_iconst (v := (2 : Int32)) hx hb dX2_statementOf_31 (by decide) ?_
        exact k_iret X hk hw dX2_statementOf_32
    · replace hw := hw.2 c6
      refine lv_iconst (v := (1 : Int32)) hx hb dX2_statementOf_20 (by decide) ?_
      exact k_iret X hk hw dX2_statementOf_21
  · replace hw := hw.2 c3
    refine lv_iconst (v := (0 : Int32)) hx hb dX2_statementOf_9 (by decide) ?_
    exact k_iret X hk hw dX2_statementOf_10
def rm_X2_readStatement : Room := { frames := 7, cells := 0, slots := 0, locals := 150 }
abbrev wz_X2_readStatement : List Cond := Cond.code yX2_readStatement cX2_readStatement 2 (some .boolean) :: wsA
theorem hd_X2_readStatement : yX2_readStatement.cls = RX2 ∧ yX2_readStatement.cls ≠ "java/lang/invoke/MethodHandle" ∧ yX2_readStatement.cls ≠ "java/lang/invoke/VarHandle" ∧ (parseMethodDescriptor yX2_readStatement.desc).map (fun d => d.parameters.length) = some 0 := by decide +kernel
def wp_X2_readStatement_61 (Q : Int32 → Sg → Prop)  (σ : Sg) : Prop := wp_X2_refuse σ (1 : Int32) (fun r14 σ13 => bz r14 ∧ Q r14 σ13)
set_option maxHeartbeats 4000000 in
set_option maxRecDepth 100000 in
theorem t_X2_readStatement_61 {p : Program} {l : Launch} {e : Env} {s : State} {m : MethodId} {args : Array Value} {below : List Frame} {meth : Method} {c : Code} {G : Gw} (X : KC p m meth c cX2_readStatement 2 s args wz_X2_readStatement RX2 (some .boolean) G) (Q : Int32 → Sg → Prop)  : ∀ (σ : Sg) (H : Heap) (locs : List Loc) (ls : Array Slot), wp_X2_readStatement_61 Q   σ → WK G s H locs σ → lv_has ls 2 [(0, .ref (G.1 3))] → W p l e rm_X2_readStatement s m args below meth c H locs 0 0 (ZI below args s G Q) (F0 m 61 ls []) := by
  have hx := X.1.1
  have hb := X.1.2.1
  intro σ H locs ls hw hk hl
  unfold wp_X2_readStatement_61 at hw
  refine lv_aload_n hx hb dX2_readStatement_61 rfl (lv_at hl 0 rfl) ?_
  refine lv_iconst (v := (1 : Int32)) hx hb dX2_readStatement_62 (by decide) ?_
  refine k_callVi (rest := []) X hk (c_X2_refuse l G _ _ _ hw) (cwV 1 X.1.2.2.2.2 (gzV (aw_r11 _ (List.mem_of_getElem? (i := 2) rfl)) (aw_r11 _ (List.mem_of_getElem? (i := 3) rfl)) (aw_r11 _ (List.mem_of_getElem? (i := 4) rfl)) (aw_r1 _ (List.mem_of_getElem? (i := 23) rfl)) (aw_r11 _ (List.mem_of_getElem? (i := 5) rfl))) rfl rfl rfl hd_X2_refuse ⟨(Nat.le_of_ble_eq_true rfl), (Nat.le_of_ble_eq_true rfl)⟩) (wg_3 G _) rfl rfl hl.1 rfl (Nat.le_of_ble_eq_true rfl) dX2_readStatement_63 ⟨Nat.zero_le _, Nat.zero_le _⟩ (fun r14 σ13 H locs hw hk => ?_)
  exact k_zret X hk hw dX2_readStatement_66
def wp_X2_readStatement (σ : Sg) (Q : Int32 → Sg → Prop) : Prop := wp_X2_statementOf σ  (fun r2 σ1 => (r2 = (-1 : Int32) → (wp_X2_refuse σ1 (1 : Int32) (fun r21 σ20 => bz r21 ∧ Q r21 σ20))) ∧ (¬ (r2 = (-1 : Int32)) → (wp_X2_isFull σ1 r2 (fun r5 σ4 => (r5 = 0 → (wp_X2_readInts σ4 r2 (fun r8 σ7 => (r8 = 0 → (bz (0 : Int32) ∧ Q (0 : Int32) σ7)) ∧ (¬ (r8 = 0) → (wp_X2_readToken σ7  (fun σ10 => ((σ10 3 6) = (3 : Int32) → (((σ10 3 8) = (59 : Int32) → (wp_X2_carryOut σ10 r2 (fun σ16 => bz (1 : Int32) ∧ Q (1 : Int32) σ16))) ∧ (¬ ((σ10 3 8) = (59 : Int32)) → (wp_X2_readStatement_61 Q   σ10)))) ∧ (¬ ((σ10 3 6) = (3 : Int32)) → (wp_X2_readStatement_61 Q   σ10)))))))) ∧ (¬ (r5 = 0) → (wp_X2_refuse σ4 (3 : Int32) (fun r19 σ18 => bz r19 ∧ Q r19 σ18)))))))
set_option maxHeartbeats 4000000 in
set_option maxRecDepth 100000 in
theorem c_X2_readStatement (l : Launch) (G : Gw) (σ : Sg) (Q : Int32 → Sg → Prop) (hw : wp_X2_readStatement σ  Q) : MetI l yX2_readStatement wz_X2_readStatement rm_X2_readStatement G σ [.ref (G.1 3)] Q := by
  refine MetI.of cX2_readStatement 2 (some .boolean) (by decide) rfl (Nat.le_of_ble_eq_true rfl) ?_
  intro p e s m below meth c X hk ls hl
  have X : KC p m meth c cX2_readStatement 2 s _ wz_X2_readStatement RX2 (some .boolean) G := X
  have hl : lv_has ls 2 [(0, .ref (G.1 3))] := hl
  unfold wp_X2_readStatement at hw
  have hx := X.1.1
  have hb := X.1.2.1
  refine lv_aload_n hx hb dX2_readStatement_0 rfl (lv_at hl 0 rfl) ?_
  refine k_callVi (rest := []) X hk (c_X2_statementOf l G _  _ hw) (cwV 0 X.1.2.2.2.2 (gzV (aw_r8 _ (List.mem_of_getElem? (i := 17) rfl)) (aw_r8 _ (List.mem_of_getElem? (i := 18) rfl)) (aw_r8 _ (List.mem_of_getElem? (i := 19) rfl)) (aw_r1 _ (List.mem_of_getElem? (i := 23) rfl)) (aw_r8 _ (List.mem_of_getElem? (i := 20) rfl))) rfl rfl rfl hd_X2_statementOf ⟨(Nat.le_of_ble_eq_true rfl), (Nat.le_of_ble_eq_true rfl)⟩) (wg_3 G _) rfl rfl hl.1 rfl (Nat.le_of_ble_eq_true rfl) dX2_readStatement_1 ⟨Nat.zero_le _, Nat.zero_le _⟩ (fun r2 σ1 H locs hw hk => ?_)
  refine lv_istore_n (lv' := [(1, .int r2), (0, .ref (G.1 3))]) hx hb dX2_readStatement_4 rfl hl (Nat.le_of_ble_eq_true rfl) rfl (fun ls hl => ?_)
  refine lv_iload_n hx hb dX2_readStatement_5 rfl (lv_at hl 0 rfl) ?_
  refine lv_iconst (v := (-1 : Int32)) hx hb dX2_readStatement_6 (by decide) ?_
  refine lv_icmp_ne (tgt := 16) hx hb dX2_readStatement_7 (by decide) (fun c3 => ?_) (fun c3 => ?_)
  · replace hw := hw.2 c3
    refine lv_aload_n hx hb dX2_readStatement_16 rfl (lv_at hl 1 rfl) ?_
    refine lv_iload_n hx hb dX2_readStatement_17 rfl (lv_at hl 0 rfl) ?_
    refine k_callVi (rest := []) X hk (c_X2_isFull l G _ _ _ hw) (cwV 1 X.1.2.2.2.2 (gzV (aw_r11 _ (List.mem_of_getElem? (i := 6) rfl)) (aw_r11 _ (List.mem_of_getElem? (i := 7) rfl)) (aw_r11 _ (List.mem_of_getElem? (i := 8) rfl)) (aw_r1 _ (List.mem_of_getElem? (i := 23) rfl)) (aw_r11 _ (List.mem_of_getElem? (i := 9) rfl))) rfl rfl rfl hd_X2_isFull ⟨(Nat.le_of_ble_eq_true rfl), (Nat.le_of_ble_eq_true rfl)⟩) (wg_3 G _) rfl rfl hl.1 rfl (Nat.le_of_ble_eq_true rfl) dX2_readStatement_18 ⟨Nat.zero_le _, Nat.zero_le _⟩ (fun r5 σ4 H locs hw hk => ?_)
    refine lv_if_eq (tgt := 30) hx hb dX2_readStatement_21 (by decide) (fun c6 => ?_) (fun c6 => ?_)
    · replace hw := hw.1 c6
      refine lv_aload_n hx hb dX2_readStatement_30 rfl (lv_at hl 1 rfl) ?_
      refine lv_iload_n hx hb dX2_readStatement_31 rfl (lv_at hl 0 rfl) ?_
      refine k_callVi (rest := []) X hk (c_X2_readInts l G _ _ _ hw) (cwV 1 X.1.2.2.2.2 (gzV (aw_r11 _ (List.mem_of_getElem? (i := 10) rfl)) (aw_r11 _ (List.mem_of_getElem? (i := 11) rfl)) (aw_r11 _ (List.mem_of_getElem? (i := 12) rfl)) (aw_r1 _ (List.mem_of_getElem? (i := 23) rfl)) (aw_r11 _ (List.mem_of_getElem? (i := 13) rfl))) rfl rfl rfl hd_X2_readInts ⟨(Nat.le_of_ble_eq_true rfl), (Nat.le_of_ble_eq_true rfl)⟩) (wg_3 G _) rfl rfl hl.1 rfl (Nat.le_of_ble_eq_true rfl) dX2_readStatement_32 ⟨Nat.zero_le _, Nat.zero_le _⟩ (fun r8 σ7 H locs hw hk => ?_)
      refine lv_if_ne (tgt := 40) hx hb dX2_readStatement_35 (by decide) (fun c9 => ?_) (fun c9 => ?_)
      · replace hw := hw.2 c9
        refine lv_aload_n hx hb dX2_readStatement_40 rfl (lv_at hl 1 rfl) ?_
        refine k_callVv (rest := []) X hk (c_X2_readToken l G _  _ hw) (cwV 0 X.1.2.2.2.2 (gzV (aw_r7 _ (List.mem_of_getElem? (i := 15) rfl)) (aw_r7 _ (List.mem_of_getElem? (i := 16) rfl)) (aw_r7 _ (List.mem_of_getElem? (i := 17) rfl)) (aw_r1 _ (List.mem_of_getElem? (i := 23) rfl)) (aw_r7 _ (List.mem_of_getElem? (i := 18) rfl))) rfl rfl rfl hd_X2_readToken ⟨(Nat.le_of_ble_eq_true rfl), (Nat.le_of_ble_eq_true rfl)⟩) (wg_3 G _) rfl rfl hl.1 rfl (Nat.le_of_ble_eq_true rfl) dX2_readStatement_41 ⟨Nat.zero_le _, Nat.zero_le _⟩ (fun σ10 H locs hw hk => ?_)
        refine lv_aload_n hx hb dX2_readStatement_44 rfl (lv_at hl 1 rfl) ?_
        refine k_get 6 X hk (wg_3 G _) rfl (hz_wsX20 _) (Nat.le_of_ble_eq_true rfl) (List.mem_cons_of_mem _ (aw_r7 _ (List.mem_of_getElem? (i := 14) rfl))) rfl dX2_readStatement_45 ?_
        refine lv_iconst (v := (3 : Int32)) hx hb dX2_readStatement_48 (by decide) ?_
        refine lv_icmp_ne (tgt := 61) hx hb dX2_readStatement_49 (by decide) (fun c12 => ?_) (fun c12 => ?_)
        · replace hw := hw.2 c12
          exact t_X2_readStatement_61 X Q   _  _ _ _ hw hk (lv_sub hl [1] rfl)
        · replace hw := hw.1 c12
          refine lv_aload_n hx hb dX2_readStatement_52 rfl (lv_at hl 1 rfl) ?_
          refine k_get 8 X hk (wg_3 G _) rfl (hz_wsX20 _) (Nat.le_of_ble_eq_true rfl) (List.mem_cons_of_mem _ (aw_r7 _ (List.mem_of_getElem? (i := 20) rfl))) rfl dX2_readStatement_53 ?_
          refine lv_bipush (v := (59 : Int32)) hx hb dX2_readStatement_56 (by decide) ?_
          refine lv_icmp_eq (tgt := 67) hx hb dX2_readStatement_58 (by decide) (fun c15 => ?_) (fun c15 => ?_)
          · replace hw := hw.1 c15
            refine lv_aload_n hx hb dX2_readStatement_67 rfl (lv_at hl 1 rfl) ?_
            refine lv_iload_n hx hb dX2_readStatement_68 rfl (lv_at hl 0 rfl) ?_
            refine k_callVv (rest := []) X hk (c_X2_carryOut l G _ _ _ hw) (cwV 1 X.1.2.2.2.2 (gzV (aw_r13 _ (List.mem_of_getElem? (i := 6) rfl)) (aw_r13 _ (List.mem_of_getElem? (i := 7) rfl)) (aw_r13 _ (List.mem_of_getElem? (i := 8) rfl)) (aw_r1 _ (List.mem_of_getElem? (i := 23) rfl)) (aw_r13 _ (List.mem_of_getElem? (i := 9) rfl))) rfl rfl rfl hd_X2_carryOut ⟨(Nat.le_of_ble_eq_true rfl), (Nat.le_of_ble_eq_true rfl)⟩) (wg_3 G _) rfl rfl hl.1 rfl (Nat.le_of_ble_eq_true rfl) dX2_readStatement_69 ⟨Nat.zero_le _, Nat.zero_le _⟩ (fun σ16 H locs hw hk => ?_)
            refine lv_iconst (v := (1 : Int32)) hx hb dX2_readStatement_72 (by decide) ?_
            exact k_zret X hk hw dX2_readStatement_73
          · replace hw := hw.2 c15
            exact t_X2_readStatement_61 X Q   _  _ _ _ hw hk (lv_sub hl [1] rfl)
      · replace hw := hw.1 c9
        refine lv_iconst (v := (0 : Int32)) hx hb dX2_readStatement_38 (by decide) ?_
        exact k_zret X hk hw dX2_readStatement_39
    · replace hw := hw.2 c6
      refine lv_aload_n hx hb dX2_readStatement_24 rfl (lv_at hl 1 rfl) ?_
      refine lv_iconst (v := (3 : Int32)) hx hb dX2_readStatement_25 (by decide) ?_
      refine k_callVi (rest := []) X hk (c_X2_refuse l G _ _ _ hw) (cwV 1 X.1.2.2.2.2 (gzV (aw_r11 _ (List.mem_of_getElem? (i := 2) rfl)) (aw_r11 _ (List.mem_of_getElem? (i := 3) rfl)) (aw_r11 _ (List.mem_of_getElem? (i := 4) rfl)) (aw_r1 _ (List.mem_of_getElem? (i := 23) rfl)) (aw_r11 _ (List.mem_of_getElem? (i := 5) rfl))) rfl rfl rfl hd_X2_refuse ⟨(Nat.le_of_ble_eq_true rfl), (Nat.le_of_ble_eq_true rfl)⟩) (wg_3 G _) rfl rfl hl.1 rfl (Nat.le_of_ble_eq_true rfl) dX2_readStatement_26 ⟨Nat.zero_le _, Nat.zero_le _⟩ (fun r19 σ18 H locs hw hk => ?_)
      exact k_zret X hk hw dX2_readStatement_29
  · replace hw := hw.1 c3
    refine lv_aload_n hx hb dX2_readStatement_10 rfl (lv_at hl 1 rfl) ?_
    refine lv_iconst (v := (1 : Int32)) hx hb dX2_readStatement_11 (by decide) ?_
    refine k_callVi (rest := []) X hk (c_X2_refuse l G _ _ _ hw) (cwV 1 X.1.2.2.2.2 (gzV (aw_r11 _ (List.mem_of_getElem? (i := 2) rfl)) (aw_r11 _ (List.mem_of_getElem? (i := 3) rfl)) (aw_r11 _ (List.mem_of_getElem? (i := 4) rfl)) (aw_r1 _ (List.mem_of_getElem? (i := 23) rfl)) (aw_r11 _ (List.mem_of_getElem? (i := 5) rfl))) rfl rfl rfl hd_X2_refuse ⟨(Nat.le_of_ble_eq_true rfl), (Nat.le_of_ble_eq_true rfl)⟩) (wg_3 G _) rfl rfl hl.1 rfl (Nat.le_of_ble_eq_true rfl) dX2_readStatement_12 ⟨Nat.zero_le _, Nat.zero_le _⟩ (fun r21 σ20 H locs hw hk => ?_)
    exact k_zret X hk hw dX2_readStatement_15
def rm_X2_readAll : Room := { frames := 8, cells := 0, slots := 0, locals := 171 }
abbrev wz_X2_readAll : List Cond := Cond.code yX2_readAll cX2_readAll 5 (some .int) :: wsA
theorem hd_X2_readAll : yX2_readAll.cls = RX2 ∧ yX2_readAll.cls ≠ "java/lang/invoke/MethodHandle" ∧ yX2_readAll.cls ≠ "java/lang/invoke/VarHandle" ∧ (parseMethodDescriptor yX2_readAll.desc).map (fun d => d.parameters.length) = some 0 := by decide +kernel
def wp_X2_readAll_91 (Q : Int32 → Sg → Prop)  (x1 x2 x3 x4 : Int32) (σ : Sg) : Prop := ∀ σ10 : Sg, σ10 = (put σ 3 0 (0 : Int32)) → (((σ10 3 1) = 0 → (Q x4 σ10)) ∧ (¬ ((σ10 3 1) = 0) → (∀ σ12 : Sg, σ12 = (put σ10 1 0 x1) → (∀ σ13 : Sg, σ13 = (put σ12 1 1 x2) → (∀ σ14 : Sg, σ14 = (put σ13 2 0 x3) → (k_cpyok (0 : Int32) (0 : Int32) (24 : Int32) 24 24 ∧ (∀ σ15 : Sg, σ15 = (setA σ14 8 (va_cpy (σ14 18) (σ14 8) ((0 : Int32)).toNatClampNeg ((0 : Int32)).toNatClampNeg ((24 : Int32)).toNatClampNeg)) → (Q (-1 : Int32) σ15))))))))
set_option maxHeartbeats 4000000 in
set_option maxRecDepth 100000 in
theorem t_X2_readAll_91 {p : Program} {l : Launch} {e : Env} {s : State} {m : MethodId} {args : Array Value} {below : List Frame} {meth : Method} {c : Code} {G : Gw} (X : KC p m meth c cX2_readAll 5 s args wz_X2_readAll RX2 (some .int) G) (Q : Int32 → Sg → Prop)  : ∀ (σ : Sg) (x1 x2 x3 x4 : Int32) (H : Heap) (locs : List Loc) (ls : Array Slot), wp_X2_readAll_91 Q  x1 x2 x3 x4 σ → WK G s H locs σ → lv_has ls 5 [(0, .ref (G.1 3)), (1, .int x1), (2, .int x2), (3, .int x3), (4, .int x4)] → W p l e rm_X2_readAll s m args below meth c H locs 0 0 (ZI below args s G Q) (F0 m 91 ls []) := by
  have hx := X.1.1
  have hb := X.1.2.1
  intro σ x1 x2 x3 x4 H locs ls hw hk hl
  unfold wp_X2_readAll_91 at hw
  refine lv_aload_n hx hb dX2_readAll_91 rfl (lv_at hl 0 rfl) ?_
  refine lv_iconst (v := (0 : Int32)) hx hb dX2_readAll_92 (by decide) ?_
  refine k_put 0 X hk (wg_3 G _) rfl (hz_wsX20 _) tyX2_ok nmX2 (Nat.le_of_ble_eq_true rfl) (List.mem_cons_of_mem _ (aw_r5 _ (List.mem_of_getElem? (i := 18) rfl))) rfl rfl (Nat.le_of_ble_eq_true rfl) (ws_3_0 G _ _) dX2_readAll_93 (fun H locs hk => ?_)
  obtain ⟨σ10, eσ10⟩ : ∃ y : Sg, y = (put σ 3 0 (0 : Int32)) := ⟨_, rfl⟩
  rw [← eσ10] at hk
  replace hw := hw σ10 eσ10
  refine lv_aload_n hx hb dX2_readAll_96 rfl (lv_at hl 0 rfl) ?_
  refine k_get 1 X hk (wg_3 G _) rfl (hz_wsX20 _) (Nat.le_of_ble_eq_true rfl) (List.mem_cons_of_mem _ (aw_r7 _ (List.mem_of_getElem? (i := 12) rfl))) rfl dX2_readAll_97 ?_
  refine lv_if_ne (tgt := 106) hx hb dX2_readAll_100 (by decide) (fun c11 => ?_) (fun c11 => ?_)
  · replace hw := hw.2 c11
    refine lv_aload_n hx hb dX2_readAll_106 rfl (lv_at hl 0 rfl) ?_
    refine k_get 2 X hk (wg_3 G _) rfl (hz_wsX20 _) (Nat.le_of_ble_eq_true rfl) (List.mem_cons_of_mem _ (aw_r3 _ (List.mem_of_getElem? (i := 12) rfl))) rfl dX2_readAll_107 ?_
    refine lv_iload_n hx hb dX2_readAll_110 rfl (lv_at hl 1 rfl) ?_
    refine k_put 0 X hk (wg_1 G _) rfl (hz_wsX30 _) tyX3_ok nmX3 (Nat.le_of_ble_eq_true rfl) (List.mem_cons_of_mem _ (aw_r7 _ (List.mem_of_getElem? (i := 4) rfl))) rfl rfl (Nat.le_of_ble_eq_true rfl) (ws_1_0 G _ _) dX2_readAll_111 (fun H locs hk => ?_)
    obtain ⟨σ12, eσ12⟩ : ∃ y : Sg, y = (put σ10 1 0 x1) := ⟨_, rfl⟩
    rw [← eσ12] at hk
    replace hw := hw σ12 eσ12
    refine lv_aload_n hx hb dX2_readAll_114 rfl (lv_at hl 0 rfl) ?_
    refine k_get 2 X hk (wg_3 G _) rfl (hz_wsX20 _) (Nat.le_of_ble_eq_true rfl) (List.mem_cons_of_mem _ (aw_r3 _ (List.mem_of_getElem? (i := 12) rfl))) rfl dX2_readAll_115 ?_
    refine lv_iload_n hx hb dX2_readAll_118 rfl (lv_at hl 2 rfl) ?_
    refine k_put 1 X hk (wg_1 G _) rfl (hz_wsX30 _) tyX3_ok nmX3 (Nat.le_of_ble_eq_true rfl) (List.mem_cons_of_mem _ (aw_r7 _ (List.mem_of_getElem? (i := 5) rfl))) rfl rfl (Nat.le_of_ble_eq_true rfl) (ws_1_1 G _ _) dX2_readAll_119 (fun H locs hk => ?_)
    obtain ⟨σ13, eσ13⟩ : ∃ y : Sg, y = (put σ12 1 1 x2) := ⟨_, rfl⟩
    rw [← eσ13] at hk
    replace hw := hw σ13 eσ13
    refine lv_aload_n hx hb dX2_readAll_122 rfl (lv_at hl 0 rfl) ?_
    refine k_get 3 X hk (wg_3 G _) rfl (hz_wsX20 _) (Nat.le_of_ble_eq_true rfl) (List.mem_cons_of_mem _ (aw_r3 _ (List.mem_of_getElem? (i := 13) rfl))) rfl dX2_readAll_123 ?_
    refine lv_iload_n hx hb dX2_readAll_126 rfl (lv_at hl 3 rfl) ?_
    refine k_put 0 X hk (wg_2 G _) rfl (hz_wsX10 _) tyX1_ok nmX1 (Nat.le_of_ble_eq_true rfl) (List.mem_cons_of_mem _ (aw_r7 _ (List.mem_of_getElem? (i := 6) rfl))) rfl rfl (Nat.le_of_ble_eq_true rfl) (ws_2_0 G _ _) dX2_readAll_127 (fun H locs hk => ?_)
    obtain ⟨σ14, eσ14⟩ : ∃ y : Sg, y = (put σ13 2 0 x3) := ⟨_, rfl⟩
    rw [← eσ14] at hk
    replace hw := hw σ14 eσ14
    refine lv_aload_n hx hb dX2_readAll_130 rfl (lv_at hl 0 rfl) ?_
    refine k_get 11 X hk (wg_3 G _) rfl (hz_wsX20 _) (Nat.le_of_ble_eq_true rfl) (List.mem_cons_of_mem _ (aw_r3 _ (List.mem_of_getElem? (i := 11) rfl))) rfl dX2_readAll_131 ?_
    refine lv_iconst (v := (0 : Int32)) hx hb dX2_readAll_134 (by decide) ?_
    refine lv_aload_n hx hb dX2_readAll_135 rfl (lv_at hl 0 rfl) ?_
    refine k_get 2 X hk (wg_3 G _) rfl (hz_wsX20 _) (Nat.le_of_ble_eq_true rfl) (List.mem_cons_of_mem _ (aw_r3 _ (List.mem_of_getElem? (i := 12) rfl))) rfl dX2_readAll_136 ?_
    refine k_get 4 X hk (wg_1 G _) rfl (hz_wsX30 _) (Nat.le_of_ble_eq_true rfl) (List.mem_cons_of_mem _ (aw_r7 _ (List.mem_of_getElem? (i := 7) rfl))) rfl dX2_readAll_139 ?_
    refine lv_iconst (v := (0 : Int32)) hx hb dX2_readAll_142 (by decide) ?_
    refine lv_bipush (v := (24 : Int32)) hx hb dX2_readAll_143 (by decide) ?_
    refine k_copy X hk hl.1 (List.mem_cons_of_mem _ (aw_r7 _ (List.mem_of_getElem? (i := 8) rfl))) (List.mem_cons_of_mem _ (aw_r7 _ (List.mem_of_getElem? (i := 9) rfl))) (List.mem_cons_of_mem _ (aw_r7 _ (List.mem_of_getElem? (i := 10) rfl))) (List.mem_cons_of_mem _ (aw_r7 _ (List.mem_of_getElem? (i := 11) rfl))) (wg_18 G _) (wg_8 G _) (ws_8 G _) hw.1 (Nat.le_of_ble_eq_true rfl) (Nat.le_of_ble_eq_true rfl) dX2_readAll_145 (fun H locs hk => ?_)
    replace hw := hw.2
    obtain ⟨σ15, eσ15⟩ : ∃ y : Sg, y = (setA σ14 8 (va_cpy (σ14 18) (σ14 8) ((0 : Int32)).toNatClampNeg ((0 : Int32)).toNatClampNeg ((24 : Int32)).toNatClampNeg)) := ⟨_, rfl⟩
    rw [← eσ15] at hk
    replace hw := hw σ15 eσ15
    refine lv_iconst (v := (-1 : Int32)) hx hb dX2_readAll_148 (by decide) ?_
    exact k_iret X hk hw dX2_readAll_149
  · replace hw := hw.1 c11
    refine lv_iload hx hb dX2_readAll_103 (lv_at hl 4 rfl) ?_
    exact k_iret X hk hw dX2_readAll_105
def wp_X2_readAll_59 (Q : Int32 → Sg → Prop)  : Nat → Int32 → Int32 → Int32 → Int32 → Sg → Prop
  | 0, _, _, _, _, _ => False
  | n + 1, x1, x2, x3, x4, σ => ((400 : Int32) < x4 → (wp_X2_readAll_91 Q  x1 x2 x3 x4 σ)) ∧ (¬ ((400 : Int32) < x4) → (((σ 3 6) = 0 → (wp_X2_readAll_91 Q  x1 x2 x3 x4 σ)) ∧ (¬ ((σ 3 6) = 0) → (wp_X2_readStatement σ  (fun r18 σ17 => (r18 = 0 → (wp_X2_readAll_91 Q  x1 x2 x3 x4 σ17)) ∧ (¬ (r18 = 0) → (∀ x4_20 : Int32, x4_20 = (x4 + (1 : Int32)) → (wp_X2_readToken σ17  (fun σ21 => wp_X2_readAll_59 Q  n x1 x2 x3 x4_20 σ21)))))))))
set_option maxHeartbeats 4000000 in
set_option maxRecDepth 100000 in
theorem t_X2_readAll_59 {p : Program} {l : Launch} {e : Env} {s : State} {m : MethodId} {args : Array Value} {below : List Frame} {meth : Method} {c : Code} {G : Gw} (X : KC p m meth c cX2_readAll 5 s args wz_X2_readAll RX2 (some .int) G) (Q : Int32 → Sg → Prop)  : ∀ (n : Nat) (σ : Sg) (x1 x2 x3 x4 : Int32) (H : Heap) (locs : List Loc) (ls : Array Slot), wp_X2_readAll_59 Q  n x1 x2 x3 x4 σ → WK G s H locs σ → lv_has ls 5 [(0, .ref (G.1 3)), (1, .int x1), (2, .int x2), (3, .int x3), (4, .int x4)] → W p l e rm_X2_readAll s m args below meth c H locs 0 0 (ZI below args s G Q) (F0 m 59 ls []) := by
  have hx := X.1.1
  have hb := X.1.2.1
  intro n
  induction n with
  | zero =>
    intro σ x1 x2 x3 x4 H locs ls hw hk hl
    exact False.elim hw
  | succ n ih =>
    intro σ x1 x2 x3 x4 H locs ls hw hk hl
    rw [wp_X2_readAll_59] at hw
    refine lv_iload hx hb dX2_readAll_59 (lv_at hl 4 rfl) ?_
    refine lv_sipush (v := (400 : Int32)) hx hb dX2_readAll_61 (by decide) ?_
    refine lv_icmp_gt (tgt := 91) hx hb dX2_readAll_64 (by decide) (fun c9 => ?_) (fun c9 => ?_)
    · replace hw := hw.1 c9
      exact t_X2_readAll_91 X Q   _ _ _ _ _ _ _ _ hw hk hl
    · replace hw := hw.2 c9
      refine lv_aload_n hx hb dX2_readAll_67 rfl (lv_at hl 0 rfl) ?_
      refine k_get 6 X hk (wg_3 G _) rfl (hz_wsX20 _) (Nat.le_of_ble_eq_true rfl) (List.mem_cons_of_mem _ (aw_r7 _ (List.mem_of_getElem? (i := 14) rfl))) rfl dX2_readAll_68 ?_
      refine lv_if_eq (tgt := 91) hx hb dX2_readAll_71 (by decide) (fun c16 => ?_) (fun c16 => ?_)
      · replace hw := hw.1 c16
        exact t_X2_readAll_91 X Q   _ _ _ _ _ _ _ _ hw hk hl
      · replace hw := hw.2 c16
        refine lv_aload_n hx hb dX2_readAll_74 rfl (lv_at hl 0 rfl) ?_
        refine k_callVi (rest := []) X hk (c_X2_readStatement l G _  _ hw) (cwV 0 X.1.2.2.2.2 (gzV (aw_r8 _ (List.mem_of_getElem? (i := 13) rfl)) (aw_r8 _ (List.mem_of_getElem? (i := 14) rfl)) (aw_r8 _ (List.mem_of_getElem? (i := 15) rfl)) (aw_r1 _ (List.mem_of_getElem? (i := 23) rfl)) (aw_r8 _ (List.mem_of_getElem? (i := 16) rfl))) rfl rfl rfl hd_X2_readStatement ⟨(Nat.le_of_ble_eq_true rfl), (Nat.le_of_ble_eq_true rfl)⟩) (wg_3 G _) rfl rfl hl.1 rfl (Nat.le_of_ble_eq_true rfl) dX2_readAll_75 ⟨Nat.zero_le _, Nat.zero_le _⟩ (fun r18 σ17 H locs hw hk => ?_)
        refine lv_if_eq (tgt := 91) hx hb dX2_readAll_78 (by decide) (fun c19 => ?_) (fun c19 => ?_)
        · replace hw := hw.1 c19
          exact t_X2_readAll_91 X Q   _ _ _ _ _ _ _ _ hw hk hl
        · replace hw := hw.2 c19
          obtain ⟨x4_20, ex4_20⟩ : ∃ y : Int32, y = (x4 + (1 : Int32)) := ⟨_, rfl⟩
          replace hw := hw x4_20 ex4_20
          refine lv_iinc (v := x4_20) (lv' := [(4, .int x4_20), (0, .ref (G.1 3)), (1, .int x1), (2, .int x2), (3, .int x3)]) hx hb dX2_readAll_81 hl (k := 4) rfl (by rw [ex4_20]; rfl) (Nat.le_of_ble_eq_true rfl) rfl (fun ls hl => ?_)
          refine lv_aload_n hx hb dX2_readAll_84 rfl (lv_at hl 1 rfl) ?_
          refine k_callVv (rest := []) X hk (c_X2_readToken l G _  _ hw) (cwV 0 X.1.2.2.2.2 (gzV (aw_r7 _ (List.mem_of_getElem? (i := 15) rfl)) (aw_r7 _ (List.mem_of_getElem? (i := 16) rfl)) (aw_r7 _ (List.mem_of_getElem? (i := 17) rfl)) (aw_r1 _ (List.mem_of_getElem? (i := 23) rfl)) (aw_r7 _ (List.mem_of_getElem? (i := 18) rfl))) rfl rfl rfl hd_X2_readToken ⟨(Nat.le_of_ble_eq_true rfl), (Nat.le_of_ble_eq_true rfl)⟩) (wg_3 G _) rfl rfl hl.1 rfl (Nat.le_of_ble_eq_true rfl) dX2_readAll_85 ⟨Nat.zero_le _, Nat.zero_le _⟩ (fun σ21 H locs hw hk => ?_)
          refine lv_goto (tgt := 59) hx hb dX2_readAll_88 (by decide) ?_
          exact ih _ _ _ _ _ _ _ _ hw hk (lv_sub hl [1, 2, 3, 4, 0] rfl)
def wp_X2_readAll (σ : Sg) (Q : Int32 → Sg → Prop) : Prop := ∀ x1_1 : Int32, x1_1 = (σ 1 0) → (∀ x2_2 : Int32, x2_2 = (σ 1 1) → (∀ x3_3 : Int32, x3_3 = (σ 2 0) → (k_cpyok (0 : Int32) (0 : Int32) (24 : Int32) 24 24 ∧ (∀ σ4 : Sg, σ4 = (setA σ 18 (va_cpy (σ 8) (σ 18) ((0 : Int32)).toNatClampNeg ((0 : Int32)).toNatClampNeg ((24 : Int32)).toNatClampNeg)) → (∀ σ5 : Sg, σ5 = (put σ4 3 1 (0 : Int32)) → (∀ σ6 : Sg, σ6 = (put σ5 3 5 (0 : Int32)) → (wp_X2_readToken σ6  (fun σ7 => ∃ n0, wp_X2_readAll_59 Q  n0 x1_1 x2_2 x3_3 (0 : Int32) σ7))))))))
set_option maxHeartbeats 4000000 in
set_option maxRecDepth 100000 in
theorem c_X2_readAll (l : Launch) (G : Gw) (σ : Sg) (Q : Int32 → Sg → Prop) (hw : wp_X2_readAll σ  Q) : MetI l yX2_readAll wz_X2_readAll rm_X2_readAll G σ [.ref (G.1 3)] Q := by
  refine MetI.of cX2_readAll 5 (some .int) (by decide) rfl (Nat.le_of_ble_eq_true rfl) ?_
  intro p e s m below meth c X hk ls hl
  have X : KC p m meth c cX2_readAll 5 s _ wz_X2_readAll RX2 (some .int) G := X
  have hl : lv_has ls 5 [(0, .ref (G.1 3))] := hl
  unfold wp_X2_readAll at hw
  have hx := X.1.1
  have hb := X.1.2.1
  refine lv_aload_n hx hb dX2_readAll_0 rfl (lv_at hl 0 rfl) ?_
  refine k_get 2 X hk (wg_3 G _) rfl (hz_wsX20 _) (Nat.le_of_ble_eq_true rfl) (List.mem_cons_of_mem _ (aw_r3 _ (List.mem_of_getElem? (i := 12) rfl))) rfl dX2_readAll_1 ?_
  refine k_get 0 X hk (wg_1 G _) rfl (hz_wsX30 _) (Nat.le_of_ble_eq_true rfl) (List.mem_cons_of_mem _ (aw_r7 _ (List.mem_of_getElem? (i := 4) rfl))) rfl dX2_readAll_4 ?_
  refine lv_topi (fun x1_1 ex1_1 => ?_)
  replace hw := hw x1_1 ex1_1
  refine lv_istore_n (lv' := [(1, .int x1_1), (0, .ref (G.1 3))]) hx hb dX2_readAll_7 rfl hl (Nat.le_of_ble_eq_true rfl) rfl (fun ls hl => ?_)
  refine lv_aload_n hx hb dX2_readAll_8 rfl (lv_at hl 1 rfl) ?_
  refine k_get 2 X hk (wg_3 G _) rfl (hz_wsX20 _) (Nat.le_of_ble_eq_true rfl) (List.mem_cons_of_mem _ (aw_r3 _ (List.mem_of_getElem? (i := 12) rfl))) rfl dX2_readAll_9 ?_
  refine k_get 1 X hk (wg_1 G _) rfl (hz_wsX30 _) (Nat.le_of_ble_eq_true rfl) (List.mem_cons_of_mem _ (aw_r7 _ (List.mem_of_getElem? (i := 5) rfl))) rfl dX2_readAll_12 ?_
  refine lv_topi (fun x2_2 ex2_2 => ?_)
  replace hw := hw x2_2 ex2_2
  refine lv_istore_n (lv' := [(2, .int x2_2), (1, .int x1_1), (0, .ref (G.1 3))]) hx hb dX2_readAll_15 rfl hl (Nat.le_of_ble_eq_true rfl) rfl (fun ls hl => ?_)
  refine lv_aload_n hx hb dX2_readAll_16 rfl (lv_at hl 2 rfl) ?_
  refine k_get 3 X hk (wg_3 G _) rfl (hz_wsX20 _) (Nat.le_of_ble_eq_true rfl) (List.mem_cons_of_mem _ (aw_r3 _ (List.mem_of_getElem? (i := 13) rfl))) rfl dX2_readAll_17 ?_
  refine k_get 0 X hk (wg_2 G _) rfl (hz_wsX10 _) (Nat.le_of_ble_eq_true rfl) (List.mem_cons_of_mem _ (aw_r7 _ (List.mem_of_getElem? (i := 6) rfl))) rfl dX2_readAll_20 ?_
  refine lv_topi (fun x3_3 ex3_3 => ?_)
  replace hw := hw x3_3 ex3_3
  refine lv_istore_n (lv' := [(3, .int x3_3), (2, .int x2_2), (1, .int x1_1), (0, .ref (G.1 3))]) hx hb dX2_readAll_23 rfl hl (Nat.le_of_ble_eq_true rfl) rfl (fun ls hl => ?_)
  refine lv_aload_n hx hb dX2_readAll_24 rfl (lv_at hl 3 rfl) ?_
  refine k_get 2 X hk (wg_3 G _) rfl (hz_wsX20 _) (Nat.le_of_ble_eq_true rfl) (List.mem_cons_of_mem _ (aw_r3 _ (List.mem_of_getElem? (i := 12) rfl))) rfl dX2_readAll_25 ?_
  refine k_get 4 X hk (wg_1 G _) rfl (hz_wsX30 _) (Nat.le_of_ble_eq_true rfl) (List.mem_cons_of_mem _ (aw_r7 _ (List.mem_of_getElem? (i := 7) rfl))) rfl dX2_readAll_28 ?_
  refine lv_iconst (v := (0 : Int32)) hx hb dX2_readAll_31 (by decide) ?_
  refine lv_aload_n hx hb dX2_readAll_32 rfl (lv_at hl 3 rfl) ?_
  refine k_get 11 X hk (wg_3 G _) rfl (hz_wsX20 _) (Nat.le_of_ble_eq_true rfl) (List.mem_cons_of_mem _ (aw_r3 _ (List.mem_of_getElem? (i := 11) rfl))) rfl dX2_readAll_33 ?_
  refine lv_iconst (v := (0 : Int32)) hx hb dX2_readAll_36 (by decide) ?_
  refine lv_bipush (v := (24 : Int32)) hx hb dX2_readAll_37 (by decide) ?_
  refine k_copy X hk hl.1 (List.mem_cons_of_mem _ (aw_r7 _ (List.mem_of_getElem? (i := 8) rfl))) (List.mem_cons_of_mem _ (aw_r7 _ (List.mem_of_getElem? (i := 9) rfl))) (List.mem_cons_of_mem _ (aw_r7 _ (List.mem_of_getElem? (i := 10) rfl))) (List.mem_cons_of_mem _ (aw_r7 _ (List.mem_of_getElem? (i := 11) rfl))) (wg_8 G _) (wg_18 G _) (ws_18 G _) hw.1 (Nat.le_of_ble_eq_true rfl) (Nat.le_of_ble_eq_true rfl) dX2_readAll_39 (fun H locs hk => ?_)
  replace hw := hw.2
  obtain ⟨σ4, eσ4⟩ : ∃ y : Sg, y = (setA σ 18 (va_cpy (σ 8) (σ 18) ((0 : Int32)).toNatClampNeg ((0 : Int32)).toNatClampNeg ((24 : Int32)).toNatClampNeg)) := ⟨_, rfl⟩
  rw [← eσ4] at hk
  replace hw := hw σ4 eσ4
  refine lv_aload_n hx hb dX2_readAll_42 rfl (lv_at hl 3 rfl) ?_
  refine lv_iconst (v := (0 : Int32)) hx hb dX2_readAll_43 (by decide) ?_
  refine k_put 1 X hk (wg_3 G _) rfl (hz_wsX20 _) tyX2_ok nmX2 (Nat.le_of_ble_eq_true rfl) (List.mem_cons_of_mem _ (aw_r7 _ (List.mem_of_getElem? (i := 12) rfl))) rfl rfl (Nat.le_of_ble_eq_true rfl) (ws_3_1 G _ _) dX2_readAll_44 (fun H locs hk => ?_)
  obtain ⟨σ5, eσ5⟩ : ∃ y : Sg, y = (put σ4 3 1 (0 : Int32)) := ⟨_, rfl⟩
  rw [← eσ5] at hk
  replace hw := hw σ5 eσ5
  refine lv_aload_n hx hb dX2_readAll_47 rfl (lv_at hl 3 rfl) ?_
  refine lv_iconst (v := (0 : Int32)) hx hb dX2_readAll_48 (by decide) ?_
  refine k_put 5 X hk (wg_3 G _) rfl (hz_wsX20 _) tyX2_ok nmX2 (Nat.le_of_ble_eq_true rfl) (List.mem_cons_of_mem _ (aw_r7 _ (List.mem_of_getElem? (i := 13) rfl))) rfl rfl (Nat.le_of_ble_eq_true rfl) (ws_3_5 G _ _) dX2_readAll_49 (fun H locs hk => ?_)
  obtain ⟨σ6, eσ6⟩ : ∃ y : Sg, y = (put σ5 3 5 (0 : Int32)) := ⟨_, rfl⟩
  rw [← eσ6] at hk
  replace hw := hw σ6 eσ6
  refine lv_iconst (v := (0 : Int32)) hx hb dX2_readAll_52 (by decide) ?_
  refine lv_istore (lv' := [(4, .int (0 : Int32)), (3, .int x3_3), (2, .int x2_2), (1, .int x1_1), (0, .ref (G.1 3))]) hx hb dX2_readAll_53 hl (Nat.le_of_ble_eq_true rfl) rfl (fun ls hl => ?_)
  refine lv_aload_n hx hb dX2_readAll_55 rfl (lv_at hl 4 rfl) ?_
  refine k_callVv (rest := []) X hk (c_X2_readToken l G _  _ hw) (cwV 0 X.1.2.2.2.2 (gzV (aw_r7 _ (List.mem_of_getElem? (i := 15) rfl)) (aw_r7 _ (List.mem_of_getElem? (i := 16) rfl)) (aw_r7 _ (List.mem_of_getElem? (i := 17) rfl)) (aw_r1 _ (List.mem_of_getElem? (i := 23) rfl)) (aw_r7 _ (List.mem_of_getElem? (i := 18) rfl))) rfl rfl rfl hd_X2_readToken ⟨(Nat.le_of_ble_eq_true rfl), (Nat.le_of_ble_eq_true rfl)⟩) (wg_3 G _) rfl rfl hl.1 rfl (Nat.le_of_ble_eq_true rfl) dX2_readAll_56 ⟨Nat.zero_le _, Nat.zero_le _⟩ (fun σ7 H locs hw hk => ?_)
  obtain ⟨n0, hw⟩ := hw
  exact t_X2_readAll_59 X Q   n0 _ _ _ _ _ _ _ _ hw hk (lv_sub hl [4, 3, 2, 1, 0] rfl)
