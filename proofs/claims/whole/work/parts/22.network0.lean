def rm_X0_addArc : Room := { frames := 0, cells := 0, slots := 0, locals := 0 }
abbrev wz_X0_addArc : List Cond := Cond.code yX0_addArc cX0_addArc 4 none :: wsA
theorem hd_X0_addArc : yX0_addArc.cls = RX0 ∧ yX0_addArc.cls ≠ "java/lang/invoke/MethodHandle" ∧ yX0_addArc.cls ≠ "java/lang/invoke/VarHandle" ∧ (parseMethodDescriptor yX0_addArc.desc).map (fun d => d.parameters.length) = some 3 := by decide +kernel
def wp_X0_addArc (σ : Sg) (p1 p2 p3 : Int32) (Q : Sg → Prop) : Prop := vp_in (σ 4 1) 3968 ∧ (∀ σ1 : Sg, σ1 = (put σ 21 ((σ 4 1)).toNatClampNeg p2) → (vp_in (σ1 4 1) 3968 ∧ (∀ σ2 : Sg, σ2 = (put σ1 22 ((σ1 4 1)).toNatClampNeg p3) → (vp_in p1 346 ∧ (vp_in (σ2 4 1) 3968 ∧ (∀ σ3 : Sg, σ3 = (put σ2 20 ((σ2 4 1)).toNatClampNeg (σ2 19 (p1).toNatClampNeg)) → (vp_in p1 346 ∧ (∀ σ4 : Sg, σ4 = (put σ3 19 (p1).toNatClampNeg (σ3 4 1)) → (∀ σ5 : Sg, σ5 = (put σ4 4 1 ((σ4 4 1) + (1 : Int32))) → (Q σ5))))))))))
set_option maxHeartbeats 4000000 in
set_option maxRecDepth 100000 in
theorem c_X0_addArc (l : Launch) (G : Gw) (σ : Sg) (p1 p2 p3 : Int32) (Q : Sg → Prop) (hw : wp_X0_addArc σ p1 p2 p3 Q) : MetV l yX0_addArc wz_X0_addArc rm_X0_addArc G σ [.ref (G.1 4), .int p1, .int p2, .int p3] Q := by
  refine MetV.of cX0_addArc 4 none (by decide) rfl (Nat.le_of_ble_eq_true rfl) ?_
  intro p e s m below meth c X hk ls hl
  have X : KC p m meth c cX0_addArc 4 s _ wz_X0_addArc RX0 none G := X
  have hl : lv_has ls 4 [(0, .ref (G.1 4)), (1, .int p1), (2, .int p2), (3, .int p3)] := hl
  unfold wp_X0_addArc at hw
  have hx := X.1.1
  have hb := X.1.2.1
  refine lv_aload_n hx hb dX0_addArc_0 rfl (lv_at hl 0 rfl) ?_
  refine k_get 7 X hk (wg_4 G _) rfl (hz_wsX00 _) (Nat.le_of_ble_eq_true rfl) (List.mem_cons_of_mem _ (aw_r3 _ (List.mem_of_getElem? (i := 20) rfl))) rfl dX0_addArc_1 ?_
  refine lv_aload_n hx hb dX0_addArc_4 rfl (lv_at hl 0 rfl) ?_
  refine k_get 1 X hk (wg_4 G _) rfl (hz_wsX00 _) (Nat.le_of_ble_eq_true rfl) (List.mem_cons_of_mem _ (aw_r26 _ (List.mem_of_getElem? (i := 11) rfl))) rfl dX0_addArc_5 ?_
  refine lv_iload_n hx hb dX0_addArc_8 rfl (lv_at hl 2 rfl) ?_
  refine k_iast X hk (wg_21 G _) (ws_21 G _) rfl hw.1 dX0_addArc_9 (fun H locs hk => ?_)
  replace hw := hw.2
  obtain ⟨σ1, eσ1⟩ : ∃ y : Sg, y = (put σ 21 ((σ 4 1)).toNatClampNeg p2) := ⟨_, rfl⟩
  rw [← eσ1] at hk
  replace hw := hw σ1 eσ1
  refine lv_aload_n hx hb dX0_addArc_10 rfl (lv_at hl 0 rfl) ?_
  refine k_get 8 X hk (wg_4 G _) rfl (hz_wsX00 _) (Nat.le_of_ble_eq_true rfl) (List.mem_cons_of_mem _ (aw_r3 _ (List.mem_of_getElem? (i := 21) rfl))) rfl dX0_addArc_11 ?_
  refine lv_aload_n hx hb dX0_addArc_14 rfl (lv_at hl 0 rfl) ?_
  refine k_get 1 X hk (wg_4 G _) rfl (hz_wsX00 _) (Nat.le_of_ble_eq_true rfl) (List.mem_cons_of_mem _ (aw_r26 _ (List.mem_of_getElem? (i := 11) rfl))) rfl dX0_addArc_15 ?_
  refine lv_iload_n hx hb dX0_addArc_18 rfl (lv_at hl 3 rfl) ?_
  refine k_iast X hk (wg_22 G _) (ws_22 G _) rfl hw.1 dX0_addArc_19 (fun H locs hk => ?_)
  replace hw := hw.2
  obtain ⟨σ2, eσ2⟩ : ∃ y : Sg, y = (put σ1 22 ((σ1 4 1)).toNatClampNeg p3) := ⟨_, rfl⟩
  rw [← eσ2] at hk
  replace hw := hw σ2 eσ2
  refine lv_aload_n hx hb dX0_addArc_20 rfl (lv_at hl 0 rfl) ?_
  refine k_get 6 X hk (wg_4 G _) rfl (hz_wsX00 _) (Nat.le_of_ble_eq_true rfl) (List.mem_cons_of_mem _ (aw_r3 _ (List.mem_of_getElem? (i := 19) rfl))) rfl dX0_addArc_21 ?_
  refine lv_aload_n hx hb dX0_addArc_24 rfl (lv_at hl 0 rfl) ?_
  refine k_get 1 X hk (wg_4 G _) rfl (hz_wsX00 _) (Nat.le_of_ble_eq_true rfl) (List.mem_cons_of_mem _ (aw_r26 _ (List.mem_of_getElem? (i := 11) rfl))) rfl dX0_addArc_25 ?_
  refine lv_aload_n hx hb dX0_addArc_28 rfl (lv_at hl 0 rfl) ?_
  refine k_get 5 X hk (wg_4 G _) rfl (hz_wsX00 _) (Nat.le_of_ble_eq_true rfl) (List.mem_cons_of_mem _ (aw_r3 _ (List.mem_of_getElem? (i := 18) rfl))) rfl dX0_addArc_29 ?_
  refine lv_iload_n hx hb dX0_addArc_32 rfl (lv_at hl 1 rfl) ?_
  refine k_iald X hk (wg_19 G _) hw.1 dX0_addArc_33 ?_
  replace hw := hw.2
  refine k_iast X hk (wg_20 G _) (ws_20 G _) rfl hw.1 dX0_addArc_34 (fun H locs hk => ?_)
  replace hw := hw.2
  obtain ⟨σ3, eσ3⟩ : ∃ y : Sg, y = (put σ2 20 ((σ2 4 1)).toNatClampNeg (σ2 19 (p1).toNatClampNeg)) := ⟨_, rfl⟩
  rw [← eσ3] at hk
  replace hw := hw σ3 eσ3
  refine lv_aload_n hx hb dX0_addArc_35 rfl (lv_at hl 0 rfl) ?_
  refine k_get 5 X hk (wg_4 G _) rfl (hz_wsX00 _) (Nat.le_of_ble_eq_true rfl) (List.mem_cons_of_mem _ (aw_r3 _ (List.mem_of_getElem? (i := 18) rfl))) rfl dX0_addArc_36 ?_
  refine lv_iload_n hx hb dX0_addArc_39 rfl (lv_at hl 1 rfl) ?_
  refine lv_aload_n hx hb dX0_addArc_40 rfl (lv_at hl 0 rfl) ?_
  refine k_get 1 X hk (wg_4 G _) rfl (hz_wsX00 _) (Nat.le_of_ble_eq_true rfl) (List.mem_cons_of_mem _ (aw_r26 _ (List.mem_of_getElem? (i := 11) rfl))) rfl dX0_addArc_41 ?_
  refine k_iast X hk (wg_19 G _) (ws_19 G _) rfl hw.1 dX0_addArc_44 (fun H locs hk => ?_)
  replace hw := hw.2
  obtain ⟨σ4, eσ4⟩ : ∃ y : Sg, y = (put σ3 19 (p1).toNatClampNeg (σ3 4 1)) := ⟨_, rfl⟩
  rw [← eσ4] at hk
  replace hw := hw σ4 eσ4
  refine lv_aload_n hx hb dX0_addArc_45 rfl (lv_at hl 0 rfl) ?_
  refine lv_dup hx hb dX0_addArc_46 rfl ?_
  refine k_get 1 X hk (wg_4 G _) rfl (hz_wsX00 _) (Nat.le_of_ble_eq_true rfl) (List.mem_cons_of_mem _ (aw_r26 _ (List.mem_of_getElem? (i := 11) rfl))) rfl dX0_addArc_47 ?_
  refine lv_iconst (v := (1 : Int32)) hx hb dX0_addArc_50 (by decide) ?_
  refine lv_iadd hx hb dX0_addArc_51 ?_
  refine k_put 1 X hk (wg_4 G _) rfl (hz_wsX00 _) tyX0_ok nmX0 (Nat.le_of_ble_eq_true rfl) (List.mem_cons_of_mem _ (aw_r26 _ (List.mem_of_getElem? (i := 11) rfl))) rfl rfl (Nat.le_of_ble_eq_true rfl) (ws_4_1 G _ _) dX0_addArc_52 (fun H locs hk => ?_)
  obtain ⟨σ5, eσ5⟩ : ∃ y : Sg, y = (put σ4 4 1 ((σ4 4 1) + (1 : Int32))) := ⟨_, rfl⟩
  rw [← eσ5] at hk
  replace hw := hw σ5 eσ5
  exact k_vret X hk hw dX0_addArc_55
def rm_X0_join : Room := { frames := 1, cells := 0, slots := 0, locals := 23 }
abbrev wz_X0_join : List Cond := Cond.code yX0_join cX0_join 4 none :: wsA
theorem hd_X0_join : yX0_join.cls = RX0 ∧ yX0_join.cls ≠ "java/lang/invoke/MethodHandle" ∧ yX0_join.cls ≠ "java/lang/invoke/VarHandle" ∧ (parseMethodDescriptor yX0_join.desc).map (fun d => d.parameters.length) = some 3 := by decide +kernel
def wp_X0_join (σ : Sg) (p1 p2 p3 : Int32) (Q : Sg → Prop) : Prop := (p3 ≤ 0 → (Q σ)) ∧ (¬ (p3 ≤ 0) → (wp_X0_addArc σ p1 p2 p3 (fun σ2 => wp_X0_addArc σ2 p2 p1 (0 : Int32) (fun σ4 => Q σ4))))
set_option maxHeartbeats 4000000 in
set_option maxRecDepth 100000 in
theorem c_X0_join (l : Launch) (G : Gw) (σ : Sg) (p1 p2 p3 : Int32) (Q : Sg → Prop) (hw : wp_X0_join σ p1 p2 p3 Q) : MetV l yX0_join wz_X0_join rm_X0_join G σ [.ref (G.1 4), .int p1, .int p2, .int p3] Q := by
  refine MetV.of cX0_join 4 none (by decide) rfl (Nat.le_of_ble_eq_true rfl) ?_
  intro p e s m below meth c X hk ls hl
  have X : KC p m meth c cX0_join 4 s _ wz_X0_join RX0 none G := X
  have hl : lv_has ls 4 [(0, .ref (G.1 4)), (1, .int p1), (2, .int p2), (3, .int p3)] := hl
  unfold wp_X0_join at hw
  have hx := X.1.1
  have hb := X.1.2.1
  refine lv_iload_n hx hb dX0_join_0 rfl (lv_at hl 3 rfl) ?_
  refine lv_if_le (tgt := 18) hx hb dX0_join_1 (by decide) (fun c1 => ?_) (fun c1 => ?_)
  · replace hw := hw.1 c1
    exact k_vret X hk hw dX0_join_18
  · replace hw := hw.2 c1
    refine lv_aload_n hx hb dX0_join_4 rfl (lv_at hl 0 rfl) ?_
    refine lv_iload_n hx hb dX0_join_5 rfl (lv_at hl 1 rfl) ?_
    refine lv_iload_n hx hb dX0_join_6 rfl (lv_at hl 2 rfl) ?_
    refine lv_iload_n hx hb dX0_join_7 rfl (lv_at hl 3 rfl) ?_
    refine k_callVv (rest := []) X hk (c_X0_addArc l G _ _ _ _ _ hw) (cwV 3 X.1.2.2.2.2 (gzV (aw_r27 _ (List.mem_of_getElem? (i := 1) rfl)) (aw_r27 _ (List.mem_of_getElem? (i := 2) rfl)) (aw_r27 _ (List.mem_of_getElem? (i := 3) rfl)) (aw_r2 _ (List.mem_of_getElem? (i := 3) rfl)) (aw_r27 _ (List.mem_of_getElem? (i := 4) rfl))) rfl rfl rfl hd_X0_addArc ⟨(Nat.le_of_ble_eq_true rfl), (Nat.le_of_ble_eq_true rfl)⟩) (wg_4 G _) rfl rfl hl.1 rfl (Nat.le_of_ble_eq_true rfl) dX0_join_8 ⟨Nat.zero_le _, Nat.zero_le _⟩ (fun σ2 H locs hw hk => ?_)
    refine lv_aload_n hx hb dX0_join_11 rfl (lv_at hl 0 rfl) ?_
    refine lv_iload_n hx hb dX0_join_12 rfl (lv_at hl 2 rfl) ?_
    refine lv_iload_n hx hb dX0_join_13 rfl (lv_at hl 1 rfl) ?_
    refine lv_iconst (v := (0 : Int32)) hx hb dX0_join_14 (by decide) ?_
    refine k_callVv (rest := []) X hk (c_X0_addArc l G _ _ _ _ _ hw) (cwV 3 X.1.2.2.2.2 (gzV (aw_r27 _ (List.mem_of_getElem? (i := 1) rfl)) (aw_r27 _ (List.mem_of_getElem? (i := 2) rfl)) (aw_r27 _ (List.mem_of_getElem? (i := 3) rfl)) (aw_r2 _ (List.mem_of_getElem? (i := 3) rfl)) (aw_r27 _ (List.mem_of_getElem? (i := 4) rfl))) rfl rfl rfl hd_X0_addArc ⟨(Nat.le_of_ble_eq_true rfl), (Nat.le_of_ble_eq_true rfl)⟩) (wg_4 G _) rfl rfl hl.1 rfl (Nat.le_of_ble_eq_true rfl) dX0_join_15 ⟨Nat.zero_le _, Nat.zero_le _⟩ (fun σ4 H locs hw hk => ?_)
    exact k_vret X hk hw dX0_join_18
def rm_X0_addMinute : Room := { frames := 2, cells := 0, slots := 0, locals := 46 }
abbrev wz_X0_addMinute : List Cond := Cond.code yX0_addMinute cX0_addMinute 4 none :: wsA
theorem hd_X0_addMinute : yX0_addMinute.cls = RX0 ∧ yX0_addMinute.cls ≠ "java/lang/invoke/MethodHandle" ∧ yX0_addMinute.cls ≠ "java/lang/invoke/VarHandle" ∧ (parseMethodDescriptor yX0_addMinute.desc).map (fun d => d.parameters.length) = some 0 := by decide +kernel
def wp_X0_addMinute_201 (Q : Sg → Prop) (K126 : Int32 → Int32 → Sg → Prop) (x1 x2 : Int32) (σ : Sg) : Prop := ∀ x2_7 : Int32, x2_7 = (x2 + (1 : Int32)) → (K126 x1 x2_7 σ)
set_option maxHeartbeats 4000000 in
set_option maxRecDepth 100000 in
theorem t_X0_addMinute_201 {p : Program} {l : Launch} {e : Env} {s : State} {m : MethodId} {args : Array Value} {below : List Frame} {meth : Method} {c : Code} {G : Gw} (X : KC p m meth c cX0_addMinute 4 s args wz_X0_addMinute RX0 none G) (Q : Sg → Prop) (K126 : Int32 → Int32 → Sg → Prop) (hK126 : ∀ (σ : Sg) (x1 x2 : Int32) (H : Heap) (locs : List Loc) (ls : Array Slot), K126 x1 x2 σ → WK G s H locs σ → lv_has ls 4 [(0, .ref (G.1 4)), (1, .int x1), (2, .int x2)] → W p l e rm_X0_addMinute s m args below meth c H locs 0 0 (ZV below args s G Q) (F0 m 126 ls [])) : ∀ (σ : Sg) (x1 x2 : Int32) (H : Heap) (locs : List Loc) (ls : Array Slot), wp_X0_addMinute_201 Q K126 x1 x2 σ → WK G s H locs σ → lv_has ls 4 [(0, .ref (G.1 4)), (1, .int x1), (2, .int x2)] → W p l e rm_X0_addMinute s m args below meth c H locs 0 0 (ZV below args s G Q) (F0 m 201 ls []) := by
  have hx := X.1.1
  have hb := X.1.2.1
  intro σ x1 x2 H locs ls hw hk hl
  unfold wp_X0_addMinute_201 at hw
  obtain ⟨x2_7, ex2_7⟩ : ∃ y : Int32, y = (x2 + (1 : Int32)) := ⟨_, rfl⟩
  replace hw := hw x2_7 ex2_7
  refine lv_iinc (v := x2_7) (lv' := [(2, .int x2_7), (0, .ref (G.1 4)), (1, .int x1)]) hx hb dX0_addMinute_201 hl (k := 2) rfl (by rw [ex2_7]; rfl) (Nat.le_of_ble_eq_true rfl) rfl (fun ls hl => ?_)
  refine lv_goto (tgt := 126) hx hb dX0_addMinute_204 (by decide) ?_
  exact hK126 _ _ _ _ _ _ hw hk (lv_sub hl [1, 2, 0] rfl)
def wp_X0_addMinute_126 (Q : Sg → Prop)  : Nat → Int32 → Int32 → Sg → Prop
  | 0, _, _, _ => False
  | n + 1, x1, x2, σ => (((2 : Int32) * (σ 1 1)) ≤ x2 → (Q σ)) ∧ (¬ (((2 : Int32) * (σ 1 1)) ≤ x2) → (vp_in (x2 / (2 : Int32)) 12 ∧ (∀ x3_5 : Int32, x3_5 = (σ 6 ((x2 / (2 : Int32))).toNatClampNeg) → (((σ 4 2) < x3_5 → (wp_X0_addMinute_201 Q (fun z1 z2 σ => wp_X0_addMinute_126 Q  n z1 z2 σ) x1 x2 σ)) ∧ (¬ ((σ 4 2) < x3_5) → (vp_in x2 24 ∧ (vp_in (x2 ^^^ (1 : Int32)) 24 ∧ (vp_in x2 24 ∧ (wp_X0_join σ ((x1 - (x3_5 * (8 : Int32))) + (σ 7 (x2).toNatClampNeg)) (x1 + (σ 7 ((x2 ^^^ (1 : Int32))).toNatClampNeg)) (σ 8 (x2).toNatClampNeg) (fun σ8 => wp_X0_addMinute_201 Q (fun z1 z2 σ => wp_X0_addMinute_126 Q  n z1 z2 σ) x1 x2 σ8))))))))))
set_option maxHeartbeats 4000000 in
set_option maxRecDepth 100000 in
theorem t_X0_addMinute_126 {p : Program} {l : Launch} {e : Env} {s : State} {m : MethodId} {args : Array Value} {below : List Frame} {meth : Method} {c : Code} {G : Gw} (X : KC p m meth c cX0_addMinute 4 s args wz_X0_addMinute RX0 none G) (Q : Sg → Prop)  : ∀ (n : Nat) (σ : Sg) (x1 x2 : Int32) (H : Heap) (locs : List Loc) (ls : Array Slot), wp_X0_addMinute_126 Q  n x1 x2 σ → WK G s H locs σ → lv_has ls 4 [(0, .ref (G.1 4)), (1, .int x1), (2, .int x2)] → W p l e rm_X0_addMinute s m args below meth c H locs 0 0 (ZV below args s G Q) (F0 m 126 ls []) := by
  have hx := X.1.1
  have hb := X.1.2.1
  intro n
  induction n with
  | zero =>
    intro σ x1 x2 H locs ls hw hk hl
    exact False.elim hw
  | succ n ih =>
    intro σ x1 x2 H locs ls hw hk hl
    rw [wp_X0_addMinute_126] at hw
    refine lv_iload_n hx hb dX0_addMinute_126 rfl (lv_at hl 2 rfl) ?_
    refine lv_iconst (v := (2 : Int32)) hx hb dX0_addMinute_127 (by decide) ?_
    refine lv_aload_n hx hb dX0_addMinute_128 rfl (lv_at hl 0 rfl) ?_
    refine k_get 0 X hk (wg_4 G _) rfl (hz_wsX00 _) (Nat.le_of_ble_eq_true rfl) (List.mem_cons_of_mem _ (aw_r4 _ (List.mem_of_getElem? (i := 3) rfl))) rfl dX0_addMinute_129 ?_
    refine k_get 1 X hk (wg_1 G _) rfl (hz_wsX30 _) (Nat.le_of_ble_eq_true rfl) (List.mem_cons_of_mem _ (aw_r27 _ (List.mem_of_getElem? (i := 9) rfl))) rfl dX0_addMinute_132 ?_
    refine lv_imul hx hb dX0_addMinute_135 ?_
    refine lv_icmp_ge (tgt := 207) hx hb dX0_addMinute_136 (by decide) (fun c4 => ?_) (fun c4 => ?_)
    · replace hw := hw.1 c4
      exact k_vret X hk hw dX0_addMinute_207
    · replace hw := hw.2 c4
      refine lv_aload_n hx hb dX0_addMinute_139 rfl (lv_at hl 0 rfl) ?_
      refine k_get 0 X hk (wg_4 G _) rfl (hz_wsX00 _) (Nat.le_of_ble_eq_true rfl) (List.mem_cons_of_mem _ (aw_r4 _ (List.mem_of_getElem? (i := 3) rfl))) rfl dX0_addMinute_140 ?_
      refine k_get 2 X hk (wg_1 G _) rfl (hz_wsX30 _) (Nat.le_of_ble_eq_true rfl) (List.mem_cons_of_mem _ (aw_r27 _ (List.mem_of_getElem? (i := 10) rfl))) rfl dX0_addMinute_143 ?_
      refine lv_iload_n hx hb dX0_addMinute_146 rfl (lv_at hl 2 rfl) ?_
      refine lv_iconst (v := (2 : Int32)) hx hb dX0_addMinute_147 (by decide) ?_
      refine lv_idiv hx hb dX0_addMinute_148 (by decide) ?_
      refine k_iald X hk (wg_6 G _) hw.1 dX0_addMinute_149 ?_
      replace hw := hw.2
      refine lv_topi (fun x3_5 ex3_5 => ?_)
      replace hw := hw x3_5 ex3_5
      refine lv_istore_n (lv' := [(3, .int x3_5), (0, .ref (G.1 4)), (1, .int x1), (2, .int x2)]) hx hb dX0_addMinute_150 rfl hl (Nat.le_of_ble_eq_true rfl) rfl (fun ls hl => ?_)
      refine lv_aload_n hx hb dX0_addMinute_151 rfl (lv_at hl 1 rfl) ?_
      refine k_get 2 X hk (wg_4 G _) rfl (hz_wsX00 _) (Nat.le_of_ble_eq_true rfl) (List.mem_cons_of_mem _ (aw_r26 _ (List.mem_of_getElem? (i := 12) rfl))) rfl dX0_addMinute_152 ?_
      refine lv_iload_n hx hb dX0_addMinute_155 rfl (lv_at hl 0 rfl) ?_
      refine lv_icmp_lt (tgt := 201) hx hb dX0_addMinute_156 (by decide) (fun c6 => ?_) (fun c6 => ?_)
      · replace hw := hw.1 c6
        exact t_X0_addMinute_201 X Q _ ih _ _ _ _ _ _ hw hk (lv_sub hl [1, 2, 3] rfl)
      · replace hw := hw.2 c6
        refine lv_aload_n hx hb dX0_addMinute_159 rfl (lv_at hl 1 rfl) ?_
        refine lv_iload_n hx hb dX0_addMinute_160 rfl (lv_at hl 2 rfl) ?_
        refine lv_iload_n hx hb dX0_addMinute_161 rfl (lv_at hl 0 rfl) ?_
        refine lv_bipush (v := (8 : Int32)) hx hb dX0_addMinute_162 (by decide) ?_
        refine lv_imul hx hb dX0_addMinute_164 ?_
        refine lv_isub hx hb dX0_addMinute_165 ?_
        refine lv_aload_n hx hb dX0_addMinute_166 rfl (lv_at hl 1 rfl) ?_
        refine k_get 0 X hk (wg_4 G _) rfl (hz_wsX00 _) (Nat.le_of_ble_eq_true rfl) (List.mem_cons_of_mem _ (aw_r4 _ (List.mem_of_getElem? (i := 3) rfl))) rfl dX0_addMinute_167 ?_
        refine k_get 3 X hk (wg_1 G _) rfl (hz_wsX30 _) (Nat.le_of_ble_eq_true rfl) (List.mem_cons_of_mem _ (aw_r27 _ (List.mem_of_getElem? (i := 11) rfl))) rfl dX0_addMinute_170 ?_
        refine lv_iload_n hx hb dX0_addMinute_173 rfl (lv_at hl 3 rfl) ?_
        refine k_iald X hk (wg_7 G _) hw.1 dX0_addMinute_174 ?_
        replace hw := hw.2
        refine lv_iadd hx hb dX0_addMinute_175 ?_
        refine lv_iload_n hx hb dX0_addMinute_176 rfl (lv_at hl 2 rfl) ?_
        refine lv_aload_n hx hb dX0_addMinute_177 rfl (lv_at hl 1 rfl) ?_
        refine k_get 0 X hk (wg_4 G _) rfl (hz_wsX00 _) (Nat.le_of_ble_eq_true rfl) (List.mem_cons_of_mem _ (aw_r4 _ (List.mem_of_getElem? (i := 3) rfl))) rfl dX0_addMinute_178 ?_
        refine k_get 3 X hk (wg_1 G _) rfl (hz_wsX30 _) (Nat.le_of_ble_eq_true rfl) (List.mem_cons_of_mem _ (aw_r27 _ (List.mem_of_getElem? (i := 11) rfl))) rfl dX0_addMinute_181 ?_
        refine lv_iload_n hx hb dX0_addMinute_184 rfl (lv_at hl 3 rfl) ?_
        refine lv_iconst (v := (1 : Int32)) hx hb dX0_addMinute_185 (by decide) ?_
        refine lv_ixor hx hb dX0_addMinute_186 ?_
        refine k_iald X hk (wg_7 G _) hw.1 dX0_addMinute_187 ?_
        replace hw := hw.2
        refine lv_iadd hx hb dX0_addMinute_188 ?_
        refine lv_aload_n hx hb dX0_addMinute_189 rfl (lv_at hl 1 rfl) ?_
        refine k_get 0 X hk (wg_4 G _) rfl (hz_wsX00 _) (Nat.le_of_ble_eq_true rfl) (List.mem_cons_of_mem _ (aw_r4 _ (List.mem_of_getElem? (i := 3) rfl))) rfl dX0_addMinute_190 ?_
        refine k_get 4 X hk (wg_1 G _) rfl (hz_wsX30 _) (Nat.le_of_ble_eq_true rfl) (List.mem_cons_of_mem _ (aw_r27 _ (List.mem_of_getElem? (i := 12) rfl))) rfl dX0_addMinute_193 ?_
        refine lv_iload_n hx hb dX0_addMinute_196 rfl (lv_at hl 3 rfl) ?_
        refine k_iald X hk (wg_8 G _) hw.1 dX0_addMinute_197 ?_
        replace hw := hw.2
        refine k_callVv (rest := []) X hk (c_X0_join l G _ _ _ _ _ hw) (cwV 3 X.1.2.2.2.2 (gzV (aw_r26 _ (List.mem_of_getElem? (i := 21) rfl)) (aw_r26 _ (List.mem_of_getElem? (i := 22) rfl)) (aw_r26 _ (List.mem_of_getElem? (i := 23) rfl)) (aw_r2 _ (List.mem_of_getElem? (i := 3) rfl)) (aw_r27 _ (List.mem_of_getElem? (i := 0) rfl))) rfl rfl rfl hd_X0_join ⟨(Nat.le_of_ble_eq_true rfl), (Nat.le_of_ble_eq_true rfl)⟩) (wg_4 G _) rfl rfl hl.1 rfl (Nat.le_of_ble_eq_true rfl) dX0_addMinute_198 ⟨Nat.zero_le _, Nat.zero_le _⟩ (fun σ8 H locs hw hk => ?_)
        exact t_X0_addMinute_201 X Q _ ih _ _ _ _ _ _ hw hk (lv_sub hl [1, 2, 3] rfl)
def wp_X0_addMinute_118 (Q : Sg → Prop) (K20 : Int32 → Int32 → Sg → Prop) (x1 x2 : Int32) (σ : Sg) : Prop := ∀ x2_18 : Int32, x2_18 = (x2 + (1 : Int32)) → (K20 x1 x2_18 σ)
set_option maxHeartbeats 4000000 in
set_option maxRecDepth 100000 in
theorem t_X0_addMinute_118 {p : Program} {l : Launch} {e : Env} {s : State} {m : MethodId} {args : Array Value} {below : List Frame} {meth : Method} {c : Code} {G : Gw} (X : KC p m meth c cX0_addMinute 4 s args wz_X0_addMinute RX0 none G) (Q : Sg → Prop) (K20 : Int32 → Int32 → Sg → Prop) (hK20 : ∀ (σ : Sg) (x1 x2 : Int32) (H : Heap) (locs : List Loc) (ls : Array Slot), K20 x1 x2 σ → WK G s H locs σ → lv_has ls 4 [(0, .ref (G.1 4)), (1, .int x1), (2, .int x2)] → W p l e rm_X0_addMinute s m args below meth c H locs 0 0 (ZV below args s G Q) (F0 m 20 ls [])) : ∀ (σ : Sg) (x1 x2 : Int32) (H : Heap) (locs : List Loc) (ls : Array Slot), wp_X0_addMinute_118 Q K20 x1 x2 σ → WK G s H locs σ → lv_has ls 4 [(0, .ref (G.1 4)), (1, .int x1), (2, .int x2)] → W p l e rm_X0_addMinute s m args below meth c H locs 0 0 (ZV below args s G Q) (F0 m 118 ls []) := by
  have hx := X.1.1
  have hb := X.1.2.1
  intro σ x1 x2 H locs ls hw hk hl
  unfold wp_X0_addMinute_118 at hw
  obtain ⟨x2_18, ex2_18⟩ : ∃ y : Int32, y = (x2 + (1 : Int32)) := ⟨_, rfl⟩
  replace hw := hw x2_18 ex2_18
  refine lv_iinc (v := x2_18) (lv' := [(2, .int x2_18), (0, .ref (G.1 4)), (1, .int x1)]) hx hb dX0_addMinute_118 hl (k := 2) rfl (by rw [ex2_18]; rfl) (Nat.le_of_ble_eq_true rfl) rfl (fun ls hl => ?_)
  refine lv_goto (tgt := 20) hx hb dX0_addMinute_121 (by decide) ?_
  exact hK20 _ _ _ _ _ _ hw hk (lv_sub hl [1, 2, 0] rfl)
def wp_X0_addMinute_81 (Q : Sg → Prop) (K20 : Int32 → Int32 → Sg → Prop) (x1 x2 : Int32) (σ : Sg) : Prop := wp_X3_fact σ x2 (2 : Int32) (fun r16 σ15 => ((σ 4 2) < r16 → (wp_X0_addMinute_118 Q K20 x1 x2 σ15)) ∧ (¬ ((σ 4 2) < r16) → (wp_X3_fact σ15 x2 (0 : Int32) (fun r20 σ19 => wp_X0_join σ19 ((328 : Int32) + x2) (x1 + x2) r20 (fun σ21 => wp_X0_addMinute_118 Q K20 x1 x2 σ21)))))
set_option maxHeartbeats 4000000 in
set_option maxRecDepth 100000 in
theorem t_X0_addMinute_81 {p : Program} {l : Launch} {e : Env} {s : State} {m : MethodId} {args : Array Value} {below : List Frame} {meth : Method} {c : Code} {G : Gw} (X : KC p m meth c cX0_addMinute 4 s args wz_X0_addMinute RX0 none G) (Q : Sg → Prop) (K20 : Int32 → Int32 → Sg → Prop) (hK20 : ∀ (σ : Sg) (x1 x2 : Int32) (H : Heap) (locs : List Loc) (ls : Array Slot), K20 x1 x2 σ → WK G s H locs σ → lv_has ls 4 [(0, .ref (G.1 4)), (1, .int x1), (2, .int x2)] → W p l e rm_X0_addMinute s m args below meth c H locs 0 0 (ZV below args s G Q) (F0 m 20 ls [])) : ∀ (σ : Sg) (x1 x2 : Int32) (H : Heap) (locs : List Loc) (ls : Array Slot), wp_X0_addMinute_81 Q K20 x1 x2 σ → WK G s H locs σ → lv_has ls 4 [(0, .ref (G.1 4)), (1, .int x1), (2, .int x2)] → W p l e rm_X0_addMinute s m args below meth c H locs 0 0 (ZV below args s G Q) (F0 m 81 ls []) := by
  have hx := X.1.1
  have hb := X.1.2.1
  intro σ x1 x2 H locs ls hw hk hl
  unfold wp_X0_addMinute_81 at hw
  refine lv_aload_n hx hb dX0_addMinute_81 rfl (lv_at hl 0 rfl) ?_
  refine k_get 2 X hk (wg_4 G _) rfl (hz_wsX00 _) (Nat.le_of_ble_eq_true rfl) (List.mem_cons_of_mem _ (aw_r26 _ (List.mem_of_getElem? (i := 12) rfl))) rfl dX0_addMinute_82 ?_
  refine lv_aload_n hx hb dX0_addMinute_85 rfl (lv_at hl 0 rfl) ?_
  refine k_get 0 X hk (wg_4 G _) rfl (hz_wsX00 _) (Nat.le_of_ble_eq_true rfl) (List.mem_cons_of_mem _ (aw_r4 _ (List.mem_of_getElem? (i := 3) rfl))) rfl dX0_addMinute_86 ?_
  refine lv_iload_n hx hb dX0_addMinute_89 rfl (lv_at hl 2 rfl) ?_
  refine lv_iconst (v := (2 : Int32)) hx hb dX0_addMinute_90 (by decide) ?_
  refine k_callVi (rest := [.int (σ 4 2)]) X hk (c_X3_fact l G _ _ _ _ hw) (cwV 2 X.1.2.2.2.2 (gzV (aw_r26 _ (List.mem_of_getElem? (i := 20) rfl)) (aw_r20 _ (List.mem_of_getElem? (i := 20) rfl)) (aw_r20 _ (List.mem_of_getElem? (i := 21) rfl)) (aw_r1 _ (List.mem_of_getElem? (i := 15) rfl)) (aw_r20 _ (List.mem_of_getElem? (i := 22) rfl))) rfl rfl rfl hd_X3_fact ⟨(Nat.le_of_ble_eq_true rfl), (Nat.le_of_ble_eq_true rfl)⟩) (wg_1 G _) rfl rfl hl.1 rfl (Nat.le_of_ble_eq_true rfl) dX0_addMinute_91 ⟨Nat.zero_le _, Nat.zero_le _⟩ (fun r16 σ15 H locs hw hk => ?_)
  refine lv_icmp_lt (tgt := 118) hx hb dX0_addMinute_94 (by decide) (fun c17 => ?_) (fun c17 => ?_)
  · replace hw := hw.1 c17
    exact t_X0_addMinute_118 X Q _ hK20 _ _ _ _ _ _ hw hk hl
  · replace hw := hw.2 c17
    refine lv_aload_n hx hb dX0_addMinute_97 rfl (lv_at hl 0 rfl) ?_
    refine lv_sipush (v := (328 : Int32)) hx hb dX0_addMinute_98 (by decide) ?_
    refine lv_iload_n hx hb dX0_addMinute_101 rfl (lv_at hl 2 rfl) ?_
    refine lv_iadd hx hb dX0_addMinute_102 ?_
    refine lv_iload_n hx hb dX0_addMinute_103 rfl (lv_at hl 1 rfl) ?_
    refine lv_iload_n hx hb dX0_addMinute_104 rfl (lv_at hl 2 rfl) ?_
    refine lv_iadd hx hb dX0_addMinute_105 ?_
    refine lv_aload_n hx hb dX0_addMinute_106 rfl (lv_at hl 0 rfl) ?_
    refine k_get 0 X hk (wg_4 G _) rfl (hz_wsX00 _) (Nat.le_of_ble_eq_true rfl) (List.mem_cons_of_mem _ (aw_r4 _ (List.mem_of_getElem? (i := 3) rfl))) rfl dX0_addMinute_107 ?_
    refine lv_iload_n hx hb dX0_addMinute_110 rfl (lv_at hl 2 rfl) ?_
    refine lv_iconst (v := (0 : Int32)) hx hb dX0_addMinute_111 (by decide) ?_
    refine k_callVi (rest := [.int (x1 + x2), .int ((328 : Int32) + x2), .ref (G.1 4)]) X hk (c_X3_fact l G _ _ _ _ hw) (cwV 2 X.1.2.2.2.2 (gzV (aw_r26 _ (List.mem_of_getElem? (i := 20) rfl)) (aw_r20 _ (List.mem_of_getElem? (i := 20) rfl)) (aw_r20 _ (List.mem_of_getElem? (i := 21) rfl)) (aw_r1 _ (List.mem_of_getElem? (i := 15) rfl)) (aw_r20 _ (List.mem_of_getElem? (i := 22) rfl))) rfl rfl rfl hd_X3_fact ⟨(Nat.le_of_ble_eq_true rfl), (Nat.le_of_ble_eq_true rfl)⟩) (wg_1 G _) rfl rfl hl.1 rfl (Nat.le_of_ble_eq_true rfl) dX0_addMinute_112 ⟨Nat.zero_le _, Nat.zero_le _⟩ (fun r20 σ19 H locs hw hk => ?_)
    refine k_callVv (rest := []) X hk (c_X0_join l G _ _ _ _ _ hw) (cwV 3 X.1.2.2.2.2 (gzV (aw_r26 _ (List.mem_of_getElem? (i := 21) rfl)) (aw_r26 _ (List.mem_of_getElem? (i := 22) rfl)) (aw_r26 _ (List.mem_of_getElem? (i := 23) rfl)) (aw_r2 _ (List.mem_of_getElem? (i := 3) rfl)) (aw_r27 _ (List.mem_of_getElem? (i := 0) rfl))) rfl rfl rfl hd_X0_join ⟨(Nat.le_of_ble_eq_true rfl), (Nat.le_of_ble_eq_true rfl)⟩) (wg_4 G _) rfl rfl hl.1 rfl (Nat.le_of_ble_eq_true rfl) dX0_addMinute_115 ⟨Nat.zero_le _, Nat.zero_le _⟩ (fun σ21 H locs hw hk => ?_)
    exact t_X0_addMinute_118 X Q _ hK20 _ _ _ _ _ _ hw hk hl
def wp_X0_addMinute_20 (Q : Sg → Prop)  : Nat → Int32 → Int32 → Sg → Prop
  | 0, _, _, _ => False
  | n + 1, x1, x2, σ => ((σ 1 0) ≤ x2 → (∃ n0, wp_X0_addMinute_126 Q  n0 x1 (0 : Int32) σ)) ∧ (¬ ((σ 1 0) ≤ x2) → (wp_X3_fact σ x2 (1 : Int32) (fun r11 σ10 => wp_X0_join σ10 (x1 + x2) ((336 : Int32) + x2) r11 (fun σ12 => ((σ12 4 2) ≤ 0 → (wp_X0_addMinute_81 Q (fun z1 z2 σ => wp_X0_addMinute_20 Q  n z1 z2 σ) x1 x2 σ12)) ∧ (¬ ((σ12 4 2) ≤ 0) → (wp_X3_fact σ12 x2 (3 : Int32) (fun r24 σ23 => wp_X0_join σ23 ((x1 - (8 : Int32)) + x2) (x1 + x2) r24 (fun σ25 => wp_X0_addMinute_81 Q (fun z1 z2 σ => wp_X0_addMinute_20 Q  n z1 z2 σ) x1 x2 σ25))))))))
set_option maxHeartbeats 4000000 in
set_option maxRecDepth 100000 in
theorem t_X0_addMinute_20 {p : Program} {l : Launch} {e : Env} {s : State} {m : MethodId} {args : Array Value} {below : List Frame} {meth : Method} {c : Code} {G : Gw} (X : KC p m meth c cX0_addMinute 4 s args wz_X0_addMinute RX0 none G) (Q : Sg → Prop)  : ∀ (n : Nat) (σ : Sg) (x1 x2 : Int32) (H : Heap) (locs : List Loc) (ls : Array Slot), wp_X0_addMinute_20 Q  n x1 x2 σ → WK G s H locs σ → lv_has ls 4 [(0, .ref (G.1 4)), (1, .int x1), (2, .int x2)] → W p l e rm_X0_addMinute s m args below meth c H locs 0 0 (ZV below args s G Q) (F0 m 20 ls []) := by
  have hx := X.1.1
  have hb := X.1.2.1
  intro n
  induction n with
  | zero =>
    intro σ x1 x2 H locs ls hw hk hl
    exact False.elim hw
  | succ n ih =>
    intro σ x1 x2 H locs ls hw hk hl
    rw [wp_X0_addMinute_20] at hw
    refine lv_iload_n hx hb dX0_addMinute_20 rfl (lv_at hl 2 rfl) ?_
    refine lv_aload_n hx hb dX0_addMinute_21 rfl (lv_at hl 0 rfl) ?_
    refine k_get 0 X hk (wg_4 G _) rfl (hz_wsX00 _) (Nat.le_of_ble_eq_true rfl) (List.mem_cons_of_mem _ (aw_r4 _ (List.mem_of_getElem? (i := 3) rfl))) rfl dX0_addMinute_22 ?_
    refine k_get 0 X hk (wg_1 G _) rfl (hz_wsX30 _) (Nat.le_of_ble_eq_true rfl) (List.mem_cons_of_mem _ (aw_r26 _ (List.mem_of_getElem? (i := 14) rfl))) rfl dX0_addMinute_25 ?_
    refine lv_icmp_ge (tgt := 124) hx hb dX0_addMinute_28 (by decide) (fun c3 => ?_) (fun c3 => ?_)
    · replace hw := hw.1 c3
      refine lv_iconst (v := (0 : Int32)) hx hb dX0_addMinute_124 (by decide) ?_
      refine lv_istore_n (lv' := [(2, .int (0 : Int32)), (0, .ref (G.1 4)), (1, .int x1)]) hx hb dX0_addMinute_125 rfl hl (Nat.le_of_ble_eq_true rfl) rfl (fun ls hl => ?_)
      obtain ⟨n0, hw⟩ := hw
      exact t_X0_addMinute_126 X Q   n0 _ _ _ _ _ _ hw hk (lv_sub hl [1, 2, 0] rfl)
    · replace hw := hw.2 c3
      refine lv_aload_n hx hb dX0_addMinute_31 rfl (lv_at hl 0 rfl) ?_
      refine lv_iload_n hx hb dX0_addMinute_32 rfl (lv_at hl 1 rfl) ?_
      refine lv_iload_n hx hb dX0_addMinute_33 rfl (lv_at hl 2 rfl) ?_
      refine lv_iadd hx hb dX0_addMinute_34 ?_
      refine lv_sipush (v := (336 : Int32)) hx hb dX0_addMinute_35 (by decide) ?_
      refine lv_iload_n hx hb dX0_addMinute_38 rfl (lv_at hl 2 rfl) ?_
      refine lv_iadd hx hb dX0_addMinute_39 ?_
      refine lv_aload_n hx hb dX0_addMinute_40 rfl (lv_at hl 0 rfl) ?_
      refine k_get 0 X hk (wg_4 G _) rfl (hz_wsX00 _) (Nat.le_of_ble_eq_true rfl) (List.mem_cons_of_mem _ (aw_r4 _ (List.mem_of_getElem? (i := 3) rfl))) rfl dX0_addMinute_41 ?_
      refine lv_iload_n hx hb dX0_addMinute_44 rfl (lv_at hl 2 rfl) ?_
      refine lv_iconst (v := (1 : Int32)) hx hb dX0_addMinute_45 (by decide) ?_
      refine k_callVi (rest := [.int ((336 : Int32) + x2), .int (x1 + x2), .ref (G.1 4)]) X hk (c_X3_fact l G _ _ _ _ hw) (cwV 2 X.1.2.2.2.2 (gzV (aw_r26 _ (List.mem_of_getElem? (i := 20) rfl)) (aw_r20 _ (List.mem_of_getElem? (i := 20) rfl)) (aw_r20 _ (List.mem_of_getElem? (i := 21) rfl)) (aw_r1 _ (List.mem_of_getElem? (i := 15) rfl)) (aw_r20 _ (List.mem_of_getElem? (i := 22) rfl))) rfl rfl rfl hd_X3_fact ⟨(Nat.le_of_ble_eq_true rfl), (Nat.le_of_ble_eq_true rfl)⟩) (wg_1 G _) rfl rfl hl.1 rfl (Nat.le_of_ble_eq_true rfl) dX0_addMinute_46 ⟨Nat.zero_le _, Nat.zero_le _⟩ (fun r11 σ10 H locs hw hk => ?_)
      refine k_callVv (rest := []) X hk (c_X0_join l G _ _ _ _ _ hw) (cwV 3 X.1.2.2.2.2 (gzV (aw_r26 _ (List.mem_of_getElem? (i := 21) rfl)) (aw_r26 _ (List.mem_of_getElem? (i := 22) rfl)) (aw_r26 _ (List.mem_of_getElem? (i := 23) rfl)) (aw_r2 _ (List.mem_of_getElem? (i := 3) rfl)) (aw_r27 _ (List.mem_of_getElem? (i := 0) rfl))) rfl rfl rfl hd_X0_join ⟨(Nat.le_of_ble_eq_true rfl), (Nat.le_of_ble_eq_true rfl)⟩) (wg_4 G _) rfl rfl hl.1 rfl (Nat.le_of_ble_eq_true rfl) dX0_addMinute_49 ⟨Nat.zero_le _, Nat.zero_le _⟩ (fun σ12 H locs hw hk => ?_)
      refine lv_aload_n hx hb dX0_addMinute_52 rfl (lv_at hl 0 rfl) ?_
      refine k_get 2 X hk (wg_4 G _) rfl (hz_wsX00 _) (Nat.le_of_ble_eq_true rfl) (List.mem_cons_of_mem _ (aw_r26 _ (List.mem_of_getElem? (i := 12) rfl))) rfl dX0_addMinute_53 ?_
      refine lv_if_le (tgt := 81) hx hb dX0_addMinute_56 (by decide) (fun c14 => ?_) (fun c14 => ?_)
      · replace hw := hw.1 c14
        exact t_X0_addMinute_81 X Q _ ih _ _ _ _ _ _ hw hk hl
      · replace hw := hw.2 c14
        refine lv_aload_n hx hb dX0_addMinute_59 rfl (lv_at hl 0 rfl) ?_
        refine lv_iload_n hx hb dX0_addMinute_60 rfl (lv_at hl 1 rfl) ?_
        refine lv_bipush (v := (8 : Int32)) hx hb dX0_addMinute_61 (by decide) ?_
        refine lv_isub hx hb dX0_addMinute_63 ?_
        refine lv_iload_n hx hb dX0_addMinute_64 rfl (lv_at hl 2 rfl) ?_
        refine lv_iadd hx hb dX0_addMinute_65 ?_
        refine lv_iload_n hx hb dX0_addMinute_66 rfl (lv_at hl 1 rfl) ?_
        refine lv_iload_n hx hb dX0_addMinute_67 rfl (lv_at hl 2 rfl) ?_
        refine lv_iadd hx hb dX0_addMinute_68 ?_
        refine lv_aload_n hx hb dX0_addMinute_69 rfl (lv_at hl 0 rfl) ?_
        refine k_get 0 X hk (wg_4 G _) rfl (hz_wsX00 _) (Nat.le_of_ble_eq_true rfl) (List.mem_cons_of_mem _ (aw_r4 _ (List.mem_of_getElem? (i := 3) rfl))) rfl dX0_addMinute_70 ?_
        refine lv_iload_n hx hb dX0_addMinute_73 rfl (lv_at hl 2 rfl) ?_
        refine lv_iconst (v := (3 : Int32)) hx hb dX0_addMinute_74 (by decide) ?_
        refine k_callVi (rest := [.int (x1 + x2), .int ((x1 - (8 : Int32)) + x2), .ref (G.1 4)]) X hk (c_X3_fact l G _ _ _ _ hw) (cwV 2 X.1.2.2.2.2 (gzV (aw_r26 _ (List.mem_of_getElem? (i := 20) rfl)) (aw_r20 _ (List.mem_of_getElem? (i := 20) rfl)) (aw_r20 _ (List.mem_of_getElem? (i := 21) rfl)) (aw_r1 _ (List.mem_of_getElem? (i := 15) rfl)) (aw_r20 _ (List.mem_of_getElem? (i := 22) rfl))) rfl rfl rfl hd_X3_fact ⟨(Nat.le_of_ble_eq_true rfl), (Nat.le_of_ble_eq_true rfl)⟩) (wg_1 G _) rfl rfl hl.1 rfl (Nat.le_of_ble_eq_true rfl) dX0_addMinute_75 ⟨Nat.zero_le _, Nat.zero_le _⟩ (fun r24 σ23 H locs hw hk => ?_)
        refine k_callVv (rest := []) X hk (c_X0_join l G _ _ _ _ _ hw) (cwV 3 X.1.2.2.2.2 (gzV (aw_r26 _ (List.mem_of_getElem? (i := 21) rfl)) (aw_r26 _ (List.mem_of_getElem? (i := 22) rfl)) (aw_r26 _ (List.mem_of_getElem? (i := 23) rfl)) (aw_r2 _ (List.mem_of_getElem? (i := 3) rfl)) (aw_r27 _ (List.mem_of_getElem? (i := 0) rfl))) rfl rfl rfl hd_X0_join ⟨(Nat.le_of_ble_eq_true rfl), (Nat.le_of_ble_eq_true rfl)⟩) (wg_4 G _) rfl rfl hl.1 rfl (Nat.le_of_ble_eq_true rfl) dX0_addMinute_78 ⟨Nat.zero_le _, Nat.zero_le _⟩ (fun σ25 H locs hw hk => ?_)
        exact t_X0_addMinute_81 X Q _ ih _ _ _ _ _ _ hw hk hl
def wp_X0_addMinute (σ : Sg) (Q : Sg → Prop) : Prop := ∀ σ1 : Sg, σ1 = (put σ 4 2 ((σ 4 2) + (1 : Int32))) → (∀ x1_2 : Int32, x1_2 = ((σ1 4 2) * (8 : Int32)) → (∃ n0, wp_X0_addMinute_20 Q  n0 x1_2 (0 : Int32) σ1))
set_option maxHeartbeats 4000000 in
set_option maxRecDepth 100000 in
theorem c_X0_addMinute (l : Launch) (G : Gw) (σ : Sg) (Q : Sg → Prop) (hw : wp_X0_addMinute σ  Q) : MetV l yX0_addMinute wz_X0_addMinute rm_X0_addMinute G σ [.ref (G.1 4)] Q := by
  refine MetV.of cX0_addMinute 4 none (by decide) rfl (Nat.le_of_ble_eq_true rfl) ?_
  intro p e s m below meth c X hk ls hl
  have X : KC p m meth c cX0_addMinute 4 s _ wz_X0_addMinute RX0 none G := X
  have hl : lv_has ls 4 [(0, .ref (G.1 4))] := hl
  unfold wp_X0_addMinute at hw
  have hx := X.1.1
  have hb := X.1.2.1
  refine lv_aload_n hx hb dX0_addMinute_0 rfl (lv_at hl 0 rfl) ?_
  refine lv_dup hx hb dX0_addMinute_1 rfl ?_
  refine k_get 2 X hk (wg_4 G _) rfl (hz_wsX00 _) (Nat.le_of_ble_eq_true rfl) (List.mem_cons_of_mem _ (aw_r26 _ (List.mem_of_getElem? (i := 12) rfl))) rfl dX0_addMinute_2 ?_
  refine lv_iconst (v := (1 : Int32)) hx hb dX0_addMinute_5 (by decide) ?_
  refine lv_iadd hx hb dX0_addMinute_6 ?_
  refine k_put 2 X hk (wg_4 G _) rfl (hz_wsX00 _) tyX0_ok nmX0 (Nat.le_of_ble_eq_true rfl) (List.mem_cons_of_mem _ (aw_r26 _ (List.mem_of_getElem? (i := 12) rfl))) rfl rfl (Nat.le_of_ble_eq_true rfl) (ws_4_2 G _ _) dX0_addMinute_7 (fun H locs hk => ?_)
  obtain ⟨σ1, eσ1⟩ : ∃ y : Sg, y = (put σ 4 2 ((σ 4 2) + (1 : Int32))) := ⟨_, rfl⟩
  rw [← eσ1] at hk
  replace hw := hw σ1 eσ1
  refine lv_aload_n hx hb dX0_addMinute_10 rfl (lv_at hl 0 rfl) ?_
  refine k_get 2 X hk (wg_4 G _) rfl (hz_wsX00 _) (Nat.le_of_ble_eq_true rfl) (List.mem_cons_of_mem _ (aw_r26 _ (List.mem_of_getElem? (i := 12) rfl))) rfl dX0_addMinute_11 ?_
  refine lv_bipush (v := (8 : Int32)) hx hb dX0_addMinute_14 (by decide) ?_
  refine lv_imul hx hb dX0_addMinute_16 ?_
  refine lv_topi (fun x1_2 ex1_2 => ?_)
  replace hw := hw x1_2 ex1_2
  refine lv_istore_n (lv' := [(1, .int x1_2), (0, .ref (G.1 4))]) hx hb dX0_addMinute_17 rfl hl (Nat.le_of_ble_eq_true rfl) rfl (fun ls hl => ?_)
  refine lv_iconst (v := (0 : Int32)) hx hb dX0_addMinute_18 (by decide) ?_
  refine lv_istore_n (lv' := [(2, .int (0 : Int32)), (1, .int x1_2), (0, .ref (G.1 4))]) hx hb dX0_addMinute_19 rfl hl (Nat.le_of_ble_eq_true rfl) rfl (fun ls hl => ?_)
  obtain ⟨n0, hw⟩ := hw
  exact t_X0_addMinute_20 X Q   n0 _ _ _ _ _ _ hw hk (lv_sub hl [2, 1, 0] rfl)
def rm_X0_begin : Room := { frames := 2, cells := 0, slots := 0, locals := 46 }
abbrev wz_X0_begin : List Cond := Cond.code yX0_begin cX0_begin 2 none :: wsA
theorem hd_X0_begin : yX0_begin.cls = RX0 ∧ yX0_begin.cls ≠ "java/lang/invoke/MethodHandle" ∧ yX0_begin.cls ≠ "java/lang/invoke/VarHandle" ∧ (parseMethodDescriptor yX0_begin.desc).map (fun d => d.parameters.length) = some 0 := by decide +kernel
def wp_X0_begin_37 (Q : Sg → Prop)  : Nat → Int32 → Sg → Prop
  | 0, _, _ => False
  | n + 1, x1, σ => ((σ 1 0) ≤ x1 → (Q σ)) ∧ (¬ ((σ 1 0) ≤ x1) → (wp_X3_fact σ x1 (0 : Int32) (fun r10 σ9 => wp_X0_join σ9 (344 : Int32) ((328 : Int32) + x1) r10 (fun σ11 => wp_X3_fact σ11 x1 (1 : Int32) (fun r14 σ13 => wp_X0_join σ13 ((336 : Int32) + x1) (345 : Int32) r14 (fun σ15 => ∀ x1_17 : Int32, x1_17 = (x1 + (1 : Int32)) → (wp_X0_begin_37 Q  n x1_17 σ15)))))))
set_option maxHeartbeats 4000000 in
set_option maxRecDepth 100000 in
theorem t_X0_begin_37 {p : Program} {l : Launch} {e : Env} {s : State} {m : MethodId} {args : Array Value} {below : List Frame} {meth : Method} {c : Code} {G : Gw} (X : KC p m meth c cX0_begin 2 s args wz_X0_begin RX0 none G) (Q : Sg → Prop)  : ∀ (n : Nat) (σ : Sg) (x1 : Int32) (H : Heap) (locs : List Loc) (ls : Array Slot), wp_X0_begin_37 Q  n x1 σ → WK G s H locs σ → lv_has ls 2 [(0, .ref (G.1 4)), (1, .int x1)] → W p l e rm_X0_begin s m args below meth c H locs 0 0 (ZV below args s G Q) (F0 m 37 ls []) := by
  have hx := X.1.1
  have hb := X.1.2.1
  intro n
  induction n with
  | zero =>
    intro σ x1 H locs ls hw hk hl
    exact False.elim hw
  | succ n ih =>
    intro σ x1 H locs ls hw hk hl
    rw [wp_X0_begin_37] at hw
    refine lv_iload_n hx hb dX0_begin_37 rfl (lv_at hl 1 rfl) ?_
    refine lv_aload_n hx hb dX0_begin_38 rfl (lv_at hl 0 rfl) ?_
    refine k_get 0 X hk (wg_4 G _) rfl (hz_wsX00 _) (Nat.le_of_ble_eq_true rfl) (List.mem_cons_of_mem _ (aw_r4 _ (List.mem_of_getElem? (i := 3) rfl))) rfl dX0_begin_39 ?_
    refine k_get 0 X hk (wg_1 G _) rfl (hz_wsX30 _) (Nat.le_of_ble_eq_true rfl) (List.mem_cons_of_mem _ (aw_r26 _ (List.mem_of_getElem? (i := 14) rfl))) rfl dX0_begin_42 ?_
    refine lv_icmp_ge (tgt := 96) hx hb dX0_begin_45 (by decide) (fun c8 => ?_) (fun c8 => ?_)
    · replace hw := hw.1 c8
      exact k_vret X hk hw dX0_begin_96
    · replace hw := hw.2 c8
      refine lv_aload_n hx hb dX0_begin_48 rfl (lv_at hl 0 rfl) ?_
      refine lv_sipush (v := (344 : Int32)) hx hb dX0_begin_49 (by decide) ?_
      refine lv_sipush (v := (328 : Int32)) hx hb dX0_begin_52 (by decide) ?_
      refine lv_iload_n hx hb dX0_begin_55 rfl (lv_at hl 1 rfl) ?_
      refine lv_iadd hx hb dX0_begin_56 ?_
      refine lv_aload_n hx hb dX0_begin_57 rfl (lv_at hl 0 rfl) ?_
      refine k_get 0 X hk (wg_4 G _) rfl (hz_wsX00 _) (Nat.le_of_ble_eq_true rfl) (List.mem_cons_of_mem _ (aw_r4 _ (List.mem_of_getElem? (i := 3) rfl))) rfl dX0_begin_58 ?_
      refine lv_iload_n hx hb dX0_begin_61 rfl (lv_at hl 1 rfl) ?_
      refine lv_iconst (v := (0 : Int32)) hx hb dX0_begin_62 (by decide) ?_
      refine k_callVi (rest := [.int ((328 : Int32) + x1), .int (344 : Int32), .ref (G.1 4)]) X hk (c_X3_fact l G _ _ _ _ hw) (cwV 2 X.1.2.2.2.2 (gzV (aw_r26 _ (List.mem_of_getElem? (i := 20) rfl)) (aw_r20 _ (List.mem_of_getElem? (i := 20) rfl)) (aw_r20 _ (List.mem_of_getElem? (i := 21) rfl)) (aw_r1 _ (List.mem_of_getElem? (i := 15) rfl)) (aw_r20 _ (List.mem_of_getElem? (i := 22) rfl))) rfl rfl rfl hd_X3_fact ⟨(Nat.le_of_ble_eq_true rfl), (Nat.le_of_ble_eq_true rfl)⟩) (wg_1 G _) rfl rfl hl.1 rfl (Nat.le_of_ble_eq_true rfl) dX0_begin_63 ⟨Nat.zero_le _, Nat.zero_le _⟩ (fun r10 σ9 H locs hw hk => ?_)
      refine k_callVv (rest := []) X hk (c_X0_join l G _ _ _ _ _ hw) (cwV 3 X.1.2.2.2.2 (gzV (aw_r26 _ (List.mem_of_getElem? (i := 21) rfl)) (aw_r26 _ (List.mem_of_getElem? (i := 22) rfl)) (aw_r26 _ (List.mem_of_getElem? (i := 23) rfl)) (aw_r2 _ (List.mem_of_getElem? (i := 3) rfl)) (aw_r27 _ (List.mem_of_getElem? (i := 0) rfl))) rfl rfl rfl hd_X0_join ⟨(Nat.le_of_ble_eq_true rfl), (Nat.le_of_ble_eq_true rfl)⟩) (wg_4 G _) rfl rfl hl.1 rfl (Nat.le_of_ble_eq_true rfl) dX0_begin_66 ⟨Nat.zero_le _, Nat.zero_le _⟩ (fun σ11 H locs hw hk => ?_)
      refine lv_aload_n hx hb dX0_begin_69 rfl (lv_at hl 0 rfl) ?_
      refine lv_sipush (v := (336 : Int32)) hx hb dX0_begin_70 (by decide) ?_
      refine lv_iload_n hx hb dX0_begin_73 rfl (lv_at hl 1 rfl) ?_
      refine lv_iadd hx hb dX0_begin_74 ?_
      refine lv_sipush (v := (345 : Int32)) hx hb dX0_begin_75 (by decide) ?_
      refine lv_aload_n hx hb dX0_begin_78 rfl (lv_at hl 0 rfl) ?_
      refine k_get 0 X hk (wg_4 G _) rfl (hz_wsX00 _) (Nat.le_of_ble_eq_true rfl) (List.mem_cons_of_mem _ (aw_r4 _ (List.mem_of_getElem? (i := 3) rfl))) rfl dX0_begin_79 ?_
      refine lv_iload_n hx hb dX0_begin_82 rfl (lv_at hl 1 rfl) ?_
      refine lv_iconst (v := (1 : Int32)) hx hb dX0_begin_83 (by decide) ?_
      refine k_callVi (rest := [.int (345 : Int32), .int ((336 : Int32) + x1), .ref (G.1 4)]) X hk (c_X3_fact l G _ _ _ _ hw) (cwV 2 X.1.2.2.2.2 (gzV (aw_r26 _ (List.mem_of_getElem? (i := 20) rfl)) (aw_r20 _ (List.mem_of_getElem? (i := 20) rfl)) (aw_r20 _ (List.mem_of_getElem? (i := 21) rfl)) (aw_r1 _ (List.mem_of_getElem? (i := 15) rfl)) (aw_r20 _ (List.mem_of_getElem? (i := 22) rfl))) rfl rfl rfl hd_X3_fact ⟨(Nat.le_of_ble_eq_true rfl), (Nat.le_of_ble_eq_true rfl)⟩) (wg_1 G _) rfl rfl hl.1 rfl (Nat.le_of_ble_eq_true rfl) dX0_begin_84 ⟨Nat.zero_le _, Nat.zero_le _⟩ (fun r14 σ13 H locs hw hk => ?_)
      refine k_callVv (rest := []) X hk (c_X0_join l G _ _ _ _ _ hw) (cwV 3 X.1.2.2.2.2 (gzV (aw_r26 _ (List.mem_of_getElem? (i := 21) rfl)) (aw_r26 _ (List.mem_of_getElem? (i := 22) rfl)) (aw_r26 _ (List.mem_of_getElem? (i := 23) rfl)) (aw_r2 _ (List.mem_of_getElem? (i := 3) rfl)) (aw_r27 _ (List.mem_of_getElem? (i := 0) rfl))) rfl rfl rfl hd_X0_join ⟨(Nat.le_of_ble_eq_true rfl), (Nat.le_of_ble_eq_true rfl)⟩) (wg_4 G _) rfl rfl hl.1 rfl (Nat.le_of_ble_eq_true rfl) dX0_begin_87 ⟨Nat.zero_le _, Nat.zero_le _⟩ (fun σ15 H locs hw hk => ?_)
      obtain ⟨x1_17, ex1_17⟩ : ∃ y : Int32, y = (x1 + (1 : Int32)) := ⟨_, rfl⟩
      replace hw := hw x1_17 ex1_17
      refine lv_iinc (v := x1_17) (lv' := [(1, .int x1_17), (0, .ref (G.1 4))]) hx hb dX0_begin_90 hl (k := 1) rfl (by rw [ex1_17]; rfl) (Nat.le_of_ble_eq_true rfl) rfl (fun ls hl => ?_)
      refine lv_goto (tgt := 37) hx hb dX0_begin_93 (by decide) ?_
      exact ih _ _ _ _ _ hw hk (lv_sub hl [1, 0] rfl)
def wp_X0_begin (σ : Sg) (Q : Sg → Prop) : Prop := ∀ σ1 : Sg, σ1 = (setA σ 19 (k_fillf 346 (-1 : Int32) (σ 19))) → (∀ σ2 : Sg, σ2 = (put σ1 4 1 (0 : Int32)) → (∀ σ3 : Sg, σ3 = (put σ2 4 2 (-1 : Int32)) → (∀ σ4 : Sg, σ4 = (put σ3 4 4 (0 : Int32)) → (wp_X3_total σ4 (0 : Int32) (fun r6 σ5 => ∀ σ7 : Sg, σ7 = (put σ5 4 3 r6) → (∃ n0, wp_X0_begin_37 Q  n0 (0 : Int32) σ7))))))
set_option maxHeartbeats 4000000 in
set_option maxRecDepth 100000 in
theorem c_X0_begin (l : Launch) (G : Gw) (σ : Sg) (Q : Sg → Prop) (hw : wp_X0_begin σ  Q) : MetV l yX0_begin wz_X0_begin rm_X0_begin G σ [.ref (G.1 4)] Q := by
  refine MetV.of cX0_begin 2 none (by decide) rfl (Nat.le_of_ble_eq_true rfl) ?_
  intro p e s m below meth c X hk ls hl
  have X : KC p m meth c cX0_begin 2 s _ wz_X0_begin RX0 none G := X
  have hl : lv_has ls 2 [(0, .ref (G.1 4))] := hl
  unfold wp_X0_begin at hw
  have hx := X.1.1
  have hb := X.1.2.1
  refine lv_aload_n hx hb dX0_begin_0 rfl (lv_at hl 0 rfl) ?_
  refine k_get 5 X hk (wg_4 G _) rfl (hz_wsX00 _) (Nat.le_of_ble_eq_true rfl) (List.mem_cons_of_mem _ (aw_r3 _ (List.mem_of_getElem? (i := 18) rfl))) rfl dX0_begin_1 ?_
  refine lv_iconst (v := (-1 : Int32)) hx hb dX0_begin_4 (by decide) ?_
  refine k_callSv (rest := []) X hk (c_fill l G _ 19 346 (wg_19 G) (ws_19 G) (Nat.le_of_ble_eq_true rfl) _ (fun σ9 => σ9 = (setA σ 19 (k_fillf 346 (-1 : Int32) (σ 19)))) rfl) (va_cwS 2 X.1.2.2.2.2 (gzS (aw_r26 _ (List.mem_of_getElem? (i := 15) rfl)) (aw_r26 _ (List.mem_of_getElem? (i := 16) rfl)) (aw_r26 _ (List.mem_of_getElem? (i := 17) rfl)) (aw_r26 _ (List.mem_of_getElem? (i := 18) rfl))) rfl rfl rfl (by decide +kernel) ⟨(Nat.le_of_ble_eq_true rfl), (Nat.le_of_ble_eq_true rfl)⟩) rfl hl.1 rfl (Nat.le_of_ble_eq_true rfl) dX0_begin_5 ⟨Nat.zero_le _, Nat.zero_le _⟩ (fun σ1 H locs h9 hk => ?_)
  replace hw := hw σ1 h9
  refine lv_aload_n hx hb dX0_begin_8 rfl (lv_at hl 0 rfl) ?_
  refine lv_iconst (v := (0 : Int32)) hx hb dX0_begin_9 (by decide) ?_
  refine k_put 1 X hk (wg_4 G _) rfl (hz_wsX00 _) tyX0_ok nmX0 (Nat.le_of_ble_eq_true rfl) (List.mem_cons_of_mem _ (aw_r26 _ (List.mem_of_getElem? (i := 11) rfl))) rfl rfl (Nat.le_of_ble_eq_true rfl) (ws_4_1 G _ _) dX0_begin_10 (fun H locs hk => ?_)
  obtain ⟨σ2, eσ2⟩ : ∃ y : Sg, y = (put σ1 4 1 (0 : Int32)) := ⟨_, rfl⟩
  rw [← eσ2] at hk
  replace hw := hw σ2 eσ2
  refine lv_aload_n hx hb dX0_begin_13 rfl (lv_at hl 0 rfl) ?_
  refine lv_iconst (v := (-1 : Int32)) hx hb dX0_begin_14 (by decide) ?_
  refine k_put 2 X hk (wg_4 G _) rfl (hz_wsX00 _) tyX0_ok nmX0 (Nat.le_of_ble_eq_true rfl) (List.mem_cons_of_mem _ (aw_r26 _ (List.mem_of_getElem? (i := 12) rfl))) rfl rfl (Nat.le_of_ble_eq_true rfl) (ws_4_2 G _ _) dX0_begin_15 (fun H locs hk => ?_)
  obtain ⟨σ3, eσ3⟩ : ∃ y : Sg, y = (put σ2 4 2 (-1 : Int32)) := ⟨_, rfl⟩
  rw [← eσ3] at hk
  replace hw := hw σ3 eσ3
  refine lv_aload_n hx hb dX0_begin_18 rfl (lv_at hl 0 rfl) ?_
  refine lv_iconst (v := (0 : Int32)) hx hb dX0_begin_19 (by decide) ?_
  refine k_put 4 X hk (wg_4 G _) rfl (hz_wsX00 _) tyX0_ok nmX0 (Nat.le_of_ble_eq_true rfl) (List.mem_cons_of_mem _ (aw_r26 _ (List.mem_of_getElem? (i := 2) rfl))) rfl rfl (Nat.le_of_ble_eq_true rfl) (ws_4_4 G _ _) dX0_begin_20 (fun H locs hk => ?_)
  obtain ⟨σ4, eσ4⟩ : ∃ y : Sg, y = (put σ3 4 4 (0 : Int32)) := ⟨_, rfl⟩
  rw [← eσ4] at hk
  replace hw := hw σ4 eσ4
  refine lv_aload_n hx hb dX0_begin_23 rfl (lv_at hl 0 rfl) ?_
  refine lv_aload_n hx hb dX0_begin_24 rfl (lv_at hl 0 rfl) ?_
  refine k_get 0 X hk (wg_4 G _) rfl (hz_wsX00 _) (Nat.le_of_ble_eq_true rfl) (List.mem_cons_of_mem _ (aw_r4 _ (List.mem_of_getElem? (i := 3) rfl))) rfl dX0_begin_25 ?_
  refine lv_iconst (v := (0 : Int32)) hx hb dX0_begin_28 (by decide) ?_
  refine k_callVi (rest := [.ref (G.1 4)]) X hk (c_X3_total l G _ _ _ hw) (cwV 1 X.1.2.2.2.2 (gzV (aw_r26 _ (List.mem_of_getElem? (i := 19) rfl)) (aw_r23 _ (List.mem_of_getElem? (i := 16) rfl)) (aw_r23 _ (List.mem_of_getElem? (i := 17) rfl)) (aw_r1 _ (List.mem_of_getElem? (i := 15) rfl)) (aw_r23 _ (List.mem_of_getElem? (i := 18) rfl))) rfl rfl rfl hd_X3_total ⟨(Nat.le_of_ble_eq_true rfl), (Nat.le_of_ble_eq_true rfl)⟩) (wg_1 G _) rfl rfl hl.1 rfl (Nat.le_of_ble_eq_true rfl) dX0_begin_29 ⟨Nat.zero_le _, Nat.zero_le _⟩ (fun r6 σ5 H locs hw hk => ?_)
  refine k_put 3 X hk (wg_4 G _) rfl (hz_wsX00 _) tyX0_ok nmX0 (Nat.le_of_ble_eq_true rfl) (List.mem_cons_of_mem _ (aw_r26 _ (List.mem_of_getElem? (i := 13) rfl))) rfl rfl (Nat.le_of_ble_eq_true rfl) (ws_4_3 G _ _) dX0_begin_32 (fun H locs hk => ?_)
  obtain ⟨σ7, eσ7⟩ : ∃ y : Sg, y = (put σ5 4 3 r6) := ⟨_, rfl⟩
  rw [← eσ7] at hk
  replace hw := hw σ7 eσ7
  refine lv_iconst (v := (0 : Int32)) hx hb dX0_begin_35 (by decide) ?_
  refine lv_istore_n (lv' := [(1, .int (0 : Int32)), (0, .ref (G.1 4))]) hx hb dX0_begin_36 rfl hl (Nat.le_of_ble_eq_true rfl) rfl (fun ls hl => ?_)
  obtain ⟨n0, hw⟩ := hw
  exact t_X0_begin_37 X Q   n0 _ _ _ _ _ hw hk (lv_sub hl [1, 0] rfl)
def rm_X0_arcNearer : Room := { frames := 0, cells := 0, slots := 0, locals := 0 }
abbrev wz_X0_arcNearer : List Cond := Cond.code yX0_arcNearer cX0_arcNearer 5 (some .int) :: wsA
theorem hd_X0_arcNearer : yX0_arcNearer.cls = RX0 ∧ yX0_arcNearer.cls ≠ "java/lang/invoke/MethodHandle" ∧ yX0_arcNearer.cls ≠ "java/lang/invoke/VarHandle" ∧ (parseMethodDescriptor yX0_arcNearer.desc).map (fun d => d.parameters.length) = some 1 := by decide +kernel
def wp_X0_arcNearer_72 (Q : Int32 → Sg → Prop)  (x1 x2 : Int32) (σ : Sg) : Prop := vp_in x1 346 ∧ (∀ σ4 : Sg, σ4 = (put σ 24 (x1).toNatClampNeg x2) → (Q x2 σ4))
set_option maxHeartbeats 4000000 in
set_option maxRecDepth 100000 in
theorem t_X0_arcNearer_72 {p : Program} {l : Launch} {e : Env} {s : State} {m : MethodId} {args : Array Value} {below : List Frame} {meth : Method} {c : Code} {G : Gw} (X : KC p m meth c cX0_arcNearer 5 s args wz_X0_arcNearer RX0 (some .int) G) (Q : Int32 → Sg → Prop)  : ∀ (σ : Sg) (x1 x2 : Int32) (H : Heap) (locs : List Loc) (ls : Array Slot), wp_X0_arcNearer_72 Q  x1 x2 σ → WK G s H locs σ → lv_has ls 5 [(0, .ref (G.1 4)), (1, .int x1), (2, .int x2)] → W p l e rm_X0_arcNearer s m args below meth c H locs 0 0 (ZI below args s G Q) (F0 m 72 ls []) := by
  have hx := X.1.1
  have hb := X.1.2.1
  intro σ x1 x2 H locs ls hw hk hl
  unfold wp_X0_arcNearer_72 at hw
  refine lv_aload_n hx hb dX0_arcNearer_72 rfl (lv_at hl 0 rfl) ?_
  refine k_get 10 X hk (wg_4 G _) rfl (hz_wsX00 _) (Nat.le_of_ble_eq_true rfl) (List.mem_cons_of_mem _ (aw_r3 _ (List.mem_of_getElem? (i := 23) rfl))) rfl dX0_arcNearer_73 ?_
  refine lv_iload_n hx hb dX0_arcNearer_76 rfl (lv_at hl 1 rfl) ?_
  refine lv_iload_n hx hb dX0_arcNearer_77 rfl (lv_at hl 2 rfl) ?_
  refine k_iast X hk (wg_24 G _) (ws_24 G _) rfl hw.1 dX0_arcNearer_78 (fun H locs hk => ?_)
  replace hw := hw.2
  obtain ⟨σ4, eσ4⟩ : ∃ y : Sg, y = (put σ 24 (x1).toNatClampNeg x2) := ⟨_, rfl⟩
  rw [← eσ4] at hk
  replace hw := hw σ4 eσ4
  refine lv_iload_n hx hb dX0_arcNearer_79 rfl (lv_at hl 2 rfl) ?_
  exact k_iret X hk hw dX0_arcNearer_80
def wp_X0_arcNearer_59 (Q : Int32 → Sg → Prop) (K19 : Int32 → Int32 → Int32 → Int32 → Sg → Prop) (x1 x2 x3 x4 : Int32) (σ : Sg) : Prop := vp_in x2 3968 ∧ (∀ x2_7 : Int32, x2_7 = (σ 20 (x2).toNatClampNeg) → (∀ x4_8 : Int32, x4_8 = (x4 + (1 : Int32)) → (K19 x1 x2_7 x3 x4_8 σ)))
set_option maxHeartbeats 4000000 in
set_option maxRecDepth 100000 in
theorem t_X0_arcNearer_59 {p : Program} {l : Launch} {e : Env} {s : State} {m : MethodId} {args : Array Value} {below : List Frame} {meth : Method} {c : Code} {G : Gw} (X : KC p m meth c cX0_arcNearer 5 s args wz_X0_arcNearer RX0 (some .int) G) (Q : Int32 → Sg → Prop) (K19 : Int32 → Int32 → Int32 → Int32 → Sg → Prop) (hK19 : ∀ (σ : Sg) (x1 x2 x3 x4 : Int32) (H : Heap) (locs : List Loc) (ls : Array Slot), K19 x1 x2 x3 x4 σ → WK G s H locs σ → lv_has ls 5 [(0, .ref (G.1 4)), (1, .int x1), (2, .int x2), (3, .int x3), (4, .int x4)] → W p l e rm_X0_arcNearer s m args below meth c H locs 0 0 (ZI below args s G Q) (F0 m 19 ls [])) : ∀ (σ : Sg) (x1 x2 x3 x4 : Int32) (H : Heap) (locs : List Loc) (ls : Array Slot), wp_X0_arcNearer_59 Q K19 x1 x2 x3 x4 σ → WK G s H locs σ → lv_has ls 5 [(0, .ref (G.1 4)), (1, .int x1), (2, .int x2), (3, .int x3), (4, .int x4)] → W p l e rm_X0_arcNearer s m args below meth c H locs 0 0 (ZI below args s G Q) (F0 m 59 ls []) := by
  have hx := X.1.1
  have hb := X.1.2.1
  intro σ x1 x2 x3 x4 H locs ls hw hk hl
  unfold wp_X0_arcNearer_59 at hw
  refine lv_aload_n hx hb dX0_arcNearer_59 rfl (lv_at hl 0 rfl) ?_
  refine k_get 6 X hk (wg_4 G _) rfl (hz_wsX00 _) (Nat.le_of_ble_eq_true rfl) (List.mem_cons_of_mem _ (aw_r3 _ (List.mem_of_getElem? (i := 19) rfl))) rfl dX0_arcNearer_60 ?_
  refine lv_iload_n hx hb dX0_arcNearer_63 rfl (lv_at hl 2 rfl) ?_
  refine k_iald X hk (wg_20 G _) hw.1 dX0_arcNearer_64 ?_
  replace hw := hw.2
  refine lv_topi (fun x2_7 ex2_7 => ?_)
  replace hw := hw x2_7 ex2_7
  refine lv_istore_n (lv' := [(2, .int x2_7), (0, .ref (G.1 4)), (1, .int x1), (3, .int x3), (4, .int x4)]) hx hb dX0_arcNearer_65 rfl hl (Nat.le_of_ble_eq_true rfl) rfl (fun ls hl => ?_)
  obtain ⟨x4_8, ex4_8⟩ : ∃ y : Int32, y = (x4 + (1 : Int32)) := ⟨_, rfl⟩
  replace hw := hw x4_8 ex4_8
  refine lv_iinc (v := x4_8) (lv' := [(4, .int x4_8), (2, .int x2_7), (0, .ref (G.1 4)), (1, .int x1), (3, .int x3)]) hx hb dX0_arcNearer_66 hl (k := 4) rfl (by rw [ex4_8]; rfl) (Nat.le_of_ble_eq_true rfl) rfl (fun ls hl => ?_)
  refine lv_goto (tgt := 19) hx hb dX0_arcNearer_69 (by decide) ?_
  exact hK19 _ _ _ _ _ _ _ _ hw hk (lv_sub hl [2, 3, 1, 4, 0] rfl)
def wp_X0_arcNearer_19 (Q : Int32 → Sg → Prop)  : Nat → Int32 → Int32 → Int32 → Int32 → Sg → Prop
  | 0, _, _, _, _, _ => False
  | n + 1, x1, x2, x3, x4, σ => ((3968 : Int32) ≤ x4 → (wp_X0_arcNearer_72 Q  x1 x2 σ)) ∧ (¬ ((3968 : Int32) ≤ x4) → ((x2 = (-1 : Int32) → (wp_X0_arcNearer_72 Q  x1 x2 σ)) ∧ (¬ (x2 = (-1 : Int32)) → (vp_in x2 3968 ∧ (((σ 22 (x2).toNatClampNeg) ≤ 0 → (wp_X0_arcNearer_59 Q (fun z1 z2 z3 z4 σ => wp_X0_arcNearer_19 Q  n z1 z2 z3 z4 σ) x1 x2 x3 x4 σ)) ∧ (¬ ((σ 22 (x2).toNatClampNeg) ≤ 0) → (vp_in x2 3968 ∧ (vp_in (σ 21 (x2).toNatClampNeg) 346 ∧ (((σ 23 ((σ 21 (x2).toNatClampNeg)).toNatClampNeg) = x3 → (wp_X0_arcNearer_72 Q  x1 x2 σ)) ∧ (¬ ((σ 23 ((σ 21 (x2).toNatClampNeg)).toNatClampNeg) = x3) → (wp_X0_arcNearer_59 Q (fun z1 z2 z3 z4 σ => wp_X0_arcNearer_19 Q  n z1 z2 z3 z4 σ) x1 x2 x3 x4 σ)))))))))))
set_option maxHeartbeats 4000000 in
set_option maxRecDepth 100000 in
theorem t_X0_arcNearer_19 {p : Program} {l : Launch} {e : Env} {s : State} {m : MethodId} {args : Array Value} {below : List Frame} {meth : Method} {c : Code} {G : Gw} (X : KC p m meth c cX0_arcNearer 5 s args wz_X0_arcNearer RX0 (some .int) G) (Q : Int32 → Sg → Prop)  : ∀ (n : Nat) (σ : Sg) (x1 x2 x3 x4 : Int32) (H : Heap) (locs : List Loc) (ls : Array Slot), wp_X0_arcNearer_19 Q  n x1 x2 x3 x4 σ → WK G s H locs σ → lv_has ls 5 [(0, .ref (G.1 4)), (1, .int x1), (2, .int x2), (3, .int x3), (4, .int x4)] → W p l e rm_X0_arcNearer s m args below meth c H locs 0 0 (ZI below args s G Q) (F0 m 19 ls []) := by
  have hx := X.1.1
  have hb := X.1.2.1
  intro n
  induction n with
  | zero =>
    intro σ x1 x2 x3 x4 H locs ls hw hk hl
    exact False.elim hw
  | succ n ih =>
    intro σ x1 x2 x3 x4 H locs ls hw hk hl
    rw [wp_X0_arcNearer_19] at hw
    refine lv_iload hx hb dX0_arcNearer_19 (lv_at hl 4 rfl) ?_
    refine lv_sipush (v := (3968 : Int32)) hx hb dX0_arcNearer_21 (by decide) ?_
    refine lv_icmp_ge (tgt := 72) hx hb dX0_arcNearer_24 (by decide) (fun c3 => ?_) (fun c3 => ?_)
    · replace hw := hw.1 c3
      exact t_X0_arcNearer_72 X Q   _ _ _ _ _ _ hw hk (lv_sub hl [0, 1, 2] rfl)
    · replace hw := hw.2 c3
      refine lv_iload_n hx hb dX0_arcNearer_27 rfl (lv_at hl 2 rfl) ?_
      refine lv_iconst (v := (-1 : Int32)) hx hb dX0_arcNearer_28 (by decide) ?_
      refine lv_icmp_eq (tgt := 72) hx hb dX0_arcNearer_29 (by decide) (fun c5 => ?_) (fun c5 => ?_)
      · replace hw := hw.1 c5
        exact t_X0_arcNearer_72 X Q   _ _ _ _ _ _ hw hk (lv_sub hl [0, 1, 2] rfl)
      · replace hw := hw.2 c5
        refine lv_aload_n hx hb dX0_arcNearer_32 rfl (lv_at hl 0 rfl) ?_
        refine k_get 8 X hk (wg_4 G _) rfl (hz_wsX00 _) (Nat.le_of_ble_eq_true rfl) (List.mem_cons_of_mem _ (aw_r3 _ (List.mem_of_getElem? (i := 21) rfl))) rfl dX0_arcNearer_33 ?_
        refine lv_iload_n hx hb dX0_arcNearer_36 rfl (lv_at hl 2 rfl) ?_
        refine k_iald X hk (wg_22 G _) hw.1 dX0_arcNearer_37 ?_
        replace hw := hw.2
        refine lv_if_le (tgt := 59) hx hb dX0_arcNearer_38 (by decide) (fun c6 => ?_) (fun c6 => ?_)
        · replace hw := hw.1 c6
          exact t_X0_arcNearer_59 X Q _ ih _ _ _ _ _ _ _ _ hw hk hl
        · replace hw := hw.2 c6
          refine lv_aload_n hx hb dX0_arcNearer_41 rfl (lv_at hl 0 rfl) ?_
          refine k_get 9 X hk (wg_4 G _) rfl (hz_wsX00 _) (Nat.le_of_ble_eq_true rfl) (List.mem_cons_of_mem _ (aw_r3 _ (List.mem_of_getElem? (i := 22) rfl))) rfl dX0_arcNearer_42 ?_
          refine lv_aload_n hx hb dX0_arcNearer_45 rfl (lv_at hl 0 rfl) ?_
          refine k_get 7 X hk (wg_4 G _) rfl (hz_wsX00 _) (Nat.le_of_ble_eq_true rfl) (List.mem_cons_of_mem _ (aw_r3 _ (List.mem_of_getElem? (i := 20) rfl))) rfl dX0_arcNearer_46 ?_
          refine lv_iload_n hx hb dX0_arcNearer_49 rfl (lv_at hl 2 rfl) ?_
          refine k_iald X hk (wg_21 G _) hw.1 dX0_arcNearer_50 ?_
          replace hw := hw.2
          refine k_iald X hk (wg_23 G _) hw.1 dX0_arcNearer_51 ?_
          replace hw := hw.2
          refine lv_iload_n hx hb dX0_arcNearer_52 rfl (lv_at hl 3 rfl) ?_
          refine lv_icmp_ne (tgt := 59) hx hb dX0_arcNearer_53 (by decide) (fun c9 => ?_) (fun c9 => ?_)
          · replace hw := hw.2 c9
            exact t_X0_arcNearer_59 X Q _ ih _ _ _ _ _ _ _ _ hw hk hl
          · replace hw := hw.1 c9
            refine lv_goto (tgt := 72) hx hb dX0_arcNearer_56 (by decide) ?_
            exact t_X0_arcNearer_72 X Q   _ _ _ _ _ _ hw hk (lv_sub hl [0, 1, 2] rfl)
def wp_X0_arcNearer (σ : Sg) (p1 : Int32) (Q : Int32 → Sg → Prop) : Prop := vp_in p1 346 ∧ (∀ x2_1 : Int32, x2_1 = (σ 24 (p1).toNatClampNeg) → (vp_in p1 346 ∧ (∀ x3_2 : Int32, x3_2 = ((σ 23 (p1).toNatClampNeg) - (1 : Int32)) → (∃ n0, wp_X0_arcNearer_19 Q  n0 p1 x2_1 x3_2 (0 : Int32) σ))))
set_option maxHeartbeats 4000000 in
set_option maxRecDepth 100000 in
theorem c_X0_arcNearer (l : Launch) (G : Gw) (σ : Sg) (p1 : Int32) (Q : Int32 → Sg → Prop) (hw : wp_X0_arcNearer σ p1 Q) : MetI l yX0_arcNearer wz_X0_arcNearer rm_X0_arcNearer G σ [.ref (G.1 4), .int p1] Q := by
  refine MetI.of cX0_arcNearer 5 (some .int) (by decide) rfl (Nat.le_of_ble_eq_true rfl) ?_
  intro p e s m below meth c X hk ls hl
  have X : KC p m meth c cX0_arcNearer 5 s _ wz_X0_arcNearer RX0 (some .int) G := X
  have hl : lv_has ls 5 [(0, .ref (G.1 4)), (1, .int p1)] := hl
  unfold wp_X0_arcNearer at hw
  have hx := X.1.1
  have hb := X.1.2.1
  refine lv_aload_n hx hb dX0_arcNearer_0 rfl (lv_at hl 0 rfl) ?_
  refine k_get 10 X hk (wg_4 G _) rfl (hz_wsX00 _) (Nat.le_of_ble_eq_true rfl) (List.mem_cons_of_mem _ (aw_r3 _ (List.mem_of_getElem? (i := 23) rfl))) rfl dX0_arcNearer_1 ?_
  refine lv_iload_n hx hb dX0_arcNearer_4 rfl (lv_at hl 1 rfl) ?_
  refine k_iald X hk (wg_24 G _) hw.1 dX0_arcNearer_5 ?_
  replace hw := hw.2
  refine lv_topi (fun x2_1 ex2_1 => ?_)
  replace hw := hw x2_1 ex2_1
  refine lv_istore_n (lv' := [(2, .int x2_1), (0, .ref (G.1 4)), (1, .int p1)]) hx hb dX0_arcNearer_6 rfl hl (Nat.le_of_ble_eq_true rfl) rfl (fun ls hl => ?_)
  refine lv_aload_n hx hb dX0_arcNearer_7 rfl (lv_at hl 1 rfl) ?_
  refine k_get 9 X hk (wg_4 G _) rfl (hz_wsX00 _) (Nat.le_of_ble_eq_true rfl) (List.mem_cons_of_mem _ (aw_r3 _ (List.mem_of_getElem? (i := 22) rfl))) rfl dX0_arcNearer_8 ?_
  refine lv_iload_n hx hb dX0_arcNearer_11 rfl (lv_at hl 2 rfl) ?_
  refine k_iald X hk (wg_23 G _) hw.1 dX0_arcNearer_12 ?_
  replace hw := hw.2
  refine lv_iconst (v := (1 : Int32)) hx hb dX0_arcNearer_13 (by decide) ?_
  refine lv_isub hx hb dX0_arcNearer_14 ?_
  refine lv_topi (fun x3_2 ex3_2 => ?_)
  replace hw := hw x3_2 ex3_2
  refine lv_istore_n (lv' := [(3, .int x3_2), (2, .int x2_1), (0, .ref (G.1 4)), (1, .int p1)]) hx hb dX0_arcNearer_15 rfl hl (Nat.le_of_ble_eq_true rfl) rfl (fun ls hl => ?_)
  refine lv_iconst (v := (0 : Int32)) hx hb dX0_arcNearer_16 (by decide) ?_
  refine lv_istore (lv' := [(4, .int (0 : Int32)), (3, .int x3_2), (2, .int x2_1), (0, .ref (G.1 4)), (1, .int p1)]) hx hb dX0_arcNearer_17 hl (Nat.le_of_ble_eq_true rfl) rfl (fun ls hl => ?_)
  obtain ⟨n0, hw⟩ := hw
  exact t_X0_arcNearer_19 X Q   n0 _ _ _ _ _ _ _ _ hw hk (lv_sub hl [3, 4, 2, 1, 0] rfl)
def rm_X0_fillPath : Room := { frames := 0, cells := 0, slots := 0, locals := 0 }
abbrev wz_X0_fillPath : List Cond := Cond.code yX0_fillPath cX0_fillPath 5 (some .int) :: wsA
theorem hd_X0_fillPath : yX0_fillPath.cls = RX0 ∧ yX0_fillPath.cls ≠ "java/lang/invoke/MethodHandle" ∧ yX0_fillPath.cls ≠ "java/lang/invoke/VarHandle" ∧ (parseMethodDescriptor yX0_fillPath.desc).map (fun d => d.parameters.length) = some 1 := by decide +kernel
def wp_X0_fillPath_113 (Q : Int32 → Sg → Prop) (K56 : Int32 → Int32 → Int32 → Sg → Prop) (x2 x3 x4 : Int32) (σ : Sg) : Prop := ∀ x4_9 : Int32, x4_9 = (x4 + (-1 : Int32)) → (K56 x2 x3 x4_9 σ)
set_option maxHeartbeats 4000000 in
set_option maxRecDepth 100000 in
theorem t_X0_fillPath_113 {p : Program} {l : Launch} {e : Env} {s : State} {m : MethodId} {args : Array Value} {below : List Frame} {meth : Method} {c : Code} {G : Gw} (X : KC p m meth c cX0_fillPath 5 s args wz_X0_fillPath RX0 (some .int) G) (Q : Int32 → Sg → Prop) (K56 : Int32 → Int32 → Int32 → Sg → Prop) (hK56 : ∀ (σ : Sg) (x2 x3 x4 : Int32) (H : Heap) (locs : List Loc) (ls : Array Slot), K56 x2 x3 x4 σ → WK G s H locs σ → lv_has ls 5 [(0, .ref (G.1 4)), (2, .int x2), (3, .int x3), (4, .int x4)] → W p l e rm_X0_fillPath s m args below meth c H locs 0 0 (ZI below args s G Q) (F0 m 56 ls [])) : ∀ (σ : Sg) (x2 x3 x4 : Int32) (H : Heap) (locs : List Loc) (ls : Array Slot), wp_X0_fillPath_113 Q K56 x2 x3 x4 σ → WK G s H locs σ → lv_has ls 5 [(0, .ref (G.1 4)), (2, .int x2), (3, .int x3), (4, .int x4)] → W p l e rm_X0_fillPath s m args below meth c H locs 0 0 (ZI below args s G Q) (F0 m 113 ls []) := by
  have hx := X.1.1
  have hb := X.1.2.1
  intro σ x2 x3 x4 H locs ls hw hk hl
  unfold wp_X0_fillPath_113 at hw
  obtain ⟨x4_9, ex4_9⟩ : ∃ y : Int32, y = (x4 + (-1 : Int32)) := ⟨_, rfl⟩
  replace hw := hw x4_9 ex4_9
  refine lv_iinc (v := x4_9) (lv' := [(4, .int x4_9), (0, .ref (G.1 4)), (2, .int x2), (3, .int x3)]) hx hb dX0_fillPath_113 hl (k := 3) rfl (by rw [ex4_9]; rfl) (Nat.le_of_ble_eq_true rfl) rfl (fun ls hl => ?_)
  refine lv_goto (tgt := 56) hx hb dX0_fillPath_116 (by decide) ?_
  exact hK56 _ _ _ _ _ _ _ hw hk (lv_sub hl [1, 2, 3, 0] rfl)
def wp_X0_fillPath_56 (Q : Int32 → Sg → Prop)  : Nat → Int32 → Int32 → Int32 → Sg → Prop
  | 0, _, _, _, _ => False
  | n + 1, x2, x3, x4, σ => (x4 < 0 → (∀ σ5 : Sg, σ5 = (put σ 4 4 ((σ 4 4) + x2)) → (Q x3 σ5))) ∧ (¬ (x4 < 0) → (vp_in x4 346 ∧ (vp_in (σ 25 (x4).toNatClampNeg) 3968 ∧ (vp_in (σ 25 (x4).toNatClampNeg) 3968 ∧ (∀ σ6 : Sg, σ6 = (put σ 22 ((σ 25 (x4).toNatClampNeg)).toNatClampNeg ((σ 22 ((σ 25 (x4).toNatClampNeg)).toNatClampNeg) - x2)) → (vp_in x4 346 ∧ (vp_in ((σ6 25 (x4).toNatClampNeg) ^^^ (1 : Int32)) 3968 ∧ (vp_in ((σ6 25 (x4).toNatClampNeg) ^^^ (1 : Int32)) 3968 ∧ (∀ σ7 : Sg, σ7 = (put σ6 22 (((σ6 25 (x4).toNatClampNeg) ^^^ (1 : Int32))).toNatClampNeg ((σ6 22 (((σ6 25 (x4).toNatClampNeg) ^^^ (1 : Int32))).toNatClampNeg) + x2)) → (vp_in x4 346 ∧ (vp_in (σ7 25 (x4).toNatClampNeg) 3968 ∧ (((σ7 22 ((σ7 25 (x4).toNatClampNeg)).toNatClampNeg) = 0 → (wp_X0_fillPath_113 Q (fun z2 z3 z4 σ => wp_X0_fillPath_56 Q  n z2 z3 z4 σ) x2 x4 x4 σ7)) ∧ (¬ ((σ7 22 ((σ7 25 (x4).toNatClampNeg)).toNatClampNeg) = 0) → (wp_X0_fillPath_113 Q (fun z2 z3 z4 σ => wp_X0_fillPath_56 Q  n z2 z3 z4 σ) x2 x3 x4 σ7))))))))))))))
set_option maxHeartbeats 4000000 in
set_option maxRecDepth 100000 in
theorem t_X0_fillPath_56 {p : Program} {l : Launch} {e : Env} {s : State} {m : MethodId} {args : Array Value} {below : List Frame} {meth : Method} {c : Code} {G : Gw} (X : KC p m meth c cX0_fillPath 5 s args wz_X0_fillPath RX0 (some .int) G) (Q : Int32 → Sg → Prop)  : ∀ (n : Nat) (σ : Sg) (x2 x3 x4 : Int32) (H : Heap) (locs : List Loc) (ls : Array Slot), wp_X0_fillPath_56 Q  n x2 x3 x4 σ → WK G s H locs σ → lv_has ls 5 [(0, .ref (G.1 4)), (2, .int x2), (3, .int x3), (4, .int x4)] → W p l e rm_X0_fillPath s m args below meth c H locs 0 0 (ZI below args s G Q) (F0 m 56 ls []) := by
  have hx := X.1.1
  have hb := X.1.2.1
  intro n
  induction n with
  | zero =>
    intro σ x2 x3 x4 H locs ls hw hk hl
    exact False.elim hw
  | succ n ih =>
    intro σ x2 x3 x4 H locs ls hw hk hl
    rw [wp_X0_fillPath_56] at hw
    refine lv_iload hx hb dX0_fillPath_56 (lv_at hl 3 rfl) ?_
    refine lv_if_lt (tgt := 119) hx hb dX0_fillPath_58 (by decide) (fun c4 => ?_) (fun c4 => ?_)
    · replace hw := hw.1 c4
      refine lv_aload_n hx hb dX0_fillPath_119 rfl (lv_at hl 0 rfl) ?_
      refine lv_dup hx hb dX0_fillPath_120 rfl ?_
      refine k_get 4 X hk (wg_4 G _) rfl (hz_wsX00 _) (Nat.le_of_ble_eq_true rfl) (List.mem_cons_of_mem _ (aw_r26 _ (List.mem_of_getElem? (i := 2) rfl))) rfl dX0_fillPath_121 ?_
      refine lv_iload_n hx hb dX0_fillPath_124 rfl (lv_at hl 1 rfl) ?_
      refine lv_iadd hx hb dX0_fillPath_125 ?_
      refine k_put 4 X hk (wg_4 G _) rfl (hz_wsX00 _) tyX0_ok nmX0 (Nat.le_of_ble_eq_true rfl) (List.mem_cons_of_mem _ (aw_r26 _ (List.mem_of_getElem? (i := 2) rfl))) rfl rfl (Nat.le_of_ble_eq_true rfl) (ws_4_4 G _ _) dX0_fillPath_126 (fun H locs hk => ?_)
      obtain ⟨σ5, eσ5⟩ : ∃ y : Sg, y = (put σ 4 4 ((σ 4 4) + x2)) := ⟨_, rfl⟩
      rw [← eσ5] at hk
      replace hw := hw σ5 eσ5
      refine lv_iload_n hx hb dX0_fillPath_129 rfl (lv_at hl 2 rfl) ?_
      exact k_iret X hk hw dX0_fillPath_130
    · replace hw := hw.2 c4
      refine lv_aload_n hx hb dX0_fillPath_61 rfl (lv_at hl 0 rfl) ?_
      refine k_get 8 X hk (wg_4 G _) rfl (hz_wsX00 _) (Nat.le_of_ble_eq_true rfl) (List.mem_cons_of_mem _ (aw_r3 _ (List.mem_of_getElem? (i := 21) rfl))) rfl dX0_fillPath_62 ?_
      refine lv_aload_n hx hb dX0_fillPath_65 rfl (lv_at hl 0 rfl) ?_
      refine k_get 11 X hk (wg_4 G _) rfl (hz_wsX00 _) (Nat.le_of_ble_eq_true rfl) (List.mem_cons_of_mem _ (aw_r4 _ (List.mem_of_getElem? (i := 0) rfl))) rfl dX0_fillPath_66 ?_
      refine lv_iload hx hb dX0_fillPath_69 (lv_at hl 3 rfl) ?_
      refine k_iald X hk (wg_25 G _) hw.1 dX0_fillPath_71 ?_
      replace hw := hw.2
      refine lv_dup2_11 hx hb dX0_fillPath_72 rfl rfl ?_
      refine k_iald X hk (wg_22 G _) hw.1 dX0_fillPath_73 ?_
      replace hw := hw.2
      refine lv_iload_n hx hb dX0_fillPath_74 rfl (lv_at hl 1 rfl) ?_
      refine lv_isub hx hb dX0_fillPath_75 ?_
      refine k_iast X hk (wg_22 G _) (ws_22 G _) rfl hw.1 dX0_fillPath_76 (fun H locs hk => ?_)
      replace hw := hw.2
      obtain ⟨σ6, eσ6⟩ : ∃ y : Sg, y = (put σ 22 ((σ 25 (x4).toNatClampNeg)).toNatClampNeg ((σ 22 ((σ 25 (x4).toNatClampNeg)).toNatClampNeg) - x2)) := ⟨_, rfl⟩
      rw [← eσ6] at hk
      replace hw := hw σ6 eσ6
      refine lv_aload_n hx hb dX0_fillPath_77 rfl (lv_at hl 0 rfl) ?_
      refine k_get 8 X hk (wg_4 G _) rfl (hz_wsX00 _) (Nat.le_of_ble_eq_true rfl) (List.mem_cons_of_mem _ (aw_r3 _ (List.mem_of_getElem? (i := 21) rfl))) rfl dX0_fillPath_78 ?_
      refine lv_aload_n hx hb dX0_fillPath_81 rfl (lv_at hl 0 rfl) ?_
      refine k_get 11 X hk (wg_4 G _) rfl (hz_wsX00 _) (Nat.le_of_ble_eq_true rfl) (List.mem_cons_of_mem _ (aw_r4 _ (List.mem_of_getElem? (i := 0) rfl))) rfl dX0_fillPath_82 ?_
      refine lv_iload hx hb dX0_fillPath_85 (lv_at hl 3 rfl) ?_
      refine k_iald X hk (wg_25 G _) hw.1 dX0_fillPath_87 ?_
      replace hw := hw.2
      refine lv_iconst (v := (1 : Int32)) hx hb dX0_fillPath_88 (by decide) ?_
      refine lv_ixor hx hb dX0_fillPath_89 ?_
      refine lv_dup2_11 hx hb dX0_fillPath_90 rfl rfl ?_
      refine k_iald X hk (wg_22 G _) hw.1 dX0_fillPath_91 ?_
      replace hw := hw.2
      refine lv_iload_n hx hb dX0_fillPath_92 rfl (lv_at hl 1 rfl) ?_
      refine lv_iadd hx hb dX0_fillPath_93 ?_
      refine k_iast X hk (wg_22 G _) (ws_22 G _) rfl hw.1 dX0_fillPath_94 (fun H locs hk => ?_)
      replace hw := hw.2
      obtain ⟨σ7, eσ7⟩ : ∃ y : Sg, y = (put σ6 22 (((σ6 25 (x4).toNatClampNeg) ^^^ (1 : Int32))).toNatClampNeg ((σ6 22 (((σ6 25 (x4).toNatClampNeg) ^^^ (1 : Int32))).toNatClampNeg) + x2)) := ⟨_, rfl⟩
      rw [← eσ7] at hk
      replace hw := hw σ7 eσ7
      refine lv_aload_n hx hb dX0_fillPath_95 rfl (lv_at hl 0 rfl) ?_
      refine k_get 8 X hk (wg_4 G _) rfl (hz_wsX00 _) (Nat.le_of_ble_eq_true rfl) (List.mem_cons_of_mem _ (aw_r3 _ (List.mem_of_getElem? (i := 21) rfl))) rfl dX0_fillPath_96 ?_
      refine lv_aload_n hx hb dX0_fillPath_99 rfl (lv_at hl 0 rfl) ?_
      refine k_get 11 X hk (wg_4 G _) rfl (hz_wsX00 _) (Nat.le_of_ble_eq_true rfl) (List.mem_cons_of_mem _ (aw_r4 _ (List.mem_of_getElem? (i := 0) rfl))) rfl dX0_fillPath_100 ?_
      refine lv_iload hx hb dX0_fillPath_103 (lv_at hl 3 rfl) ?_
      refine k_iald X hk (wg_25 G _) hw.1 dX0_fillPath_105 ?_
      replace hw := hw.2
      refine k_iald X hk (wg_22 G _) hw.1 dX0_fillPath_106 ?_
      replace hw := hw.2
      refine lv_if_ne (tgt := 113) hx hb dX0_fillPath_107 (by decide) (fun c8 => ?_) (fun c8 => ?_)
      · replace hw := hw.2 c8
        exact t_X0_fillPath_113 X Q _ ih _ _ _ _ _ _ _ hw hk hl
      · replace hw := hw.1 c8
        refine lv_iload hx hb dX0_fillPath_110 (lv_at hl 3 rfl) ?_
        refine lv_istore_n (lv' := [(3, .int x4), (0, .ref (G.1 4)), (2, .int x2), (4, .int x4)]) hx hb dX0_fillPath_112 rfl hl (Nat.le_of_ble_eq_true rfl) rfl (fun ls hl => ?_)
        exact t_X0_fillPath_113 X Q _ ih _ _ _ _ _ _ _ hw hk (lv_sub hl [1, 2, 0, 3] rfl)
def wp_X0_fillPath_42 (Q : Int32 → Sg → Prop) (K7 : Int32 → Int32 → Int32 → Sg → Prop) (x1 x3 y0 : Int32) (σ : Sg) : Prop := ∀ x3_11 : Int32, x3_11 = (x3 + (1 : Int32)) → (K7 x1 y0 x3_11 σ)
set_option maxHeartbeats 4000000 in
set_option maxRecDepth 100000 in
theorem t_X0_fillPath_42 {p : Program} {l : Launch} {e : Env} {s : State} {m : MethodId} {args : Array Value} {below : List Frame} {meth : Method} {c : Code} {G : Gw} (X : KC p m meth c cX0_fillPath 5 s args wz_X0_fillPath RX0 (some .int) G) (Q : Int32 → Sg → Prop) (K7 : Int32 → Int32 → Int32 → Sg → Prop) (hK7 : ∀ (σ : Sg) (x1 x2 x3 : Int32) (H : Heap) (locs : List Loc) (ls : Array Slot), K7 x1 x2 x3 σ → WK G s H locs σ → lv_has ls 5 [(0, .ref (G.1 4)), (1, .int x1), (2, .int x2), (3, .int x3)] → W p l e rm_X0_fillPath s m args below meth c H locs 0 0 (ZI below args s G Q) (F0 m 7 ls [])) : ∀ (σ : Sg) (x1 x3 y0 : Int32) (H : Heap) (locs : List Loc) (ls : Array Slot), wp_X0_fillPath_42 Q K7 x1 x3 y0 σ → WK G s H locs σ → lv_has ls 5 [(0, .ref (G.1 4)), (1, .int x1), (3, .int x3)] → W p l e rm_X0_fillPath s m args below meth c H locs 0 0 (ZI below args s G Q) (F0 m 42 ls [.int y0]) := by
  have hx := X.1.1
  have hb := X.1.2.1
  intro σ x1 x3 y0 H locs ls hw hk hl
  unfold wp_X0_fillPath_42 at hw
  refine lv_istore_n (lv' := [(2, .int y0), (0, .ref (G.1 4)), (1, .int x1), (3, .int x3)]) hx hb dX0_fillPath_42 rfl hl (Nat.le_of_ble_eq_true rfl) rfl (fun ls hl => ?_)
  obtain ⟨x3_11, ex3_11⟩ : ∃ y : Int32, y = (x3 + (1 : Int32)) := ⟨_, rfl⟩
  replace hw := hw x3_11 ex3_11
  refine lv_iinc (v := x3_11) (lv' := [(3, .int x3_11), (2, .int y0), (0, .ref (G.1 4)), (1, .int x1)]) hx hb dX0_fillPath_43 hl (k := 3) rfl (by rw [ex3_11]; rfl) (Nat.le_of_ble_eq_true rfl) rfl (fun ls hl => ?_)
  refine lv_goto (tgt := 7) hx hb dX0_fillPath_46 (by decide) ?_
  exact hK7 _ _ _ _ _ _ _ hw hk (lv_sub hl [2, 3, 1, 0] rfl)
def wp_X0_fillPath_7 (Q : Int32 → Sg → Prop)  : Nat → Int32 → Int32 → Int32 → Sg → Prop
  | 0, _, _, _, _ => False
  | n + 1, x1, x2, x3, σ => (x1 ≤ x3 → (∀ x4_3 : Int32, x4_3 = (x1 - (1 : Int32)) → (∃ n0, wp_X0_fillPath_56 Q  n0 x2 (0 : Int32) x4_3 σ))) ∧ (¬ (x1 ≤ x3) → (vp_in x3 346 ∧ (vp_in (σ 25 (x3).toNatClampNeg) 3968 ∧ ((x2 ≤ (σ 22 ((σ 25 (x3).toNatClampNeg)).toNatClampNeg) → (wp_X0_fillPath_42 Q (fun z1 z2 z3 σ => wp_X0_fillPath_7 Q  n z1 z2 z3 σ) x1 x3 x2 σ)) ∧ (¬ (x2 ≤ (σ 22 ((σ 25 (x3).toNatClampNeg)).toNatClampNeg)) → (vp_in x3 346 ∧ (vp_in (σ 25 (x3).toNatClampNeg) 3968 ∧ (wp_X0_fillPath_42 Q (fun z1 z2 z3 σ => wp_X0_fillPath_7 Q  n z1 z2 z3 σ) x1 x3 (σ 22 ((σ 25 (x3).toNatClampNeg)).toNatClampNeg) σ))))))))
set_option maxHeartbeats 4000000 in
set_option maxRecDepth 100000 in
theorem t_X0_fillPath_7 {p : Program} {l : Launch} {e : Env} {s : State} {m : MethodId} {args : Array Value} {below : List Frame} {meth : Method} {c : Code} {G : Gw} (X : KC p m meth c cX0_fillPath 5 s args wz_X0_fillPath RX0 (some .int) G) (Q : Int32 → Sg → Prop)  : ∀ (n : Nat) (σ : Sg) (x1 x2 x3 : Int32) (H : Heap) (locs : List Loc) (ls : Array Slot), wp_X0_fillPath_7 Q  n x1 x2 x3 σ → WK G s H locs σ → lv_has ls 5 [(0, .ref (G.1 4)), (1, .int x1), (2, .int x2), (3, .int x3)] → W p l e rm_X0_fillPath s m args below meth c H locs 0 0 (ZI below args s G Q) (F0 m 7 ls []) := by
  have hx := X.1.1
  have hb := X.1.2.1
  intro n
  induction n with
  | zero =>
    intro σ x1 x2 x3 H locs ls hw hk hl
    exact False.elim hw
  | succ n ih =>
    intro σ x1 x2 x3 H locs ls hw hk hl
    rw [wp_X0_fillPath_7] at hw
    refine lv_iload_n hx hb dX0_fillPath_7 rfl (lv_at hl 3 rfl) ?_
    refine lv_iload_n hx hb dX0_fillPath_8 rfl (lv_at hl 1 rfl) ?_
    refine lv_icmp_ge (tgt := 49) hx hb dX0_fillPath_9 (by decide) (fun c2 => ?_) (fun c2 => ?_)
    · replace hw := hw.1 c2
      refine lv_iconst (v := (0 : Int32)) hx hb dX0_fillPath_49 (by decide) ?_
      refine lv_istore_n (lv' := [(3, .int (0 : Int32)), (0, .ref (G.1 4)), (1, .int x1), (2, .int x2)]) hx hb dX0_fillPath_50 rfl hl (Nat.le_of_ble_eq_true rfl) rfl (fun ls hl => ?_)
      refine lv_iload_n hx hb dX0_fillPath_51 rfl (lv_at hl 2 rfl) ?_
      refine lv_iconst (v := (1 : Int32)) hx hb dX0_fillPath_52 (by decide) ?_
      refine lv_isub hx hb dX0_fillPath_53 ?_
      refine lv_topi (fun x4_3 ex4_3 => ?_)
      replace hw := hw x4_3 ex4_3
      refine lv_istore (lv' := [(4, .int x4_3), (3, .int (0 : Int32)), (0, .ref (G.1 4)), (1, .int x1), (2, .int x2)]) hx hb dX0_fillPath_54 hl (Nat.le_of_ble_eq_true rfl) rfl (fun ls hl => ?_)
      obtain ⟨n0, hw⟩ := hw
      exact t_X0_fillPath_56 X Q   n0 _ _ _ _ _ _ _ hw hk (lv_sub hl [2, 4, 1, 0] rfl)
    · replace hw := hw.2 c2
      refine lv_aload_n hx hb dX0_fillPath_12 rfl (lv_at hl 0 rfl) ?_
      refine k_get 8 X hk (wg_4 G _) rfl (hz_wsX00 _) (Nat.le_of_ble_eq_true rfl) (List.mem_cons_of_mem _ (aw_r3 _ (List.mem_of_getElem? (i := 21) rfl))) rfl dX0_fillPath_13 ?_
      refine lv_aload_n hx hb dX0_fillPath_16 rfl (lv_at hl 0 rfl) ?_
      refine k_get 11 X hk (wg_4 G _) rfl (hz_wsX00 _) (Nat.le_of_ble_eq_true rfl) (List.mem_cons_of_mem _ (aw_r4 _ (List.mem_of_getElem? (i := 0) rfl))) rfl dX0_fillPath_17 ?_
      refine lv_iload_n hx hb dX0_fillPath_20 rfl (lv_at hl 3 rfl) ?_
      refine k_iald X hk (wg_25 G _) hw.1 dX0_fillPath_21 ?_
      replace hw := hw.2
      refine k_iald X hk (wg_22 G _) hw.1 dX0_fillPath_22 ?_
      replace hw := hw.2
      refine lv_iload_n hx hb dX0_fillPath_23 rfl (lv_at hl 2 rfl) ?_
      refine lv_icmp_ge (tgt := 41) hx hb dX0_fillPath_24 (by decide) (fun c10 => ?_) (fun c10 => ?_)
      · replace hw := hw.1 c10
        refine lv_iload_n hx hb dX0_fillPath_41 rfl (lv_at hl 2 rfl) ?_
        exact t_X0_fillPath_42 X Q _ ih _ _ _ _ _ _ _ hw hk (lv_sub hl [0, 1, 3] rfl)
      · replace hw := hw.2 c10
        refine lv_aload_n hx hb dX0_fillPath_27 rfl (lv_at hl 0 rfl) ?_
        refine k_get 8 X hk (wg_4 G _) rfl (hz_wsX00 _) (Nat.le_of_ble_eq_true rfl) (List.mem_cons_of_mem _ (aw_r3 _ (List.mem_of_getElem? (i := 21) rfl))) rfl dX0_fillPath_28 ?_
        refine lv_aload_n hx hb dX0_fillPath_31 rfl (lv_at hl 0 rfl) ?_
        refine k_get 11 X hk (wg_4 G _) rfl (hz_wsX00 _) (Nat.le_of_ble_eq_true rfl) (List.mem_cons_of_mem _ (aw_r4 _ (List.mem_of_getElem? (i := 0) rfl))) rfl dX0_fillPath_32 ?_
        refine lv_iload_n hx hb dX0_fillPath_35 rfl (lv_at hl 3 rfl) ?_
        refine k_iald X hk (wg_25 G _) hw.1 dX0_fillPath_36 ?_
        replace hw := hw.2
        refine k_iald X hk (wg_22 G _) hw.1 dX0_fillPath_37 ?_
        replace hw := hw.2
        refine lv_goto (tgt := 42) hx hb dX0_fillPath_38 (by decide) ?_
        exact t_X0_fillPath_42 X Q _ ih _ _ _ _ _ _ _ hw hk (lv_sub hl [0, 1, 3] rfl)
def wp_X0_fillPath (σ : Sg) (p1 : Int32) (Q : Int32 → Sg → Prop) : Prop := ∀ x2_1 : Int32, x2_1 = (σ 4 3) → (∃ n0, wp_X0_fillPath_7 Q  n0 p1 x2_1 (0 : Int32) σ)
set_option maxHeartbeats 4000000 in
set_option maxRecDepth 100000 in
theorem c_X0_fillPath (l : Launch) (G : Gw) (σ : Sg) (p1 : Int32) (Q : Int32 → Sg → Prop) (hw : wp_X0_fillPath σ p1 Q) : MetI l yX0_fillPath wz_X0_fillPath rm_X0_fillPath G σ [.ref (G.1 4), .int p1] Q := by
  refine MetI.of cX0_fillPath 5 (some .int) (by decide) rfl (Nat.le_of_ble_eq_true rfl) ?_
  intro p e s m below meth c X hk ls hl
  have X : KC p m meth c cX0_fillPath 5 s _ wz_X0_fillPath RX0 (some .int) G := X
  have hl : lv_has ls 5 [(0, .ref (G.1 4)), (1, .int p1)] := hl
  unfold wp_X0_fillPath at hw
  have hx := X.1.1
  have hb := X.1.2.1
  refine lv_aload_n hx hb dX0_fillPath_0 rfl (lv_at hl 0 rfl) ?_
  refine k_get 3 X hk (wg_4 G _) rfl (hz_wsX00 _) (Nat.le_of_ble_eq_true rfl) (List.mem_cons_of_mem _ (aw_r26 _ (List.mem_of_getElem? (i := 13) rfl))) rfl dX0_fillPath_1 ?_
  refine lv_topi (fun x2_1 ex2_1 => ?_)
  replace hw := hw x2_1 ex2_1
  refine lv_istore_n (lv' := [(2, .int x2_1), (0, .ref (G.1 4)), (1, .int p1)]) hx hb dX0_fillPath_4 rfl hl (Nat.le_of_ble_eq_true rfl) rfl (fun ls hl => ?_)
  refine lv_iconst (v := (0 : Int32)) hx hb dX0_fillPath_5 (by decide) ?_
  refine lv_istore_n (lv' := [(3, .int (0 : Int32)), (2, .int x2_1), (0, .ref (G.1 4)), (1, .int p1)]) hx hb dX0_fillPath_6 rfl hl (Nat.le_of_ble_eq_true rfl) rfl (fun ls hl => ?_)
  obtain ⟨n0, hw⟩ := hw
  exact t_X0_fillPath_7 X Q   n0 _ _ _ _ _ _ _ hw hk (lv_sub hl [2, 3, 1, 0] rfl)
def rm_X0_fillPaths : Room := { frames := 1, cells := 0, slots := 0, locals := 24 }
abbrev wz_X0_fillPaths : List Cond := Cond.code yX0_fillPaths cX0_fillPaths 5 none :: wsA
theorem hd_X0_fillPaths : yX0_fillPaths.cls = RX0 ∧ yX0_fillPaths.cls ≠ "java/lang/invoke/MethodHandle" ∧ yX0_fillPaths.cls ≠ "java/lang/invoke/VarHandle" ∧ (parseMethodDescriptor yX0_fillPaths.desc).map (fun d => d.parameters.length) = some 0 := by decide +kernel
def wp_X0_fillPaths_131 (Q : Sg → Prop) (K24 : Int32 → Int32 → Int32 → Sg → Prop) (x1 x2 x3 : Int32) (σ : Sg) : Prop := ∀ x3_11 : Int32, x3_11 = (x3 + (1 : Int32)) → (K24 x1 x2 x3_11 σ)
set_option maxHeartbeats 4000000 in
set_option maxRecDepth 100000 in
theorem t_X0_fillPaths_131 {p : Program} {l : Launch} {e : Env} {s : State} {m : MethodId} {args : Array Value} {below : List Frame} {meth : Method} {c : Code} {G : Gw} (X : KC p m meth c cX0_fillPaths 5 s args wz_X0_fillPaths RX0 none G) (Q : Sg → Prop) (K24 : Int32 → Int32 → Int32 → Sg → Prop) (hK24 : ∀ (σ : Sg) (x1 x2 x3 : Int32) (H : Heap) (locs : List Loc) (ls : Array Slot), K24 x1 x2 x3 σ → WK G s H locs σ → lv_has ls 5 [(0, .ref (G.1 4)), (1, .int x1), (2, .int x2), (3, .int x3)] → W p l e rm_X0_fillPaths s m args below meth c H locs 0 0 (ZV below args s G Q) (F0 m 24 ls [])) : ∀ (σ : Sg) (x1 x2 x3 : Int32) (H : Heap) (locs : List Loc) (ls : Array Slot), wp_X0_fillPaths_131 Q K24 x1 x2 x3 σ → WK G s H locs σ → lv_has ls 5 [(0, .ref (G.1 4)), (1, .int x1), (2, .int x2), (3, .int x3)] → W p l e rm_X0_fillPaths s m args below meth c H locs 0 0 (ZV below args s G Q) (F0 m 131 ls []) := by
  have hx := X.1.1
  have hb := X.1.2.1
  intro σ x1 x2 x3 H locs ls hw hk hl
  unfold wp_X0_fillPaths_131 at hw
  obtain ⟨x3_11, ex3_11⟩ : ∃ y : Int32, y = (x3 + (1 : Int32)) := ⟨_, rfl⟩
  replace hw := hw x3_11 ex3_11
  refine lv_iinc (v := x3_11) (lv' := [(3, .int x3_11), (0, .ref (G.1 4)), (1, .int x1), (2, .int x2)]) hx hb dX0_fillPaths_131 hl (k := 3) rfl (by rw [ex3_11]; rfl) (Nat.le_of_ble_eq_true rfl) rfl (fun ls hl => ?_)
  refine lv_goto (tgt := 24) hx hb dX0_fillPaths_134 (by decide) ?_
  exact hK24 _ _ _ _ _ _ _ hw hk (lv_sub hl [1, 2, 3, 0] rfl)
def wp_X0_fillPaths_57 (Q : Sg → Prop) (K24 : Int32 → Int32 → Int32 → Sg → Prop) (x1 x2 x3 : Int32) (σ : Sg) : Prop := wp_X0_arcNearer σ x1 (fun r5 σ4 => (r5 = (-1 : Int32) → ((x2 = 0 → (Q σ4)) ∧ (¬ (x2 = 0) → (∀ x2_8 : Int32, x2_8 = (x2 + (-1 : Int32)) → (vp_in x2_8 346 ∧ (vp_in ((σ4 25 (x2_8).toNatClampNeg) ^^^ (1 : Int32)) 3968 ∧ (∀ x1_9 : Int32, x1_9 = (σ4 21 (((σ4 25 (x2_8).toNatClampNeg) ^^^ (1 : Int32))).toNatClampNeg) → (vp_in x2_8 346 ∧ (vp_in (σ4 25 (x2_8).toNatClampNeg) 3968 ∧ (vp_in x1_9 346 ∧ (∀ σ10 : Sg, σ10 = (put σ4 24 (x1_9).toNatClampNeg (σ4 20 ((σ4 25 (x2_8).toNatClampNeg)).toNatClampNeg)) → (wp_X0_fillPaths_131 Q K24 x1_9 x2_8 x3 σ10)))))))))))) ∧ (¬ (r5 = (-1 : Int32)) → (vp_in x2 346 ∧ (∀ σ12 : Sg, σ12 = (put σ4 25 (x2).toNatClampNeg r5) → (∀ x2_13 : Int32, x2_13 = (x2 + (1 : Int32)) → (vp_in r5 3968 ∧ (∀ x1_14 : Int32, x1_14 = (σ12 21 (r5).toNatClampNeg) → (wp_X0_fillPaths_131 Q K24 x1_14 x2_13 x3 σ12))))))))
set_option maxHeartbeats 4000000 in
set_option maxRecDepth 100000 in
theorem t_X0_fillPaths_57 {p : Program} {l : Launch} {e : Env} {s : State} {m : MethodId} {args : Array Value} {below : List Frame} {meth : Method} {c : Code} {G : Gw} (X : KC p m meth c cX0_fillPaths 5 s args wz_X0_fillPaths RX0 none G) (Q : Sg → Prop) (K24 : Int32 → Int32 → Int32 → Sg → Prop) (hK24 : ∀ (σ : Sg) (x1 x2 x3 : Int32) (H : Heap) (locs : List Loc) (ls : Array Slot), K24 x1 x2 x3 σ → WK G s H locs σ → lv_has ls 5 [(0, .ref (G.1 4)), (1, .int x1), (2, .int x2), (3, .int x3)] → W p l e rm_X0_fillPaths s m args below meth c H locs 0 0 (ZV below args s G Q) (F0 m 24 ls [])) : ∀ (σ : Sg) (x1 x2 x3 : Int32) (H : Heap) (locs : List Loc) (ls : Array Slot), wp_X0_fillPaths_57 Q K24 x1 x2 x3 σ → WK G s H locs σ → lv_has ls 5 [(0, .ref (G.1 4)), (1, .int x1), (2, .int x2), (3, .int x3)] → W p l e rm_X0_fillPaths s m args below meth c H locs 0 0 (ZV below args s G Q) (F0 m 57 ls []) := by
  have hx := X.1.1
  have hb := X.1.2.1
  intro σ x1 x2 x3 H locs ls hw hk hl
  unfold wp_X0_fillPaths_57 at hw
  refine lv_aload_n hx hb dX0_fillPaths_57 rfl (lv_at hl 0 rfl) ?_
  refine lv_iload_n hx hb dX0_fillPaths_58 rfl (lv_at hl 1 rfl) ?_
  refine k_callVi (rest := []) X hk (c_X0_arcNearer l G _ _ _ hw) (cwV 1 X.1.2.2.2.2 (gzV (aw_r28 _ (List.mem_of_getElem? (i := 7) rfl)) (aw_r28 _ (List.mem_of_getElem? (i := 8) rfl)) (aw_r28 _ (List.mem_of_getElem? (i := 9) rfl)) (aw_r2 _ (List.mem_of_getElem? (i := 3) rfl)) (aw_r28 _ (List.mem_of_getElem? (i := 10) rfl))) rfl rfl rfl hd_X0_arcNearer ⟨(Nat.le_of_ble_eq_true rfl), (Nat.le_of_ble_eq_true rfl)⟩) (wg_4 G _) rfl rfl hl.1 rfl (Nat.le_of_ble_eq_true rfl) dX0_fillPaths_59 ⟨Nat.zero_le _, Nat.zero_le _⟩ (fun r5 σ4 H locs hw hk => ?_)
  refine lv_istore (lv' := [(4, .int r5), (0, .ref (G.1 4)), (1, .int x1), (2, .int x2), (3, .int x3)]) hx hb dX0_fillPaths_62 hl (Nat.le_of_ble_eq_true rfl) rfl (fun ls hl => ?_)
  refine lv_iload hx hb dX0_fillPaths_64 (lv_at hl 0 rfl) ?_
  refine lv_iconst (v := (-1 : Int32)) hx hb dX0_fillPaths_66 (by decide) ?_
  refine lv_icmp_eq (tgt := 92) hx hb dX0_fillPaths_67 (by decide) (fun c6 => ?_) (fun c6 => ?_)
  · replace hw := hw.1 c6
    refine lv_iload_n hx hb dX0_fillPaths_92 rfl (lv_at hl 3 rfl) ?_
    refine lv_if_ne (tgt := 97) hx hb dX0_fillPaths_93 (by decide) (fun c7 => ?_) (fun c7 => ?_)
    · replace hw := hw.2 c7
      obtain ⟨x2_8, ex2_8⟩ : ∃ y : Int32, y = (x2 + (-1 : Int32)) := ⟨_, rfl⟩
      replace hw := hw x2_8 ex2_8
      refine lv_iinc (v := x2_8) (lv' := [(2, .int x2_8), (4, .int r5), (0, .ref (G.1 4)), (1, .int x1), (3, .int x3)]) hx hb dX0_fillPaths_97 hl (k := 3) rfl (by rw [ex2_8]; rfl) (Nat.le_of_ble_eq_true rfl) rfl (fun ls hl => ?_)
      refine lv_aload_n hx hb dX0_fillPaths_100 rfl (lv_at hl 2 rfl) ?_
      refine k_get 7 X hk (wg_4 G _) rfl (hz_wsX00 _) (Nat.le_of_ble_eq_true rfl) (List.mem_cons_of_mem _ (aw_r3 _ (List.mem_of_getElem? (i := 20) rfl))) rfl dX0_fillPaths_101 ?_
      refine lv_aload_n hx hb dX0_fillPaths_104 rfl (lv_at hl 2 rfl) ?_
      refine k_get 11 X hk (wg_4 G _) rfl (hz_wsX00 _) (Nat.le_of_ble_eq_true rfl) (List.mem_cons_of_mem _ (aw_r4 _ (List.mem_of_getElem? (i := 0) rfl))) rfl dX0_fillPaths_105 ?_
      refine lv_iload_n hx hb dX0_fillPaths_108 rfl (lv_at hl 0 rfl) ?_
      refine k_iald X hk (wg_25 G _) hw.1 dX0_fillPaths_109 ?_
      replace hw := hw.2
      refine lv_iconst (v := (1 : Int32)) hx hb dX0_fillPaths_110 (by decide) ?_
      refine lv_ixor hx hb dX0_fillPaths_111 ?_
      refine k_iald X hk (wg_21 G _) hw.1 dX0_fillPaths_112 ?_
      replace hw := hw.2
      refine lv_topi (fun x1_9 ex1_9 => ?_)
      replace hw := hw x1_9 ex1_9
      refine lv_istore_n (lv' := [(1, .int x1_9), (2, .int x2_8), (4, .int r5), (0, .ref (G.1 4)), (3, .int x3)]) hx hb dX0_fillPaths_113 rfl hl (Nat.le_of_ble_eq_true rfl) rfl (fun ls hl => ?_)
      refine lv_aload_n hx hb dX0_fillPaths_114 rfl (lv_at hl 3 rfl) ?_
      refine k_get 10 X hk (wg_4 G _) rfl (hz_wsX00 _) (Nat.le_of_ble_eq_true rfl) (List.mem_cons_of_mem _ (aw_r3 _ (List.mem_of_getElem? (i := 23) rfl))) rfl dX0_fillPaths_115 ?_
      refine lv_iload_n hx hb dX0_fillPaths_118 rfl (lv_at hl 0 rfl) ?_
      refine lv_aload_n hx hb dX0_fillPaths_119 rfl (lv_at hl 3 rfl) ?_
      refine k_get 6 X hk (wg_4 G _) rfl (hz_wsX00 _) (Nat.le_of_ble_eq_true rfl) (List.mem_cons_of_mem _ (aw_r3 _ (List.mem_of_getElem? (i := 19) rfl))) rfl dX0_fillPaths_120 ?_
      refine lv_aload_n hx hb dX0_fillPaths_123 rfl (lv_at hl 3 rfl) ?_
      refine k_get 11 X hk (wg_4 G _) rfl (hz_wsX00 _) (Nat.le_of_ble_eq_true rfl) (List.mem_cons_of_mem _ (aw_r4 _ (List.mem_of_getElem? (i := 0) rfl))) rfl dX0_fillPaths_124 ?_
      refine lv_iload_n hx hb dX0_fillPaths_127 rfl (lv_at hl 1 rfl) ?_
      refine k_iald X hk (wg_25 G _) hw.1 dX0_fillPaths_128 ?_
      replace hw := hw.2
      refine k_iald X hk (wg_20 G _) hw.1 dX0_fillPaths_129 ?_
      replace hw := hw.2
      refine k_iast X hk (wg_24 G _) (ws_24 G _) rfl hw.1 dX0_fillPaths_130 (fun H locs hk => ?_)
      replace hw := hw.2
      obtain ⟨σ10, eσ10⟩ : ∃ y : Sg, y = (put σ4 24 (x1_9).toNatClampNeg (σ4 20 ((σ4 25 (x2_8).toNatClampNeg)).toNatClampNeg)) := ⟨_, rfl⟩
      rw [← eσ10] at hk
      replace hw := hw σ10 eσ10
      exact t_X0_fillPaths_131 X Q _ hK24 _ _ _ _ _ _ _ hw hk (lv_sub hl [3, 0, 1, 4] rfl)
    · replace hw := hw.1 c7
      exact k_vret X hk hw dX0_fillPaths_96
  · replace hw := hw.2 c6
    refine lv_aload_n hx hb dX0_fillPaths_70 rfl (lv_at hl 1 rfl) ?_
    refine k_get 11 X hk (wg_4 G _) rfl (hz_wsX00 _) (Nat.le_of_ble_eq_true rfl) (List.mem_cons_of_mem _ (aw_r4 _ (List.mem_of_getElem? (i := 0) rfl))) rfl dX0_fillPaths_71 ?_
    refine lv_iload_n hx hb dX0_fillPaths_74 rfl (lv_at hl 3 rfl) ?_
    refine lv_iload hx hb dX0_fillPaths_75 (lv_at hl 0 rfl) ?_
    refine k_iast X hk (wg_25 G _) (ws_25 G _) rfl hw.1 dX0_fillPaths_77 (fun H locs hk => ?_)
    replace hw := hw.2
    obtain ⟨σ12, eσ12⟩ : ∃ y : Sg, y = (put σ4 25 (x2).toNatClampNeg r5) := ⟨_, rfl⟩
    rw [← eσ12] at hk
    replace hw := hw σ12 eσ12
    obtain ⟨x2_13, ex2_13⟩ : ∃ y : Int32, y = (x2 + (1 : Int32)) := ⟨_, rfl⟩
    replace hw := hw x2_13 ex2_13
    refine lv_iinc (v := x2_13) (lv' := [(2, .int x2_13), (4, .int r5), (0, .ref (G.1 4)), (1, .int x1), (3, .int x3)]) hx hb dX0_fillPaths_78 hl (k := 3) rfl (by rw [ex2_13]; rfl) (Nat.le_of_ble_eq_true rfl) rfl (fun ls hl => ?_)
    refine lv_aload_n hx hb dX0_fillPaths_81 rfl (lv_at hl 2 rfl) ?_
    refine k_get 7 X hk (wg_4 G _) rfl (hz_wsX00 _) (Nat.le_of_ble_eq_true rfl) (List.mem_cons_of_mem _ (aw_r3 _ (List.mem_of_getElem? (i := 20) rfl))) rfl dX0_fillPaths_82 ?_
    refine lv_iload hx hb dX0_fillPaths_85 (lv_at hl 1 rfl) ?_
    refine k_iald X hk (wg_21 G _) hw.1 dX0_fillPaths_87 ?_
    replace hw := hw.2
    refine lv_topi (fun x1_14 ex1_14 => ?_)
    replace hw := hw x1_14 ex1_14
    refine lv_istore_n (lv' := [(1, .int x1_14), (2, .int x2_13), (4, .int r5), (0, .ref (G.1 4)), (3, .int x3)]) hx hb dX0_fillPaths_88 rfl hl (Nat.le_of_ble_eq_true rfl) rfl (fun ls hl => ?_)
    refine lv_goto (tgt := 131) hx hb dX0_fillPaths_89 (by decide) ?_
    exact t_X0_fillPaths_131 X Q _ hK24 _ _ _ _ _ _ _ hw hk (lv_sub hl [3, 0, 1, 4] rfl)
def wp_X0_fillPaths_24 (Q : Sg → Prop)  : Nat → Int32 → Int32 → Int32 → Sg → Prop
  | 0, _, _, _, _ => False
  | n + 1, x1, x2, x3, σ => ((1000000 : Int32) ≤ x3 → (Q σ)) ∧ (¬ ((1000000 : Int32) ≤ x3) → ((x1 = (345 : Int32) → (wp_X0_fillPath σ x2 (fun r16 σ15 => vp_in r16 346 ∧ (vp_in ((σ15 25 (r16).toNatClampNeg) ^^^ (1 : Int32)) 3968 ∧ (∀ x1_17 : Int32, x1_17 = (σ15 21 (((σ15 25 (r16).toNatClampNeg) ^^^ (1 : Int32))).toNatClampNeg) → (wp_X0_fillPaths_57 Q (fun z1 z2 z3 σ => wp_X0_fillPaths_24 Q  n z1 z2 z3 σ) x1_17 r16 x3 σ15)))))) ∧ (¬ (x1 = (345 : Int32)) → (wp_X0_fillPaths_57 Q (fun z1 z2 z3 σ => wp_X0_fillPaths_24 Q  n z1 z2 z3 σ) x1 x2 x3 σ))))
set_option maxHeartbeats 4000000 in
set_option maxRecDepth 100000 in
theorem t_X0_fillPaths_24 {p : Program} {l : Launch} {e : Env} {s : State} {m : MethodId} {args : Array Value} {below : List Frame} {meth : Method} {c : Code} {G : Gw} (X : KC p m meth c cX0_fillPaths 5 s args wz_X0_fillPaths RX0 none G) (Q : Sg → Prop)  : ∀ (n : Nat) (σ : Sg) (x1 x2 x3 : Int32) (H : Heap) (locs : List Loc) (ls : Array Slot), wp_X0_fillPaths_24 Q  n x1 x2 x3 σ → WK G s H locs σ → lv_has ls 5 [(0, .ref (G.1 4)), (1, .int x1), (2, .int x2), (3, .int x3)] → W p l e rm_X0_fillPaths s m args below meth c H locs 0 0 (ZV below args s G Q) (F0 m 24 ls []) := by
  have hx := X.1.1
  have hb := X.1.2.1
  intro n
  induction n with
  | zero =>
    intro σ x1 x2 x3 H locs ls hw hk hl
    exact False.elim hw
  | succ n ih =>
    intro σ x1 x2 x3 H locs ls hw hk hl
    rw [wp_X0_fillPaths_24] at hw
    refine lv_iload_n hx hb dX0_fillPaths_24 rfl (lv_at hl 3 rfl) ?_
    refine lv_ldc (v := (1000000 : Int32)) hx hb X.1.2.2.2.1 (X.1.2.2.2.2 _ (List.mem_cons_of_mem _ (aw_r27 _ (List.mem_of_getElem? (i := 17) rfl)))) dX0_fillPaths_25 ?_
    refine lv_icmp_ge (tgt := 137) hx hb dX0_fillPaths_27 (by decide) (fun c2 => ?_) (fun c2 => ?_)
    · replace hw := hw.1 c2
      exact k_vret X hk hw dX0_fillPaths_137
    · replace hw := hw.2 c2
      refine lv_iload_n hx hb dX0_fillPaths_30 rfl (lv_at hl 1 rfl) ?_
      refine lv_sipush (v := (345 : Int32)) hx hb dX0_fillPaths_31 (by decide) ?_
      refine lv_icmp_ne (tgt := 57) hx hb dX0_fillPaths_34 (by decide) (fun c3 => ?_) (fun c3 => ?_)
      · replace hw := hw.2 c3
        exact t_X0_fillPaths_57 X Q _ ih _ _ _ _ _ _ _ hw hk hl
      · replace hw := hw.1 c3
        refine lv_aload_n hx hb dX0_fillPaths_37 rfl (lv_at hl 0 rfl) ?_
        refine lv_iload_n hx hb dX0_fillPaths_38 rfl (lv_at hl 2 rfl) ?_
        refine k_callVi (rest := []) X hk (c_X0_fillPath l G _ _ _ hw) (cwV 1 X.1.2.2.2.2 (gzV (aw_r28 _ (List.mem_of_getElem? (i := 3) rfl)) (aw_r28 _ (List.mem_of_getElem? (i := 4) rfl)) (aw_r28 _ (List.mem_of_getElem? (i := 5) rfl)) (aw_r2 _ (List.mem_of_getElem? (i := 3) rfl)) (aw_r28 _ (List.mem_of_getElem? (i := 6) rfl))) rfl rfl rfl hd_X0_fillPath ⟨(Nat.le_of_ble_eq_true rfl), (Nat.le_of_ble_eq_true rfl)⟩) (wg_4 G _) rfl rfl hl.1 rfl (Nat.le_of_ble_eq_true rfl) dX0_fillPaths_39 ⟨Nat.zero_le _, Nat.zero_le _⟩ (fun r16 σ15 H locs hw hk => ?_)
        refine lv_istore_n (lv' := [(2, .int r16), (0, .ref (G.1 4)), (1, .int x1), (3, .int x3)]) hx hb dX0_fillPaths_42 rfl hl (Nat.le_of_ble_eq_true rfl) rfl (fun ls hl => ?_)
        refine lv_aload_n hx hb dX0_fillPaths_43 rfl (lv_at hl 1 rfl) ?_
        refine k_get 7 X hk (wg_4 G _) rfl (hz_wsX00 _) (Nat.le_of_ble_eq_true rfl) (List.mem_cons_of_mem _ (aw_r3 _ (List.mem_of_getElem? (i := 20) rfl))) rfl dX0_fillPaths_44 ?_
        refine lv_aload_n hx hb dX0_fillPaths_47 rfl (lv_at hl 1 rfl) ?_
        refine k_get 11 X hk (wg_4 G _) rfl (hz_wsX00 _) (Nat.le_of_ble_eq_true rfl) (List.mem_cons_of_mem _ (aw_r4 _ (List.mem_of_getElem? (i := 0) rfl))) rfl dX0_fillPaths_48 ?_
        refine lv_iload_n hx hb dX0_fillPaths_51 rfl (lv_at hl 0 rfl) ?_
        refine k_iald X hk (wg_25 G _) hw.1 dX0_fillPaths_52 ?_
        replace hw := hw.2
        refine lv_iconst (v := (1 : Int32)) hx hb dX0_fillPaths_53 (by decide) ?_
        refine lv_ixor hx hb dX0_fillPaths_54 ?_
        refine k_iald X hk (wg_21 G _) hw.1 dX0_fillPaths_55 ?_
        replace hw := hw.2
        refine lv_topi (fun x1_17 ex1_17 => ?_)
        replace hw := hw x1_17 ex1_17
        refine lv_istore_n (lv' := [(1, .int x1_17), (2, .int r16), (0, .ref (G.1 4)), (3, .int x3)]) hx hb dX0_fillPaths_56 rfl hl (Nat.le_of_ble_eq_true rfl) rfl (fun ls hl => ?_)
        exact t_X0_fillPaths_57 X Q _ ih _ _ _ _ _ _ _ hw hk (lv_sub hl [2, 0, 1, 3] rfl)
def wp_X0_fillPaths (σ : Sg) (Q : Sg → Prop) : Prop := k_cpyok (0 : Int32) (0 : Int32) (346 : Int32) 346 346 ∧ (∀ σ1 : Sg, σ1 = (setA σ 24 (va_cpy (σ 19) (σ 24) ((0 : Int32)).toNatClampNeg ((0 : Int32)).toNatClampNeg ((346 : Int32)).toNatClampNeg)) → (∃ n0, wp_X0_fillPaths_24 Q  n0 (344 : Int32) (0 : Int32) (0 : Int32) σ1))
set_option maxHeartbeats 4000000 in
set_option maxRecDepth 100000 in
theorem c_X0_fillPaths (l : Launch) (G : Gw) (σ : Sg) (Q : Sg → Prop) (hw : wp_X0_fillPaths σ  Q) : MetV l yX0_fillPaths wz_X0_fillPaths rm_X0_fillPaths G σ [.ref (G.1 4)] Q := by
  refine MetV.of cX0_fillPaths 5 none (by decide) rfl (Nat.le_of_ble_eq_true rfl) ?_
  intro p e s m below meth c X hk ls hl
  have X : KC p m meth c cX0_fillPaths 5 s _ wz_X0_fillPaths RX0 none G := X
  have hl : lv_has ls 5 [(0, .ref (G.1 4))] := hl
  unfold wp_X0_fillPaths at hw
  have hx := X.1.1
  have hb := X.1.2.1
  refine lv_aload_n hx hb dX0_fillPaths_0 rfl (lv_at hl 0 rfl) ?_
  refine k_get 5 X hk (wg_4 G _) rfl (hz_wsX00 _) (Nat.le_of_ble_eq_true rfl) (List.mem_cons_of_mem _ (aw_r3 _ (List.mem_of_getElem? (i := 18) rfl))) rfl dX0_fillPaths_1 ?_
  refine lv_iconst (v := (0 : Int32)) hx hb dX0_fillPaths_4 (by decide) ?_
  refine lv_aload_n hx hb dX0_fillPaths_5 rfl (lv_at hl 0 rfl) ?_
  refine k_get 10 X hk (wg_4 G _) rfl (hz_wsX00 _) (Nat.le_of_ble_eq_true rfl) (List.mem_cons_of_mem _ (aw_r3 _ (List.mem_of_getElem? (i := 23) rfl))) rfl dX0_fillPaths_6 ?_
  refine lv_iconst (v := (0 : Int32)) hx hb dX0_fillPaths_9 (by decide) ?_
  refine lv_sipush (v := (346 : Int32)) hx hb dX0_fillPaths_10 (by decide) ?_
  refine k_copy X hk hl.1 (List.mem_cons_of_mem _ (aw_r28 _ (List.mem_of_getElem? (i := 2) rfl))) (List.mem_cons_of_mem _ (aw_r7 _ (List.mem_of_getElem? (i := 9) rfl))) (List.mem_cons_of_mem _ (aw_r7 _ (List.mem_of_getElem? (i := 10) rfl))) (List.mem_cons_of_mem _ (aw_r7 _ (List.mem_of_getElem? (i := 11) rfl))) (wg_19 G _) (wg_24 G _) (ws_24 G _) hw.1 (Nat.le_of_ble_eq_true rfl) (Nat.le_of_ble_eq_true rfl) dX0_fillPaths_13 (fun H locs hk => ?_)
  replace hw := hw.2
  obtain ⟨σ1, eσ1⟩ : ∃ y : Sg, y = (setA σ 24 (va_cpy (σ 19) (σ 24) ((0 : Int32)).toNatClampNeg ((0 : Int32)).toNatClampNeg ((346 : Int32)).toNatClampNeg)) := ⟨_, rfl⟩
  rw [← eσ1] at hk
  replace hw := hw σ1 eσ1
  refine lv_sipush (v := (344 : Int32)) hx hb dX0_fillPaths_16 (by decide) ?_
  refine lv_istore_n (lv' := [(1, .int (344 : Int32)), (0, .ref (G.1 4))]) hx hb dX0_fillPaths_19 rfl hl (Nat.le_of_ble_eq_true rfl) rfl (fun ls hl => ?_)
  refine lv_iconst (v := (0 : Int32)) hx hb dX0_fillPaths_20 (by decide) ?_
  refine lv_istore_n (lv' := [(2, .int (0 : Int32)), (1, .int (344 : Int32)), (0, .ref (G.1 4))]) hx hb dX0_fillPaths_21 rfl hl (Nat.le_of_ble_eq_true rfl) rfl (fun ls hl => ?_)
  refine lv_iconst (v := (0 : Int32)) hx hb dX0_fillPaths_22 (by decide) ?_
  refine lv_istore_n (lv' := [(3, .int (0 : Int32)), (2, .int (0 : Int32)), (1, .int (344 : Int32)), (0, .ref (G.1 4))]) hx hb dX0_fillPaths_23 rfl hl (Nat.le_of_ble_eq_true rfl) rfl (fun ls hl => ?_)
  obtain ⟨n0, hw⟩ := hw
  exact t_X0_fillPaths_24 X Q   n0 _ _ _ _ _ _ _ hw hk (lv_sub hl [3, 2, 1, 0] rfl)
def rm_X0_reachSource : Room := { frames := 1, cells := 0, slots := 0, locals := 23 }
abbrev wz_X0_reachSource : List Cond := Cond.code yX0_reachSource cX0_reachSource 7 (some .boolean) :: wsA
theorem hd_X0_reachSource : yX0_reachSource.cls = RX0 ∧ yX0_reachSource.cls ≠ "java/lang/invoke/MethodHandle" ∧ yX0_reachSource.cls ≠ "java/lang/invoke/VarHandle" ∧ (parseMethodDescriptor yX0_reachSource.desc).map (fun d => d.parameters.length) = some 0 := by decide +kernel
def wp_X0_reachSource_165 (Q : Int32 → Sg → Prop)  (σ : Sg) : Prop := vp_in (344 : Int32) 346 ∧ (((σ 23 ((344 : Int32)).toNatClampNeg) = (-1 : Int32) → (bz (0 : Int32) ∧ Q (0 : Int32) σ)) ∧ (¬ ((σ 23 ((344 : Int32)).toNatClampNeg) = (-1 : Int32)) → (bz (1 : Int32) ∧ Q (1 : Int32) σ)))
set_option maxHeartbeats 4000000 in
set_option maxRecDepth 100000 in
theorem t_X0_reachSource_165 {p : Program} {l : Launch} {e : Env} {s : State} {m : MethodId} {args : Array Value} {below : List Frame} {meth : Method} {c : Code} {G : Gw} (X : KC p m meth c cX0_reachSource 7 s args wz_X0_reachSource RX0 (some .boolean) G) (Q : Int32 → Sg → Prop)  : ∀ (σ : Sg) (H : Heap) (locs : List Loc) (ls : Array Slot), wp_X0_reachSource_165 Q   σ → WK G s H locs σ → lv_has ls 7 [(0, .ref (G.1 4))] → W p l e rm_X0_reachSource s m args below meth c H locs 0 0 (ZI below args s G Q) (F0 m 165 ls []) := by
  have hx := X.1.1
  have hb := X.1.2.1
  intro σ H locs ls hw hk hl
  unfold wp_X0_reachSource_165 at hw
  refine lv_aload_n hx hb dX0_reachSource_165 rfl (lv_at hl 0 rfl) ?_
  refine k_get 9 X hk (wg_4 G _) rfl (hz_wsX00 _) (Nat.le_of_ble_eq_true rfl) (List.mem_cons_of_mem _ (aw_r3 _ (List.mem_of_getElem? (i := 22) rfl))) rfl dX0_reachSource_166 ?_
  refine lv_sipush (v := (344 : Int32)) hx hb dX0_reachSource_169 (by decide) ?_
  refine k_iald X hk (wg_23 G _) hw.1 dX0_reachSource_172 ?_
  replace hw := hw.2
  refine lv_iconst (v := (-1 : Int32)) hx hb dX0_reachSource_173 (by decide) ?_
  refine lv_icmp_eq (tgt := 181) hx hb dX0_reachSource_174 (by decide) (fun c5 => ?_) (fun c5 => ?_)
  · replace hw := hw.1 c5
    refine lv_iconst (v := (0 : Int32)) hx hb dX0_reachSource_181 (by decide) ?_
    exact k_zret X hk hw dX0_reachSource_182
  · replace hw := hw.2 c5
    refine lv_iconst (v := (1 : Int32)) hx hb dX0_reachSource_177 (by decide) ?_
    refine lv_goto (tgt := 182) hx hb dX0_reachSource_178 (by decide) ?_
    exact k_zret X hk hw dX0_reachSource_182
def wp_X0_reachSource_159 (Q : Int32 → Sg → Prop) (K30 : Int32 → Int32 → Sg → Prop) (x1 x2 : Int32) (σ : Sg) : Prop := ∀ x2_11 : Int32, x2_11 = (x2 + (1 : Int32)) → (K30 x1 x2_11 σ)
set_option maxHeartbeats 4000000 in
set_option maxRecDepth 100000 in
theorem t_X0_reachSource_159 {p : Program} {l : Launch} {e : Env} {s : State} {m : MethodId} {args : Array Value} {below : List Frame} {meth : Method} {c : Code} {G : Gw} (X : KC p m meth c cX0_reachSource 7 s args wz_X0_reachSource RX0 (some .boolean) G) (Q : Int32 → Sg → Prop) (K30 : Int32 → Int32 → Sg → Prop) (hK30 : ∀ (σ : Sg) (x1 x2 : Int32) (H : Heap) (locs : List Loc) (ls : Array Slot), K30 x1 x2 σ → WK G s H locs σ → lv_has ls 7 [(0, .ref (G.1 4)), (1, .int x1), (2, .int x2)] → W p l e rm_X0_reachSource s m args below meth c H locs 0 0 (ZI below args s G Q) (F0 m 30 ls [])) : ∀ (σ : Sg) (x1 x2 : Int32) (H : Heap) (locs : List Loc) (ls : Array Slot), wp_X0_reachSource_159 Q K30 x1 x2 σ → WK G s H locs σ → lv_has ls 7 [(0, .ref (G.1 4)), (1, .int x1), (2, .int x2)] → W p l e rm_X0_reachSource s m args below meth c H locs 0 0 (ZI below args s G Q) (F0 m 159 ls []) := by
  have hx := X.1.1
  have hb := X.1.2.1
  intro σ x1 x2 H locs ls hw hk hl
  unfold wp_X0_reachSource_159 at hw
  obtain ⟨x2_11, ex2_11⟩ : ∃ y : Int32, y = (x2 + (1 : Int32)) := ⟨_, rfl⟩
  replace hw := hw x2_11 ex2_11
  refine lv_iinc (v := x2_11) (lv' := [(2, .int x2_11), (0, .ref (G.1 4)), (1, .int x1)]) hx hb dX0_reachSource_159 hl (k := 2) rfl (by rw [ex2_11]; rfl) (Nat.le_of_ble_eq_true rfl) rfl (fun ls hl => ?_)
  refine lv_goto (tgt := 30) hx hb dX0_reachSource_162 (by decide) ?_
  exact hK30 _ _ _ _ _ _ hw hk (lv_sub hl [1, 2, 0] rfl)
def wp_X0_reachSource_144 (Q : Int32 → Sg → Prop) (K30 : Int32 → Int32 → Sg → Prop) (K72 : Int32 → Int32 → Int32 → Int32 → Int32 → Sg → Prop) (x1 x2 x3 x4 x5 : Int32) (σ : Sg) : Prop := vp_in x4 3968 ∧ (∀ x4_15 : Int32, x4_15 = (σ 20 (x4).toNatClampNeg) → (∀ x5_16 : Int32, x5_16 = (x5 + (1 : Int32)) → (K72 x1 x2 x3 x4_15 x5_16 σ)))
set_option maxHeartbeats 4000000 in
set_option maxRecDepth 100000 in
theorem t_X0_reachSource_144 {p : Program} {l : Launch} {e : Env} {s : State} {m : MethodId} {args : Array Value} {below : List Frame} {meth : Method} {c : Code} {G : Gw} (X : KC p m meth c cX0_reachSource 7 s args wz_X0_reachSource RX0 (some .boolean) G) (Q : Int32 → Sg → Prop) (K30 : Int32 → Int32 → Sg → Prop) (K72 : Int32 → Int32 → Int32 → Int32 → Int32 → Sg → Prop) (hK30 : ∀ (σ : Sg) (x1 x2 : Int32) (H : Heap) (locs : List Loc) (ls : Array Slot), K30 x1 x2 σ → WK G s H locs σ → lv_has ls 7 [(0, .ref (G.1 4)), (1, .int x1), (2, .int x2)] → W p l e rm_X0_reachSource s m args below meth c H locs 0 0 (ZI below args s G Q) (F0 m 30 ls [])) (hK72 : ∀ (σ : Sg) (x1 x2 x3 x4 x5 : Int32) (H : Heap) (locs : List Loc) (ls : Array Slot), K72 x1 x2 x3 x4 x5 σ → WK G s H locs σ → lv_has ls 7 [(0, .ref (G.1 4)), (1, .int x1), (2, .int x2), (3, .int x3), (4, .int x4), (5, .int x5)] → W p l e rm_X0_reachSource s m args below meth c H locs 0 0 (ZI below args s G Q) (F0 m 72 ls [])) : ∀ (σ : Sg) (x1 x2 x3 x4 x5 : Int32) (H : Heap) (locs : List Loc) (ls : Array Slot), wp_X0_reachSource_144 Q K30 K72 x1 x2 x3 x4 x5 σ → WK G s H locs σ → lv_has ls 7 [(0, .ref (G.1 4)), (1, .int x1), (2, .int x2), (3, .int x3), (4, .int x4), (5, .int x5)] → W p l e rm_X0_reachSource s m args below meth c H locs 0 0 (ZI below args s G Q) (F0 m 144 ls []) := by
  have hx := X.1.1
  have hb := X.1.2.1
  intro σ x1 x2 x3 x4 x5 H locs ls hw hk hl
  unfold wp_X0_reachSource_144 at hw
  refine lv_aload_n hx hb dX0_reachSource_144 rfl (lv_at hl 0 rfl) ?_
  refine k_get 6 X hk (wg_4 G _) rfl (hz_wsX00 _) (Nat.le_of_ble_eq_true rfl) (List.mem_cons_of_mem _ (aw_r3 _ (List.mem_of_getElem? (i := 19) rfl))) rfl dX0_reachSource_145 ?_
  refine lv_iload hx hb dX0_reachSource_148 (lv_at hl 4 rfl) ?_
  refine k_iald X hk (wg_20 G _) hw.1 dX0_reachSource_150 ?_
  replace hw := hw.2
  refine lv_topi (fun x4_15 ex4_15 => ?_)
  replace hw := hw x4_15 ex4_15
  refine lv_istore (lv' := [(4, .int x4_15), (0, .ref (G.1 4)), (1, .int x1), (2, .int x2), (3, .int x3), (5, .int x5)]) hx hb dX0_reachSource_151 hl (Nat.le_of_ble_eq_true rfl) rfl (fun ls hl => ?_)
  obtain ⟨x5_16, ex5_16⟩ : ∃ y : Int32, y = (x5 + (1 : Int32)) := ⟨_, rfl⟩
  replace hw := hw x5_16 ex5_16
  refine lv_iinc (v := x5_16) (lv' := [(5, .int x5_16), (4, .int x4_15), (0, .ref (G.1 4)), (1, .int x1), (2, .int x2), (3, .int x3)]) hx hb dX0_reachSource_153 hl (k := 5) rfl (by rw [ex5_16]; rfl) (Nat.le_of_ble_eq_true rfl) rfl (fun ls hl => ?_)
  refine lv_goto (tgt := 72) hx hb dX0_reachSource_156 (by decide) ?_
  exact hK72 _ _ _ _ _ _ _ _ _ hw hk (lv_sub hl [2, 3, 4, 5, 1, 0] rfl)
def wp_X0_reachSource_72 (Q : Int32 → Sg → Prop) (K30 : Int32 → Int32 → Sg → Prop) : Nat → Int32 → Int32 → Int32 → Int32 → Int32 → Sg → Prop
  | 0, _, _, _, _, _, _ => False
  | n + 1, x1, x2, x3, x4, x5, σ => ((3968 : Int32) ≤ x5 → (wp_X0_reachSource_159 Q K30 x1 x2 σ)) ∧ (¬ ((3968 : Int32) ≤ x5) → ((x4 = (-1 : Int32) → (wp_X0_reachSource_159 Q K30 x1 x2 σ)) ∧ (¬ (x4 = (-1 : Int32)) → (vp_in x4 3968 ∧ (∀ x6_13 : Int32, x6_13 = (σ 21 (x4).toNatClampNeg) → (vp_in (x4 ^^^ (1 : Int32)) 3968 ∧ (((σ 22 ((x4 ^^^ (1 : Int32))).toNatClampNeg) ≤ 0 → (wp_X0_reachSource_144 Q K30 (fun z1 z2 z3 z4 z5 σ => wp_X0_reachSource_72 Q K30 n z1 z2 z3 z4 z5 σ) x1 x2 x3 x4 x5 σ)) ∧ (¬ ((σ 22 ((x4 ^^^ (1 : Int32))).toNatClampNeg) ≤ 0) → (vp_in x6_13 346 ∧ (((σ 23 (x6_13).toNatClampNeg) = (-1 : Int32) → (vp_in x3 346 ∧ (vp_in x6_13 346 ∧ (∀ σ18 : Sg, σ18 = (put σ 23 (x6_13).toNatClampNeg ((σ 23 (x3).toNatClampNeg) + (1 : Int32))) → (vp_in x1 346 ∧ (∀ σ19 : Sg, σ19 = (put σ18 25 (x1).toNatClampNeg x6_13) → (∀ x1_20 : Int32, x1_20 = (x1 + (1 : Int32)) → (wp_X0_reachSource_144 Q K30 (fun z1 z2 z3 z4 z5 σ => wp_X0_reachSource_72 Q K30 n z1 z2 z3 z4 z5 σ) x1_20 x2 x3 x4 x5 σ19)))))))) ∧ (¬ ((σ 23 (x6_13).toNatClampNeg) = (-1 : Int32)) → (wp_X0_reachSource_144 Q K30 (fun z1 z2 z3 z4 z5 σ => wp_X0_reachSource_72 Q K30 n z1 z2 z3 z4 z5 σ) x1 x2 x3 x4 x5 σ))))))))))))
set_option maxHeartbeats 4000000 in
set_option maxRecDepth 100000 in
theorem t_X0_reachSource_72 {p : Program} {l : Launch} {e : Env} {s : State} {m : MethodId} {args : Array Value} {below : List Frame} {meth : Method} {c : Code} {G : Gw} (X : KC p m meth c cX0_reachSource 7 s args wz_X0_reachSource RX0 (some .boolean) G) (Q : Int32 → Sg → Prop) (K30 : Int32 → Int32 → Sg → Prop) (hK30 : ∀ (σ : Sg) (x1 x2 : Int32) (H : Heap) (locs : List Loc) (ls : Array Slot), K30 x1 x2 σ → WK G s H locs σ → lv_has ls 7 [(0, .ref (G.1 4)), (1, .int x1), (2, .int x2)] → W p l e rm_X0_reachSource s m args below meth c H locs 0 0 (ZI below args s G Q) (F0 m 30 ls [])) : ∀ (n : Nat) (σ : Sg) (x1 x2 x3 x4 x5 : Int32) (H : Heap) (locs : List Loc) (ls : Array Slot), wp_X0_reachSource_72 Q K30 n x1 x2 x3 x4 x5 σ → WK G s H locs σ → lv_has ls 7 [(0, .ref (G.1 4)), (1, .int x1), (2, .int x2), (3, .int x3), (4, .int x4), (5, .int x5)] → W p l e rm_X0_reachSource s m args below meth c H locs 0 0 (ZI below args s G Q) (F0 m 72 ls []) := by
  have hx := X.1.1
  have hb := X.1.2.1
  intro n
  induction n with
  | zero =>
    intro σ x1 x2 x3 x4 x5 H locs ls hw hk hl
    exact False.elim hw
  | succ n ih =>
    intro σ x1 x2 x3 x4 x5 H locs ls hw hk hl
    rw [wp_X0_reachSource_72] at hw
    refine lv_iload hx hb dX0_reachSource_72 (lv_at hl 5 rfl) ?_
    refine lv_sipush (v := (3968 : Int32)) hx hb dX0_reachSource_74 (by decide) ?_
    refine lv_icmp_ge (tgt := 159) hx hb dX0_reachSource_77 (by decide) (fun c10 => ?_) (fun c10 => ?_)
    · replace hw := hw.1 c10
      exact t_X0_reachSource_159 X Q _ hK30 _ _ _ _ _ _ hw hk (lv_sub hl [0, 1, 2] rfl)
    · replace hw := hw.2 c10
      refine lv_iload hx hb dX0_reachSource_80 (lv_at hl 4 rfl) ?_
      refine lv_iconst (v := (-1 : Int32)) hx hb dX0_reachSource_82 (by decide) ?_
      refine lv_icmp_eq (tgt := 159) hx hb dX0_reachSource_83 (by decide) (fun c12 => ?_) (fun c12 => ?_)
      · replace hw := hw.1 c12
        exact t_X0_reachSource_159 X Q _ hK30 _ _ _ _ _ _ hw hk (lv_sub hl [0, 1, 2] rfl)
      · replace hw := hw.2 c12
        refine lv_aload_n hx hb dX0_reachSource_86 rfl (lv_at hl 0 rfl) ?_
        refine k_get 7 X hk (wg_4 G _) rfl (hz_wsX00 _) (Nat.le_of_ble_eq_true rfl) (List.mem_cons_of_mem _ (aw_r3 _ (List.mem_of_getElem? (i := 20) rfl))) rfl dX0_reachSource_87 ?_
        refine lv_iload hx hb dX0_reachSource_90 (lv_at hl 4 rfl) ?_
        refine k_iald X hk (wg_21 G _) hw.1 dX0_reachSource_92 ?_
        replace hw := hw.2
        refine lv_topi (fun x6_13 ex6_13 => ?_)
        replace hw := hw x6_13 ex6_13
        refine lv_istore (lv' := [(6, .int x6_13), (0, .ref (G.1 4)), (1, .int x1), (2, .int x2), (3, .int x3), (4, .int x4), (5, .int x5)]) hx hb dX0_reachSource_93 hl (Nat.le_of_ble_eq_true rfl) rfl (fun ls hl => ?_)
        refine lv_aload_n hx hb dX0_reachSource_95 rfl (lv_at hl 1 rfl) ?_
        refine k_get 8 X hk (wg_4 G _) rfl (hz_wsX00 _) (Nat.le_of_ble_eq_true rfl) (List.mem_cons_of_mem _ (aw_r3 _ (List.mem_of_getElem? (i := 21) rfl))) rfl dX0_reachSource_96 ?_
        refine lv_iload hx hb dX0_reachSource_99 (lv_at hl 5 rfl) ?_
        refine lv_iconst (v := (1 : Int32)) hx hb dX0_reachSource_101 (by decide) ?_
        refine lv_ixor hx hb dX0_reachSource_102 ?_
        refine k_iald X hk (wg_22 G _) hw.1 dX0_reachSource_103 ?_
        replace hw := hw.2
        refine lv_if_le (tgt := 144) hx hb dX0_reachSource_104 (by decide) (fun c14 => ?_) (fun c14 => ?_)
        · replace hw := hw.1 c14
          exact t_X0_reachSource_144 X Q _ _ hK30 ih _ _ _ _ _ _ _ _ _ hw hk (lv_sub hl [1, 2, 3, 4, 5, 6] rfl)
        · replace hw := hw.2 c14
          refine lv_aload_n hx hb dX0_reachSource_107 rfl (lv_at hl 1 rfl) ?_
          refine k_get 9 X hk (wg_4 G _) rfl (hz_wsX00 _) (Nat.le_of_ble_eq_true rfl) (List.mem_cons_of_mem _ (aw_r3 _ (List.mem_of_getElem? (i := 22) rfl))) rfl dX0_reachSource_108 ?_
          refine lv_iload hx hb dX0_reachSource_111 (lv_at hl 0 rfl) ?_
          refine k_iald X hk (wg_23 G _) hw.1 dX0_reachSource_113 ?_
          replace hw := hw.2
          refine lv_iconst (v := (-1 : Int32)) hx hb dX0_reachSource_114 (by decide) ?_
          refine lv_icmp_ne (tgt := 144) hx hb dX0_reachSource_115 (by decide) (fun c17 => ?_) (fun c17 => ?_)
          · replace hw := hw.2 c17
            exact t_X0_reachSource_144 X Q _ _ hK30 ih _ _ _ _ _ _ _ _ _ hw hk (lv_sub hl [1, 2, 3, 4, 5, 6] rfl)
          · replace hw := hw.1 c17
            refine lv_aload_n hx hb dX0_reachSource_118 rfl (lv_at hl 1 rfl) ?_
            refine k_get 9 X hk (wg_4 G _) rfl (hz_wsX00 _) (Nat.le_of_ble_eq_true rfl) (List.mem_cons_of_mem _ (aw_r3 _ (List.mem_of_getElem? (i := 22) rfl))) rfl dX0_reachSource_119 ?_
            refine lv_iload hx hb dX0_reachSource_122 (lv_at hl 0 rfl) ?_
            refine lv_aload_n hx hb dX0_reachSource_124 rfl (lv_at hl 1 rfl) ?_
            refine k_get 9 X hk (wg_4 G _) rfl (hz_wsX00 _) (Nat.le_of_ble_eq_true rfl) (List.mem_cons_of_mem _ (aw_r3 _ (List.mem_of_getElem? (i := 22) rfl))) rfl dX0_reachSource_125 ?_
            refine lv_iload_n hx hb dX0_reachSource_128 rfl (lv_at hl 4 rfl) ?_
            refine k_iald X hk (wg_23 G _) hw.1 dX0_reachSource_129 ?_
            replace hw := hw.2
            refine lv_iconst (v := (1 : Int32)) hx hb dX0_reachSource_130 (by decide) ?_
            refine lv_iadd hx hb dX0_reachSource_131 ?_
            refine k_iast X hk (wg_23 G _) (ws_23 G _) rfl hw.1 dX0_reachSource_132 (fun H locs hk => ?_)
            replace hw := hw.2
            obtain ⟨σ18, eσ18⟩ : ∃ y : Sg, y = (put σ 23 (x6_13).toNatClampNeg ((σ 23 (x3).toNatClampNeg) + (1 : Int32))) := ⟨_, rfl⟩
            rw [← eσ18] at hk
            replace hw := hw σ18 eσ18
            refine lv_aload_n hx hb dX0_reachSource_133 rfl (lv_at hl 1 rfl) ?_
            refine k_get 11 X hk (wg_4 G _) rfl (hz_wsX00 _) (Nat.le_of_ble_eq_true rfl) (List.mem_cons_of_mem _ (aw_r4 _ (List.mem_of_getElem? (i := 0) rfl))) rfl dX0_reachSource_134 ?_
            refine lv_iload_n hx hb dX0_reachSource_137 rfl (lv_at hl 2 rfl) ?_
            refine lv_iload hx hb dX0_reachSource_138 (lv_at hl 0 rfl) ?_
            refine k_iast X hk (wg_25 G _) (ws_25 G _) rfl hw.1 dX0_reachSource_140 (fun H locs hk => ?_)
            replace hw := hw.2
            obtain ⟨σ19, eσ19⟩ : ∃ y : Sg, y = (put σ18 25 (x1).toNatClampNeg x6_13) := ⟨_, rfl⟩
            rw [← eσ19] at hk
            replace hw := hw σ19 eσ19
            obtain ⟨x1_20, ex1_20⟩ : ∃ y : Int32, y = (x1 + (1 : Int32)) := ⟨_, rfl⟩
            replace hw := hw x1_20 ex1_20
            refine lv_iinc (v := x1_20) (lv' := [(1, .int x1_20), (6, .int x6_13), (0, .ref (G.1 4)), (2, .int x2), (3, .int x3), (4, .int x4), (5, .int x5)]) hx hb dX0_reachSource_141 hl (k := 2) rfl (by rw [ex1_20]; rfl) (Nat.le_of_ble_eq_true rfl) rfl (fun ls hl => ?_)
            exact t_X0_reachSource_144 X Q _ _ hK30 ih _ _ _ _ _ _ _ _ _ hw hk (lv_sub hl [2, 0, 3, 4, 5, 6] rfl)
def wp_X0_reachSource_30 (Q : Int32 → Sg → Prop)  : Nat → Int32 → Int32 → Sg → Prop
  | 0, _, _, _ => False
  | n + 1, x1, x2, σ => ((346 : Int32) ≤ x2 → (wp_X0_reachSource_165 Q   σ)) ∧ (¬ ((346 : Int32) ≤ x2) → ((x1 ≤ x2 → (wp_X0_reachSource_165 Q   σ)) ∧ (¬ (x1 ≤ x2) → (vp_in (344 : Int32) 346 ∧ (((σ 23 ((344 : Int32)).toNatClampNeg) = (-1 : Int32) → (vp_in x2 346 ∧ (∀ x3_8 : Int32, x3_8 = (σ 25 (x2).toNatClampNeg) → (vp_in x3_8 346 ∧ (∀ x4_9 : Int32, x4_9 = (σ 19 (x3_8).toNatClampNeg) → (∃ n0, wp_X0_reachSource_72 Q (fun z1 z2 σ => wp_X0_reachSource_30 Q  n z1 z2 σ) n0 x1 x2 x3_8 x4_9 (0 : Int32) σ)))))) ∧ (¬ ((σ 23 ((344 : Int32)).toNatClampNeg) = (-1 : Int32)) → (wp_X0_reachSource_165 Q   σ)))))))
set_option maxHeartbeats 4000000 in
set_option maxRecDepth 100000 in
theorem t_X0_reachSource_30 {p : Program} {l : Launch} {e : Env} {s : State} {m : MethodId} {args : Array Value} {below : List Frame} {meth : Method} {c : Code} {G : Gw} (X : KC p m meth c cX0_reachSource 7 s args wz_X0_reachSource RX0 (some .boolean) G) (Q : Int32 → Sg → Prop)  : ∀ (n : Nat) (σ : Sg) (x1 x2 : Int32) (H : Heap) (locs : List Loc) (ls : Array Slot), wp_X0_reachSource_30 Q  n x1 x2 σ → WK G s H locs σ → lv_has ls 7 [(0, .ref (G.1 4)), (1, .int x1), (2, .int x2)] → W p l e rm_X0_reachSource s m args below meth c H locs 0 0 (ZI below args s G Q) (F0 m 30 ls []) := by
  have hx := X.1.1
  have hb := X.1.2.1
  intro n
  induction n with
  | zero =>
    intro σ x1 x2 H locs ls hw hk hl
    exact False.elim hw
  | succ n ih =>
    intro σ x1 x2 H locs ls hw hk hl
    rw [wp_X0_reachSource_30] at hw
    refine lv_iload_n hx hb dX0_reachSource_30 rfl (lv_at hl 2 rfl) ?_
    refine lv_sipush (v := (346 : Int32)) hx hb dX0_reachSource_31 (by decide) ?_
    refine lv_icmp_ge (tgt := 165) hx hb dX0_reachSource_34 (by decide) (fun c4 => ?_) (fun c4 => ?_)
    · replace hw := hw.1 c4
      exact t_X0_reachSource_165 X Q   _  _ _ _ hw hk (lv_sub hl [0] rfl)
    · replace hw := hw.2 c4
      refine lv_iload_n hx hb dX0_reachSource_37 rfl (lv_at hl 2 rfl) ?_
      refine lv_iload_n hx hb dX0_reachSource_38 rfl (lv_at hl 1 rfl) ?_
      refine lv_icmp_ge (tgt := 165) hx hb dX0_reachSource_39 (by decide) (fun c6 => ?_) (fun c6 => ?_)
      · replace hw := hw.1 c6
        exact t_X0_reachSource_165 X Q   _  _ _ _ hw hk (lv_sub hl [0] rfl)
      · replace hw := hw.2 c6
        refine lv_aload_n hx hb dX0_reachSource_42 rfl (lv_at hl 0 rfl) ?_
        refine k_get 9 X hk (wg_4 G _) rfl (hz_wsX00 _) (Nat.le_of_ble_eq_true rfl) (List.mem_cons_of_mem _ (aw_r3 _ (List.mem_of_getElem? (i := 22) rfl))) rfl dX0_reachSource_43 ?_
        refine lv_sipush (v := (344 : Int32)) hx hb dX0_reachSource_46 (by decide) ?_
        refine k_iald X hk (wg_23 G _) hw.1 dX0_reachSource_49 ?_
        replace hw := hw.2
        refine lv_iconst (v := (-1 : Int32)) hx hb dX0_reachSource_50 (by decide) ?_
        refine lv_icmp_ne (tgt := 165) hx hb dX0_reachSource_51 (by decide) (fun c7 => ?_) (fun c7 => ?_)
        · replace hw := hw.2 c7
          exact t_X0_reachSource_165 X Q   _  _ _ _ hw hk (lv_sub hl [0] rfl)
        · replace hw := hw.1 c7
          refine lv_aload_n hx hb dX0_reachSource_54 rfl (lv_at hl 0 rfl) ?_
          refine k_get 11 X hk (wg_4 G _) rfl (hz_wsX00 _) (Nat.le_of_ble_eq_true rfl) (List.mem_cons_of_mem _ (aw_r4 _ (List.mem_of_getElem? (i := 0) rfl))) rfl dX0_reachSource_55 ?_
          refine lv_iload_n hx hb dX0_reachSource_58 rfl (lv_at hl 2 rfl) ?_
          refine k_iald X hk (wg_25 G _) hw.1 dX0_reachSource_59 ?_
          replace hw := hw.2
          refine lv_topi (fun x3_8 ex3_8 => ?_)
          replace hw := hw x3_8 ex3_8
          refine lv_istore_n (lv' := [(3, .int x3_8), (0, .ref (G.1 4)), (1, .int x1), (2, .int x2)]) hx hb dX0_reachSource_60 rfl hl (Nat.le_of_ble_eq_true rfl) rfl (fun ls hl => ?_)
          refine lv_aload_n hx hb dX0_reachSource_61 rfl (lv_at hl 1 rfl) ?_
          refine k_get 5 X hk (wg_4 G _) rfl (hz_wsX00 _) (Nat.le_of_ble_eq_true rfl) (List.mem_cons_of_mem _ (aw_r3 _ (List.mem_of_getElem? (i := 18) rfl))) rfl dX0_reachSource_62 ?_
          refine lv_iload_n hx hb dX0_reachSource_65 rfl (lv_at hl 0 rfl) ?_
          refine k_iald X hk (wg_19 G _) hw.1 dX0_reachSource_66 ?_
          replace hw := hw.2
          refine lv_topi (fun x4_9 ex4_9 => ?_)
          replace hw := hw x4_9 ex4_9
          refine lv_istore (lv' := [(4, .int x4_9), (3, .int x3_8), (0, .ref (G.1 4)), (1, .int x1), (2, .int x2)]) hx hb dX0_reachSource_67 hl (Nat.le_of_ble_eq_true rfl) rfl (fun ls hl => ?_)
          refine lv_iconst (v := (0 : Int32)) hx hb dX0_reachSource_69 (by decide) ?_
          refine lv_istore (lv' := [(5, .int (0 : Int32)), (4, .int x4_9), (3, .int x3_8), (0, .ref (G.1 4)), (1, .int x1), (2, .int x2)]) hx hb dX0_reachSource_70 hl (Nat.le_of_ble_eq_true rfl) rfl (fun ls hl => ?_)
          obtain ⟨n0, hw⟩ := hw
          exact t_X0_reachSource_72 X Q _ ih n0 _ _ _ _ _ _ _ _ _ hw hk (lv_sub hl [3, 4, 5, 2, 1, 0] rfl)
def wp_X0_reachSource (σ : Sg) (Q : Int32 → Sg → Prop) : Prop := ∀ σ1 : Sg, σ1 = (setA σ 23 (k_fillf 346 (-1 : Int32) (σ 23))) → (vp_in (345 : Int32) 346 ∧ (∀ σ2 : Sg, σ2 = (put σ1 23 ((345 : Int32)).toNatClampNeg (0 : Int32)) → (vp_in (0 : Int32) 346 ∧ (∀ σ3 : Sg, σ3 = (put σ2 25 ((0 : Int32)).toNatClampNeg (345 : Int32)) → (∃ n0, wp_X0_reachSource_30 Q  n0 (1 : Int32) (0 : Int32) σ3)))))
set_option maxHeartbeats 4000000 in
set_option maxRecDepth 100000 in
theorem c_X0_reachSource (l : Launch) (G : Gw) (σ : Sg) (Q : Int32 → Sg → Prop) (hw : wp_X0_reachSource σ  Q) : MetI l yX0_reachSource wz_X0_reachSource rm_X0_reachSource G σ [.ref (G.1 4)] Q := by
  refine MetI.of cX0_reachSource 7 (some .boolean) (by decide) rfl (Nat.le_of_ble_eq_true rfl) ?_
  intro p e s m below meth c X hk ls hl
  have X : KC p m meth c cX0_reachSource 7 s _ wz_X0_reachSource RX0 (some .boolean) G := X
  have hl : lv_has ls 7 [(0, .ref (G.1 4))] := hl
  unfold wp_X0_reachSource at hw
  have hx := X.1.1
  have hb := X.1.2.1
  refine lv_aload_n hx hb dX0_reachSource_0 rfl (lv_at hl 0 rfl) ?_
  refine k_get 9 X hk (wg_4 G _) rfl (hz_wsX00 _) (Nat.le_of_ble_eq_true rfl) (List.mem_cons_of_mem _ (aw_r3 _ (List.mem_of_getElem? (i := 22) rfl))) rfl dX0_reachSource_1 ?_
  refine lv_iconst (v := (-1 : Int32)) hx hb dX0_reachSource_4 (by decide) ?_
  refine k_callSv (rest := []) X hk (c_fill l G _ 23 346 (wg_23 G) (ws_23 G) (Nat.le_of_ble_eq_true rfl) _ (fun σ9 => σ9 = (setA σ 23 (k_fillf 346 (-1 : Int32) (σ 23)))) rfl) (va_cwS 2 X.1.2.2.2.2 (gzS (aw_r26 _ (List.mem_of_getElem? (i := 15) rfl)) (aw_r26 _ (List.mem_of_getElem? (i := 16) rfl)) (aw_r26 _ (List.mem_of_getElem? (i := 17) rfl)) (aw_r26 _ (List.mem_of_getElem? (i := 18) rfl))) rfl rfl rfl (by decide +kernel) ⟨(Nat.le_of_ble_eq_true rfl), (Nat.le_of_ble_eq_true rfl)⟩) rfl hl.1 rfl (Nat.le_of_ble_eq_true rfl) dX0_reachSource_5 ⟨Nat.zero_le _, Nat.zero_le _⟩ (fun σ1 H locs h9 hk => ?_)
  replace hw := hw σ1 h9
  refine lv_aload_n hx hb dX0_reachSource_8 rfl (lv_at hl 0 rfl) ?_
  refine k_get 9 X hk (wg_4 G _) rfl (hz_wsX00 _) (Nat.le_of_ble_eq_true rfl) (List.mem_cons_of_mem _ (aw_r3 _ (List.mem_of_getElem? (i := 22) rfl))) rfl dX0_reachSource_9 ?_
  refine lv_sipush (v := (345 : Int32)) hx hb dX0_reachSource_12 (by decide) ?_
  refine lv_iconst (v := (0 : Int32)) hx hb dX0_reachSource_15 (by decide) ?_
  refine k_iast X hk (wg_23 G _) (ws_23 G _) rfl hw.1 dX0_reachSource_16 (fun H locs hk => ?_)
  replace hw := hw.2
  obtain ⟨σ2, eσ2⟩ : ∃ y : Sg, y = (put σ1 23 ((345 : Int32)).toNatClampNeg (0 : Int32)) := ⟨_, rfl⟩
  rw [← eσ2] at hk
  replace hw := hw σ2 eσ2
  refine lv_aload_n hx hb dX0_reachSource_17 rfl (lv_at hl 0 rfl) ?_
  refine k_get 11 X hk (wg_4 G _) rfl (hz_wsX00 _) (Nat.le_of_ble_eq_true rfl) (List.mem_cons_of_mem _ (aw_r4 _ (List.mem_of_getElem? (i := 0) rfl))) rfl dX0_reachSource_18 ?_
  refine lv_iconst (v := (0 : Int32)) hx hb dX0_reachSource_21 (by decide) ?_
  refine lv_sipush (v := (345 : Int32)) hx hb dX0_reachSource_22 (by decide) ?_
  refine k_iast X hk (wg_25 G _) (ws_25 G _) rfl hw.1 dX0_reachSource_25 (fun H locs hk => ?_)
  replace hw := hw.2
  obtain ⟨σ3, eσ3⟩ : ∃ y : Sg, y = (put σ2 25 ((0 : Int32)).toNatClampNeg (345 : Int32)) := ⟨_, rfl⟩
  rw [← eσ3] at hk
  replace hw := hw σ3 eσ3
  refine lv_iconst (v := (1 : Int32)) hx hb dX0_reachSource_26 (by decide) ?_
  refine lv_istore_n (lv' := [(1, .int (1 : Int32)), (0, .ref (G.1 4))]) hx hb dX0_reachSource_27 rfl hl (Nat.le_of_ble_eq_true rfl) rfl (fun ls hl => ?_)
  refine lv_iconst (v := (0 : Int32)) hx hb dX0_reachSource_28 (by decide) ?_
  refine lv_istore_n (lv' := [(2, .int (0 : Int32)), (1, .int (1 : Int32)), (0, .ref (G.1 4))]) hx hb dX0_reachSource_29 rfl hl (Nat.le_of_ble_eq_true rfl) rfl (fun ls hl => ?_)
  obtain ⟨n0, hw⟩ := hw
  exact t_X0_reachSource_30 X Q   n0 _ _ _ _ _ _ hw hk (lv_sub hl [2, 1, 0] rfl)
def rm_X0_push : Room := { frames := 2, cells := 0, slots := 0, locals := 49 }
abbrev wz_X0_push : List Cond := Cond.code yX0_push cX0_push 2 none :: wsA
theorem hd_X0_push : yX0_push.cls = RX0 ∧ yX0_push.cls ≠ "java/lang/invoke/MethodHandle" ∧ yX0_push.cls ≠ "java/lang/invoke/VarHandle" ∧ (parseMethodDescriptor yX0_push.desc).map (fun d => d.parameters.length) = some 0 := by decide +kernel
def wp_X0_push_2 (Q : Sg → Prop)  : Nat → Int32 → Sg → Prop
  | 0, _, _ => False
  | n + 1, x1, σ => ((1000000 : Int32) ≤ x1 → (Q σ)) ∧ (¬ ((1000000 : Int32) ≤ x1) → (((σ 4 3) ≤ (σ 4 4) → (Q σ)) ∧ (¬ ((σ 4 3) ≤ (σ 4 4)) → (wp_X0_reachSource σ  (fun r4 σ3 => (r4 = 0 → (Q σ3)) ∧ (¬ (r4 = 0) → (wp_X0_fillPaths σ3  (fun σ6 => ∀ x1_8 : Int32, x1_8 = (x1 + (1 : Int32)) → (wp_X0_push_2 Q  n x1_8 σ6)))))))))
set_option maxHeartbeats 4000000 in
set_option maxRecDepth 100000 in
theorem t_X0_push_2 {p : Program} {l : Launch} {e : Env} {s : State} {m : MethodId} {args : Array Value} {below : List Frame} {meth : Method} {c : Code} {G : Gw} (X : KC p m meth c cX0_push 2 s args wz_X0_push RX0 none G) (Q : Sg → Prop)  : ∀ (n : Nat) (σ : Sg) (x1 : Int32) (H : Heap) (locs : List Loc) (ls : Array Slot), wp_X0_push_2 Q  n x1 σ → WK G s H locs σ → lv_has ls 2 [(0, .ref (G.1 4)), (1, .int x1)] → W p l e rm_X0_push s m args below meth c H locs 0 0 (ZV below args s G Q) (F0 m 2 ls []) := by
  have hx := X.1.1
  have hb := X.1.2.1
  intro n
  induction n with
  | zero =>
    intro σ x1 H locs ls hw hk hl
    exact False.elim hw
  | succ n ih =>
    intro σ x1 H locs ls hw hk hl
    rw [wp_X0_push_2] at hw
    refine lv_iload_n hx hb dX0_push_2 rfl (lv_at hl 1 rfl) ?_
    refine lv_ldc (v := (1000000 : Int32)) hx hb X.1.2.2.2.1 (X.1.2.2.2.2 _ (List.mem_cons_of_mem _ (aw_r27 _ (List.mem_of_getElem? (i := 17) rfl)))) dX0_push_3 ?_
    refine lv_icmp_ge (tgt := 36) hx hb dX0_push_5 (by decide) (fun c1 => ?_) (fun c1 => ?_)
    · replace hw := hw.1 c1
      exact k_vret X hk hw dX0_push_36
    · replace hw := hw.2 c1
      refine lv_aload_n hx hb dX0_push_8 rfl (lv_at hl 0 rfl) ?_
      refine k_get 4 X hk (wg_4 G _) rfl (hz_wsX00 _) (Nat.le_of_ble_eq_true rfl) (List.mem_cons_of_mem _ (aw_r26 _ (List.mem_of_getElem? (i := 2) rfl))) rfl dX0_push_9 ?_
      refine lv_aload_n hx hb dX0_push_12 rfl (lv_at hl 0 rfl) ?_
      refine k_get 3 X hk (wg_4 G _) rfl (hz_wsX00 _) (Nat.le_of_ble_eq_true rfl) (List.mem_cons_of_mem _ (aw_r26 _ (List.mem_of_getElem? (i := 13) rfl))) rfl dX0_push_13 ?_
      refine lv_icmp_ge (tgt := 36) hx hb dX0_push_16 (by decide) (fun c2 => ?_) (fun c2 => ?_)
      · replace hw := hw.1 c2
        exact k_vret X hk hw dX0_push_36
      · replace hw := hw.2 c2
        refine lv_aload_n hx hb dX0_push_19 rfl (lv_at hl 0 rfl) ?_
        refine k_callVi (rest := []) X hk (c_X0_reachSource l G _  _ hw) (cwV 0 X.1.2.2.2.2 (gzV (aw_r27 _ (List.mem_of_getElem? (i := 18) rfl)) (aw_r27 _ (List.mem_of_getElem? (i := 19) rfl)) (aw_r27 _ (List.mem_of_getElem? (i := 20) rfl)) (aw_r2 _ (List.mem_of_getElem? (i := 3) rfl)) (aw_r27 _ (List.mem_of_getElem? (i := 21) rfl))) rfl rfl rfl hd_X0_reachSource ⟨(Nat.le_of_ble_eq_true rfl), (Nat.le_of_ble_eq_true rfl)⟩) (wg_4 G _) rfl rfl hl.1 rfl (Nat.le_of_ble_eq_true rfl) dX0_push_20 ⟨Nat.zero_le _, Nat.zero_le _⟩ (fun r4 σ3 H locs hw hk => ?_)
        refine lv_if_eq (tgt := 36) hx hb dX0_push_23 (by decide) (fun c5 => ?_) (fun c5 => ?_)
        · replace hw := hw.1 c5
          exact k_vret X hk hw dX0_push_36
        · replace hw := hw.2 c5
          refine lv_aload_n hx hb dX0_push_26 rfl (lv_at hl 0 rfl) ?_
          refine k_callVv (rest := []) X hk (c_X0_fillPaths l G _  _ hw) (cwV 0 X.1.2.2.2.2 (gzV (aw_r27 _ (List.mem_of_getElem? (i := 22) rfl)) (aw_r27 _ (List.mem_of_getElem? (i := 23) rfl)) (aw_r28 _ (List.mem_of_getElem? (i := 0) rfl)) (aw_r2 _ (List.mem_of_getElem? (i := 3) rfl)) (aw_r28 _ (List.mem_of_getElem? (i := 1) rfl))) rfl rfl rfl hd_X0_fillPaths ⟨(Nat.le_of_ble_eq_true rfl), (Nat.le_of_ble_eq_true rfl)⟩) (wg_4 G _) rfl rfl hl.1 rfl (Nat.le_of_ble_eq_true rfl) dX0_push_27 ⟨Nat.zero_le _, Nat.zero_le _⟩ (fun σ6 H locs hw hk => ?_)
          obtain ⟨x1_8, ex1_8⟩ : ∃ y : Int32, y = (x1 + (1 : Int32)) := ⟨_, rfl⟩
          replace hw := hw x1_8 ex1_8
          refine lv_iinc (v := x1_8) (lv' := [(1, .int x1_8), (0, .ref (G.1 4))]) hx hb dX0_push_30 hl (k := 1) rfl (by rw [ex1_8]; rfl) (Nat.le_of_ble_eq_true rfl) rfl (fun ls hl => ?_)
          refine lv_goto (tgt := 2) hx hb dX0_push_33 (by decide) ?_
          exact ih _ _ _ _ _ hw hk (lv_sub hl [1, 0] rfl)
def wp_X0_push (σ : Sg) (Q : Sg → Prop) : Prop := ∃ n0, wp_X0_push_2 Q  n0 (0 : Int32) σ
set_option maxHeartbeats 4000000 in
set_option maxRecDepth 100000 in
theorem c_X0_push (l : Launch) (G : Gw) (σ : Sg) (Q : Sg → Prop) (hw : wp_X0_push σ  Q) : MetV l yX0_push wz_X0_push rm_X0_push G σ [.ref (G.1 4)] Q := by
  refine MetV.of cX0_push 2 none (by decide) rfl (Nat.le_of_ble_eq_true rfl) ?_
  intro p e s m below meth c X hk ls hl
  have X : KC p m meth c cX0_push 2 s _ wz_X0_push RX0 none G := X
  have hl : lv_has ls 2 [(0, .ref (G.1 4))] := hl
  unfold wp_X0_push at hw
  have hx := X.1.1
  have hb := X.1.2.1
  refine lv_iconst (v := (0 : Int32)) hx hb dX0_push_0 (by decide) ?_
  refine lv_istore_n (lv' := [(1, .int (0 : Int32)), (0, .ref (G.1 4))]) hx hb dX0_push_1 rfl hl (Nat.le_of_ble_eq_true rfl) rfl (fun ls hl => ?_)
  obtain ⟨n0, hw⟩ := hw
  exact t_X0_push_2 X Q   n0 _ _ _ _ _ hw hk (lv_sub hl [1, 0] rfl)
def rm_X0_fillUpTo : Room := { frames := 3, cells := 0, slots := 0, locals := 70 }
abbrev wz_X0_fillUpTo : List Cond := Cond.code yX0_fillUpTo cX0_fillUpTo 3 none :: wsA
theorem hd_X0_fillUpTo : yX0_fillUpTo.cls = RX0 ∧ yX0_fillUpTo.cls ≠ "java/lang/invoke/MethodHandle" ∧ yX0_fillUpTo.cls ≠ "java/lang/invoke/VarHandle" ∧ (parseMethodDescriptor yX0_fillUpTo.desc).map (fun d => d.parameters.length) = some 1 := by decide +kernel
def wp_X0_fillUpTo_6 (Q : Sg → Prop)  : Nat → Int32 → Int32 → Sg → Prop
  | 0, _, _, _ => False
  | n + 1, x1, x2, σ => (x1 < x2 → (wp_X0_push σ  (fun σ4 => Q σ4))) ∧ (¬ (x1 < x2) → (wp_X0_addMinute σ  (fun σ6 => ∀ x2_8 : Int32, x2_8 = (x2 + (1 : Int32)) → (wp_X0_fillUpTo_6 Q  n x1 x2_8 σ6))))
set_option maxHeartbeats 4000000 in
set_option maxRecDepth 100000 in
theorem t_X0_fillUpTo_6 {p : Program} {l : Launch} {e : Env} {s : State} {m : MethodId} {args : Array Value} {below : List Frame} {meth : Method} {c : Code} {G : Gw} (X : KC p m meth c cX0_fillUpTo 3 s args wz_X0_fillUpTo RX0 none G) (Q : Sg → Prop)  : ∀ (n : Nat) (σ : Sg) (x1 x2 : Int32) (H : Heap) (locs : List Loc) (ls : Array Slot), wp_X0_fillUpTo_6 Q  n x1 x2 σ → WK G s H locs σ → lv_has ls 3 [(0, .ref (G.1 4)), (1, .int x1), (2, .int x2)] → W p l e rm_X0_fillUpTo s m args below meth c H locs 0 0 (ZV below args s G Q) (F0 m 6 ls []) := by
  have hx := X.1.1
  have hb := X.1.2.1
  intro n
  induction n with
  | zero =>
    intro σ x1 x2 H locs ls hw hk hl
    exact False.elim hw
  | succ n ih =>
    intro σ x1 x2 H locs ls hw hk hl
    rw [wp_X0_fillUpTo_6] at hw
    refine lv_iload_n hx hb dX0_fillUpTo_6 rfl (lv_at hl 2 rfl) ?_
    refine lv_iload_n hx hb dX0_fillUpTo_7 rfl (lv_at hl 1 rfl) ?_
    refine lv_icmp_gt (tgt := 21) hx hb dX0_fillUpTo_8 (by decide) (fun c3 => ?_) (fun c3 => ?_)
    · replace hw := hw.1 c3
      refine lv_aload_n hx hb dX0_fillUpTo_21 rfl (lv_at hl 0 rfl) ?_
      refine k_callVv (rest := []) X hk (c_X0_push l G _  _ hw) (cwV 0 X.1.2.2.2.2 (gzV (aw_r27 _ (List.mem_of_getElem? (i := 13) rfl)) (aw_r27 _ (List.mem_of_getElem? (i := 14) rfl)) (aw_r27 _ (List.mem_of_getElem? (i := 15) rfl)) (aw_r2 _ (List.mem_of_getElem? (i := 3) rfl)) (aw_r27 _ (List.mem_of_getElem? (i := 16) rfl))) rfl rfl rfl hd_X0_push ⟨(Nat.le_of_ble_eq_true rfl), (Nat.le_of_ble_eq_true rfl)⟩) (wg_4 G _) rfl rfl hl.1 rfl (Nat.le_of_ble_eq_true rfl) dX0_fillUpTo_22 ⟨Nat.zero_le _, Nat.zero_le _⟩ (fun σ4 H locs hw hk => ?_)
      exact k_vret X hk hw dX0_fillUpTo_25
    · replace hw := hw.2 c3
      refine lv_aload_n hx hb dX0_fillUpTo_11 rfl (lv_at hl 0 rfl) ?_
      refine k_callVv (rest := []) X hk (c_X0_addMinute l G _  _ hw) (cwV 0 X.1.2.2.2.2 (gzV (aw_r27 _ (List.mem_of_getElem? (i := 5) rfl)) (aw_r27 _ (List.mem_of_getElem? (i := 6) rfl)) (aw_r27 _ (List.mem_of_getElem? (i := 7) rfl)) (aw_r2 _ (List.mem_of_getElem? (i := 3) rfl)) (aw_r27 _ (List.mem_of_getElem? (i := 8) rfl))) rfl rfl rfl hd_X0_addMinute ⟨(Nat.le_of_ble_eq_true rfl), (Nat.le_of_ble_eq_true rfl)⟩) (wg_4 G _) rfl rfl hl.1 rfl (Nat.le_of_ble_eq_true rfl) dX0_fillUpTo_12 ⟨Nat.zero_le _, Nat.zero_le _⟩ (fun σ6 H locs hw hk => ?_)
      obtain ⟨x2_8, ex2_8⟩ : ∃ y : Int32, y = (x2 + (1 : Int32)) := ⟨_, rfl⟩
      replace hw := hw x2_8 ex2_8
      refine lv_iinc (v := x2_8) (lv' := [(2, .int x2_8), (0, .ref (G.1 4)), (1, .int x1)]) hx hb dX0_fillUpTo_15 hl (k := 2) rfl (by rw [ex2_8]; rfl) (Nat.le_of_ble_eq_true rfl) rfl (fun ls hl => ?_)
      refine lv_goto (tgt := 6) hx hb dX0_fillUpTo_18 (by decide) ?_
      exact ih _ _ _ _ _ _ hw hk (lv_sub hl [1, 2, 0] rfl)
def wp_X0_fillUpTo (σ : Sg) (p1 : Int32) (Q : Sg → Prop) : Prop := wp_X0_begin σ  (fun σ1 => ∃ n0, wp_X0_fillUpTo_6 Q  n0 p1 (0 : Int32) σ1)
set_option maxHeartbeats 4000000 in
set_option maxRecDepth 100000 in
theorem c_X0_fillUpTo (l : Launch) (G : Gw) (σ : Sg) (p1 : Int32) (Q : Sg → Prop) (hw : wp_X0_fillUpTo σ p1 Q) : MetV l yX0_fillUpTo wz_X0_fillUpTo rm_X0_fillUpTo G σ [.ref (G.1 4), .int p1] Q := by
  refine MetV.of cX0_fillUpTo 3 none (by decide) rfl (Nat.le_of_ble_eq_true rfl) ?_
  intro p e s m below meth c X hk ls hl
  have X : KC p m meth c cX0_fillUpTo 3 s _ wz_X0_fillUpTo RX0 none G := X
  have hl : lv_has ls 3 [(0, .ref (G.1 4)), (1, .int p1)] := hl
  unfold wp_X0_fillUpTo at hw
  have hx := X.1.1
  have hb := X.1.2.1
  refine lv_aload_n hx hb dX0_fillUpTo_0 rfl (lv_at hl 0 rfl) ?_
  refine k_callVv (rest := []) X hk (c_X0_begin l G _  _ hw) (cwV 0 X.1.2.2.2.2 (gzV (aw_r26 _ (List.mem_of_getElem? (i := 7) rfl)) (aw_r26 _ (List.mem_of_getElem? (i := 8) rfl)) (aw_r26 _ (List.mem_of_getElem? (i := 9) rfl)) (aw_r2 _ (List.mem_of_getElem? (i := 3) rfl)) (aw_r26 _ (List.mem_of_getElem? (i := 10) rfl))) rfl rfl rfl hd_X0_begin ⟨(Nat.le_of_ble_eq_true rfl), (Nat.le_of_ble_eq_true rfl)⟩) (wg_4 G _) rfl rfl hl.1 rfl (Nat.le_of_ble_eq_true rfl) dX0_fillUpTo_1 ⟨Nat.zero_le _, Nat.zero_le _⟩ (fun σ1 H locs hw hk => ?_)
  refine lv_iconst (v := (0 : Int32)) hx hb dX0_fillUpTo_4 (by decide) ?_
  refine lv_istore_n (lv' := [(2, .int (0 : Int32)), (0, .ref (G.1 4)), (1, .int p1)]) hx hb dX0_fillUpTo_5 rfl hl (Nat.le_of_ble_eq_true rfl) rfl (fun ls hl => ?_)
  obtain ⟨n0, hw⟩ := hw
  exact t_X0_fillUpTo_6 X Q   n0 _ _ _ _ _ _ hw hk (lv_sub hl [1, 2, 0] rfl)
def rm_X0_mostSafeBy : Room := { frames := 4, cells := 0, slots := 0, locals := 92 }
abbrev wz_X0_mostSafeBy : List Cond := Cond.code yX0_mostSafeBy cX0_mostSafeBy 2 (some .int) :: wsA
theorem hd_X0_mostSafeBy : yX0_mostSafeBy.cls = RX0 ∧ yX0_mostSafeBy.cls ≠ "java/lang/invoke/MethodHandle" ∧ yX0_mostSafeBy.cls ≠ "java/lang/invoke/VarHandle" ∧ (parseMethodDescriptor yX0_mostSafeBy.desc).map (fun d => d.parameters.length) = some 1 := by decide +kernel
def wp_X0_mostSafeBy (σ : Sg) (p1 : Int32) (Q : Int32 → Sg → Prop) : Prop := wp_X0_fillUpTo σ p1 (fun σ1 => Q (σ1 4 4) σ1)
set_option maxHeartbeats 4000000 in
set_option maxRecDepth 100000 in
theorem c_X0_mostSafeBy (l : Launch) (G : Gw) (σ : Sg) (p1 : Int32) (Q : Int32 → Sg → Prop) (hw : wp_X0_mostSafeBy σ p1 Q) : MetI l yX0_mostSafeBy wz_X0_mostSafeBy rm_X0_mostSafeBy G σ [.ref (G.1 4), .int p1] Q := by
  refine MetI.of cX0_mostSafeBy 2 (some .int) (by decide) rfl (Nat.le_of_ble_eq_true rfl) ?_
  intro p e s m below meth c X hk ls hl
  have X : KC p m meth c cX0_mostSafeBy 2 s _ wz_X0_mostSafeBy RX0 (some .int) G := X
  have hl : lv_has ls 2 [(0, .ref (G.1 4)), (1, .int p1)] := hl
  unfold wp_X0_mostSafeBy at hw
  have hx := X.1.1
  have hb := X.1.2.1
  refine lv_aload_n hx hb dX0_mostSafeBy_0 rfl (lv_at hl 0 rfl) ?_
  refine lv_iload_n hx hb dX0_mostSafeBy_1 rfl (lv_at hl 1 rfl) ?_
  refine k_callVv (rest := []) X hk (c_X0_fillUpTo l G _ _ _ hw) (cwV 1 X.1.2.2.2.2 (gzV (aw_r26 _ (List.mem_of_getElem? (i := 3) rfl)) (aw_r26 _ (List.mem_of_getElem? (i := 4) rfl)) (aw_r26 _ (List.mem_of_getElem? (i := 5) rfl)) (aw_r2 _ (List.mem_of_getElem? (i := 3) rfl)) (aw_r26 _ (List.mem_of_getElem? (i := 6) rfl))) rfl rfl rfl hd_X0_fillUpTo ⟨(Nat.le_of_ble_eq_true rfl), (Nat.le_of_ble_eq_true rfl)⟩) (wg_4 G _) rfl rfl hl.1 rfl (Nat.le_of_ble_eq_true rfl) dX0_mostSafeBy_2 ⟨Nat.zero_le _, Nat.zero_le _⟩ (fun σ1 H locs hw hk => ?_)
  refine lv_aload_n hx hb dX0_mostSafeBy_5 rfl (lv_at hl 0 rfl) ?_
  refine k_get 4 X hk (wg_4 G _) rfl (hz_wsX00 _) (Nat.le_of_ble_eq_true rfl) (List.mem_cons_of_mem _ (aw_r26 _ (List.mem_of_getElem? (i := 2) rfl))) rfl dX0_mostSafeBy_6 ?_
  exact k_iret X hk hw dX0_mostSafeBy_9
def rm_X0_measureRoads : Room := { frames := 1, cells := 0, slots := 0, locals := 22 }
abbrev wz_X0_measureRoads : List Cond := Cond.code yX0_measureRoads cX0_measureRoads 5 none :: wsA
theorem hd_X0_measureRoads : yX0_measureRoads.cls = RX0 ∧ yX0_measureRoads.cls ≠ "java/lang/invoke/MethodHandle" ∧ yX0_measureRoads.cls ≠ "java/lang/invoke/VarHandle" ∧ (parseMethodDescriptor yX0_measureRoads.desc).map (fun d => d.parameters.length) = some 0 := by decide +kernel
def wp_X0_measureRoads_142 (Q : Sg → Prop) (K45 : Int32 → Sg → Prop) (K58 : Int32 → Int32 → Sg → Prop) (x1 x2 : Int32) (σ : Sg) : Prop := ∀ x2_8 : Int32, x2_8 = (x2 + (1 : Int32)) → (K58 x1 x2_8 σ)
set_option maxHeartbeats 4000000 in
set_option maxRecDepth 100000 in
theorem t_X0_measureRoads_142 {p : Program} {l : Launch} {e : Env} {s : State} {m : MethodId} {args : Array Value} {below : List Frame} {meth : Method} {c : Code} {G : Gw} (X : KC p m meth c cX0_measureRoads 5 s args wz_X0_measureRoads RX0 none G) (Q : Sg → Prop) (K45 : Int32 → Sg → Prop) (K58 : Int32 → Int32 → Sg → Prop) (hK45 : ∀ (σ : Sg) (x1 : Int32) (H : Heap) (locs : List Loc) (ls : Array Slot), K45 x1 σ → WK G s H locs σ → lv_has ls 5 [(0, .ref (G.1 4)), (1, .int x1)] → W p l e rm_X0_measureRoads s m args below meth c H locs 0 0 (ZV below args s G Q) (F0 m 45 ls [])) (hK58 : ∀ (σ : Sg) (x1 x2 : Int32) (H : Heap) (locs : List Loc) (ls : Array Slot), K58 x1 x2 σ → WK G s H locs σ → lv_has ls 5 [(0, .ref (G.1 4)), (1, .int x1), (2, .int x2)] → W p l e rm_X0_measureRoads s m args below meth c H locs 0 0 (ZV below args s G Q) (F0 m 58 ls [])) : ∀ (σ : Sg) (x1 x2 : Int32) (H : Heap) (locs : List Loc) (ls : Array Slot), wp_X0_measureRoads_142 Q K45 K58 x1 x2 σ → WK G s H locs σ → lv_has ls 5 [(0, .ref (G.1 4)), (1, .int x1), (2, .int x2)] → W p l e rm_X0_measureRoads s m args below meth c H locs 0 0 (ZV below args s G Q) (F0 m 142 ls []) := by
  have hx := X.1.1
  have hb := X.1.2.1
  intro σ x1 x2 H locs ls hw hk hl
  unfold wp_X0_measureRoads_142 at hw
  obtain ⟨x2_8, ex2_8⟩ : ∃ y : Int32, y = (x2 + (1 : Int32)) := ⟨_, rfl⟩
  replace hw := hw x2_8 ex2_8
  refine lv_iinc (v := x2_8) (lv' := [(2, .int x2_8), (0, .ref (G.1 4)), (1, .int x1)]) hx hb dX0_measureRoads_142 hl (k := 2) rfl (by rw [ex2_8]; rfl) (Nat.le_of_ble_eq_true rfl) rfl (fun ls hl => ?_)
  refine lv_goto (tgt := 58) hx hb dX0_measureRoads_145 (by decide) ?_
  exact hK58 _ _ _ _ _ _ hw hk (lv_sub hl [1, 2, 0] rfl)
def wp_X0_measureRoads_58 (Q : Sg → Prop) (K45 : Int32 → Sg → Prop) : Nat → Int32 → Int32 → Sg → Prop
  | 0, _, _, _ => False
  | n + 1, x1, x2, σ => (((2 : Int32) * (σ 1 1)) ≤ x2 → (∀ x1_4 : Int32, x1_4 = (x1 + (1 : Int32)) → (K45 x1_4 σ))) ∧ (¬ (((2 : Int32) * (σ 1 1)) ≤ x2) → (vp_in x2 24 ∧ (∀ x3_5 : Int32, x3_5 = (σ 7 (x2).toNatClampNeg) → (vp_in (x2 / (2 : Int32)) 12 ∧ (vp_in (x2 ^^^ (1 : Int32)) 24 ∧ (vp_in (σ 7 ((x2 ^^^ (1 : Int32))).toNatClampNeg) 8 ∧ (∀ x4_6 : Int32, x4_6 = ((σ 6 ((x2 / (2 : Int32))).toNatClampNeg) + (σ 27 ((σ 7 ((x2 ^^^ (1 : Int32))).toNatClampNeg)).toNatClampNeg)) → (vp_in x2 24 ∧ (((σ 8 (x2).toNatClampNeg) ≤ 0 → (wp_X0_measureRoads_142 Q K45 (fun z1 z2 σ => wp_X0_measureRoads_58 Q K45 n z1 z2 σ) x1 x2 σ)) ∧ (¬ ((σ 8 (x2).toNatClampNeg) ≤ 0) → (vp_in x3_5 8 ∧ (((σ 27 (x3_5).toNatClampNeg) ≤ x4_6 → (wp_X0_measureRoads_142 Q K45 (fun z1 z2 σ => wp_X0_measureRoads_58 Q K45 n z1 z2 σ) x1 x2 σ)) ∧ (¬ ((σ 27 (x3_5).toNatClampNeg) ≤ x4_6) → (vp_in x3_5 8 ∧ (∀ σ10 : Sg, σ10 = (put σ 27 (x3_5).toNatClampNeg x4_6) → (wp_X0_measureRoads_142 Q K45 (fun z1 z2 σ => wp_X0_measureRoads_58 Q K45 n z1 z2 σ) x1 x2 σ10))))))))))))))))
set_option maxHeartbeats 4000000 in
set_option maxRecDepth 100000 in
theorem t_X0_measureRoads_58 {p : Program} {l : Launch} {e : Env} {s : State} {m : MethodId} {args : Array Value} {below : List Frame} {meth : Method} {c : Code} {G : Gw} (X : KC p m meth c cX0_measureRoads 5 s args wz_X0_measureRoads RX0 none G) (Q : Sg → Prop) (K45 : Int32 → Sg → Prop) (hK45 : ∀ (σ : Sg) (x1 : Int32) (H : Heap) (locs : List Loc) (ls : Array Slot), K45 x1 σ → WK G s H locs σ → lv_has ls 5 [(0, .ref (G.1 4)), (1, .int x1)] → W p l e rm_X0_measureRoads s m args below meth c H locs 0 0 (ZV below args s G Q) (F0 m 45 ls [])) : ∀ (n : Nat) (σ : Sg) (x1 x2 : Int32) (H : Heap) (locs : List Loc) (ls : Array Slot), wp_X0_measureRoads_58 Q K45 n x1 x2 σ → WK G s H locs σ → lv_has ls 5 [(0, .ref (G.1 4)), (1, .int x1), (2, .int x2)] → W p l e rm_X0_measureRoads s m args below meth c H locs 0 0 (ZV below args s G Q) (F0 m 58 ls []) := by
  have hx := X.1.1
  have hb := X.1.2.1
  intro n
  induction n with
  | zero =>
    intro σ x1 x2 H locs ls hw hk hl
    exact False.elim hw
  | succ n ih =>
    intro σ x1 x2 H locs ls hw hk hl
    rw [wp_X0_measureRoads_58] at hw
    refine lv_iload_n hx hb dX0_measureRoads_58 rfl (lv_at hl 2 rfl) ?_
    refine lv_iconst (v := (2 : Int32)) hx hb dX0_measureRoads_59 (by decide) ?_
    refine lv_aload_n hx hb dX0_measureRoads_60 rfl (lv_at hl 0 rfl) ?_
    refine k_get 0 X hk (wg_4 G _) rfl (hz_wsX00 _) (Nat.le_of_ble_eq_true rfl) (List.mem_cons_of_mem _ (aw_r4 _ (List.mem_of_getElem? (i := 3) rfl))) rfl dX0_measureRoads_61 ?_
    refine k_get 1 X hk (wg_1 G _) rfl (hz_wsX30 _) (Nat.le_of_ble_eq_true rfl) (List.mem_cons_of_mem _ (aw_r27 _ (List.mem_of_getElem? (i := 9) rfl))) rfl dX0_measureRoads_64 ?_
    refine lv_imul hx hb dX0_measureRoads_67 ?_
    refine lv_icmp_ge (tgt := 148) hx hb dX0_measureRoads_68 (by decide) (fun c3 => ?_) (fun c3 => ?_)
    · replace hw := hw.1 c3
      obtain ⟨x1_4, ex1_4⟩ : ∃ y : Int32, y = (x1 + (1 : Int32)) := ⟨_, rfl⟩
      replace hw := hw x1_4 ex1_4
      refine lv_iinc (v := x1_4) (lv' := [(1, .int x1_4), (0, .ref (G.1 4)), (2, .int x2)]) hx hb dX0_measureRoads_148 hl (k := 1) rfl (by rw [ex1_4]; rfl) (Nat.le_of_ble_eq_true rfl) rfl (fun ls hl => ?_)
      refine lv_goto (tgt := 45) hx hb dX0_measureRoads_151 (by decide) ?_
      exact hK45 _ _ _ _ _ hw hk (lv_sub hl [1, 0] rfl)
    · replace hw := hw.2 c3
      refine lv_aload_n hx hb dX0_measureRoads_71 rfl (lv_at hl 0 rfl) ?_
      refine k_get 0 X hk (wg_4 G _) rfl (hz_wsX00 _) (Nat.le_of_ble_eq_true rfl) (List.mem_cons_of_mem _ (aw_r4 _ (List.mem_of_getElem? (i := 3) rfl))) rfl dX0_measureRoads_72 ?_
      refine k_get 3 X hk (wg_1 G _) rfl (hz_wsX30 _) (Nat.le_of_ble_eq_true rfl) (List.mem_cons_of_mem _ (aw_r27 _ (List.mem_of_getElem? (i := 11) rfl))) rfl dX0_measureRoads_75 ?_
      refine lv_iload_n hx hb dX0_measureRoads_78 rfl (lv_at hl 2 rfl) ?_
      refine k_iald X hk (wg_7 G _) hw.1 dX0_measureRoads_79 ?_
      replace hw := hw.2
      refine lv_topi (fun x3_5 ex3_5 => ?_)
      replace hw := hw x3_5 ex3_5
      refine lv_istore_n (lv' := [(3, .int x3_5), (0, .ref (G.1 4)), (1, .int x1), (2, .int x2)]) hx hb dX0_measureRoads_80 rfl hl (Nat.le_of_ble_eq_true rfl) rfl (fun ls hl => ?_)
      refine lv_aload_n hx hb dX0_measureRoads_81 rfl (lv_at hl 1 rfl) ?_
      refine k_get 0 X hk (wg_4 G _) rfl (hz_wsX00 _) (Nat.le_of_ble_eq_true rfl) (List.mem_cons_of_mem _ (aw_r4 _ (List.mem_of_getElem? (i := 3) rfl))) rfl dX0_measureRoads_82 ?_
      refine k_get 2 X hk (wg_1 G _) rfl (hz_wsX30 _) (Nat.le_of_ble_eq_true rfl) (List.mem_cons_of_mem _ (aw_r27 _ (List.mem_of_getElem? (i := 10) rfl))) rfl dX0_measureRoads_85 ?_
      refine lv_iload_n hx hb dX0_measureRoads_88 rfl (lv_at hl 3 rfl) ?_
      refine lv_iconst (v := (2 : Int32)) hx hb dX0_measureRoads_89 (by decide) ?_
      refine lv_idiv hx hb dX0_measureRoads_90 (by decide) ?_
      refine k_iald X hk (wg_6 G _) hw.1 dX0_measureRoads_91 ?_
      replace hw := hw.2
      refine lv_aload_n hx hb dX0_measureRoads_92 rfl (lv_at hl 1 rfl) ?_
      refine k_get 13 X hk (wg_4 G _) rfl (hz_wsX00 _) (Nat.le_of_ble_eq_true rfl) (List.mem_cons_of_mem _ (aw_r4 _ (List.mem_of_getElem? (i := 2) rfl))) rfl dX0_measureRoads_93 ?_
      refine lv_aload_n hx hb dX0_measureRoads_96 rfl (lv_at hl 1 rfl) ?_
      refine k_get 0 X hk (wg_4 G _) rfl (hz_wsX00 _) (Nat.le_of_ble_eq_true rfl) (List.mem_cons_of_mem _ (aw_r4 _ (List.mem_of_getElem? (i := 3) rfl))) rfl dX0_measureRoads_97 ?_
      refine k_get 3 X hk (wg_1 G _) rfl (hz_wsX30 _) (Nat.le_of_ble_eq_true rfl) (List.mem_cons_of_mem _ (aw_r27 _ (List.mem_of_getElem? (i := 11) rfl))) rfl dX0_measureRoads_100 ?_
      refine lv_iload_n hx hb dX0_measureRoads_103 rfl (lv_at hl 3 rfl) ?_
      refine lv_iconst (v := (1 : Int32)) hx hb dX0_measureRoads_104 (by decide) ?_
      refine lv_ixor hx hb dX0_measureRoads_105 ?_
      refine k_iald X hk (wg_7 G _) hw.1 dX0_measureRoads_106 ?_
      replace hw := hw.2
      refine k_iald X hk (wg_27 G _) hw.1 dX0_measureRoads_107 ?_
      replace hw := hw.2
      refine lv_iadd hx hb dX0_measureRoads_108 ?_
      refine lv_topi (fun x4_6 ex4_6 => ?_)
      replace hw := hw x4_6 ex4_6
      refine lv_istore (lv' := [(4, .int x4_6), (3, .int x3_5), (0, .ref (G.1 4)), (1, .int x1), (2, .int x2)]) hx hb dX0_measureRoads_109 hl (Nat.le_of_ble_eq_true rfl) rfl (fun ls hl => ?_)
      refine lv_aload_n hx hb dX0_measureRoads_111 rfl (lv_at hl 2 rfl) ?_
      refine k_get 0 X hk (wg_4 G _) rfl (hz_wsX00 _) (Nat.le_of_ble_eq_true rfl) (List.mem_cons_of_mem _ (aw_r4 _ (List.mem_of_getElem? (i := 3) rfl))) rfl dX0_measureRoads_112 ?_
      refine k_get 4 X hk (wg_1 G _) rfl (hz_wsX30 _) (Nat.le_of_ble_eq_true rfl) (List.mem_cons_of_mem _ (aw_r27 _ (List.mem_of_getElem? (i := 12) rfl))) rfl dX0_measureRoads_115 ?_
      refine lv_iload_n hx hb dX0_measureRoads_118 rfl (lv_at hl 4 rfl) ?_
      refine k_iald X hk (wg_8 G _) hw.1 dX0_measureRoads_119 ?_
      replace hw := hw.2
      refine lv_if_le (tgt := 142) hx hb dX0_measureRoads_120 (by decide) (fun c7 => ?_) (fun c7 => ?_)
      · replace hw := hw.1 c7
        exact t_X0_measureRoads_142 X Q _ _ hK45 ih _ _ _ _ _ _ hw hk (lv_sub hl [2, 3, 4] rfl)
      · replace hw := hw.2 c7
        refine lv_iload hx hb dX0_measureRoads_123 (lv_at hl 0 rfl) ?_
        refine lv_aload_n hx hb dX0_measureRoads_125 rfl (lv_at hl 2 rfl) ?_
        refine k_get 13 X hk (wg_4 G _) rfl (hz_wsX00 _) (Nat.le_of_ble_eq_true rfl) (List.mem_cons_of_mem _ (aw_r4 _ (List.mem_of_getElem? (i := 2) rfl))) rfl dX0_measureRoads_126 ?_
        refine lv_iload_n hx hb dX0_measureRoads_129 rfl (lv_at hl 1 rfl) ?_
        refine k_iald X hk (wg_27 G _) hw.1 dX0_measureRoads_130 ?_
        replace hw := hw.2
        refine lv_icmp_ge (tgt := 142) hx hb dX0_measureRoads_131 (by decide) (fun c9 => ?_) (fun c9 => ?_)
        · replace hw := hw.1 c9
          exact t_X0_measureRoads_142 X Q _ _ hK45 ih _ _ _ _ _ _ hw hk (lv_sub hl [2, 3, 4] rfl)
        · replace hw := hw.2 c9
          refine lv_aload_n hx hb dX0_measureRoads_134 rfl (lv_at hl 2 rfl) ?_
          refine k_get 13 X hk (wg_4 G _) rfl (hz_wsX00 _) (Nat.le_of_ble_eq_true rfl) (List.mem_cons_of_mem _ (aw_r4 _ (List.mem_of_getElem? (i := 2) rfl))) rfl dX0_measureRoads_135 ?_
          refine lv_iload_n hx hb dX0_measureRoads_138 rfl (lv_at hl 1 rfl) ?_
          refine lv_iload hx hb dX0_measureRoads_139 (lv_at hl 0 rfl) ?_
          refine k_iast X hk (wg_27 G _) (ws_27 G _) rfl hw.1 dX0_measureRoads_141 (fun H locs hk => ?_)
          replace hw := hw.2
          obtain ⟨σ10, eσ10⟩ : ∃ y : Sg, y = (put σ 27 (x3_5).toNatClampNeg x4_6) := ⟨_, rfl⟩
          rw [← eσ10] at hk
          replace hw := hw σ10 eσ10
          exact t_X0_measureRoads_142 X Q _ _ hK45 ih _ _ _ _ _ _ hw hk (lv_sub hl [2, 3, 4] rfl)
def wp_X0_measureRoads_45 (Q : Sg → Prop)  : Nat → Int32 → Sg → Prop
  | 0, _, _ => False
  | n + 1, x1, σ => ((σ 1 0) ≤ x1 → (Q σ)) ∧ (¬ ((σ 1 0) ≤ x1) → (∃ n0, wp_X0_measureRoads_58 Q (fun z1 σ => wp_X0_measureRoads_45 Q  n z1 σ) n0 x1 (0 : Int32) σ))
set_option maxHeartbeats 4000000 in
set_option maxRecDepth 100000 in
theorem t_X0_measureRoads_45 {p : Program} {l : Launch} {e : Env} {s : State} {m : MethodId} {args : Array Value} {below : List Frame} {meth : Method} {c : Code} {G : Gw} (X : KC p m meth c cX0_measureRoads 5 s args wz_X0_measureRoads RX0 none G) (Q : Sg → Prop)  : ∀ (n : Nat) (σ : Sg) (x1 : Int32) (H : Heap) (locs : List Loc) (ls : Array Slot), wp_X0_measureRoads_45 Q  n x1 σ → WK G s H locs σ → lv_has ls 5 [(0, .ref (G.1 4)), (1, .int x1)] → W p l e rm_X0_measureRoads s m args below meth c H locs 0 0 (ZV below args s G Q) (F0 m 45 ls []) := by
  have hx := X.1.1
  have hb := X.1.2.1
  intro n
  induction n with
  | zero =>
    intro σ x1 H locs ls hw hk hl
    exact False.elim hw
  | succ n ih =>
    intro σ x1 H locs ls hw hk hl
    rw [wp_X0_measureRoads_45] at hw
    refine lv_iload_n hx hb dX0_measureRoads_45 rfl (lv_at hl 1 rfl) ?_
    refine lv_aload_n hx hb dX0_measureRoads_46 rfl (lv_at hl 0 rfl) ?_
    refine k_get 0 X hk (wg_4 G _) rfl (hz_wsX00 _) (Nat.le_of_ble_eq_true rfl) (List.mem_cons_of_mem _ (aw_r4 _ (List.mem_of_getElem? (i := 3) rfl))) rfl dX0_measureRoads_47 ?_
    refine k_get 0 X hk (wg_1 G _) rfl (hz_wsX30 _) (Nat.le_of_ble_eq_true rfl) (List.mem_cons_of_mem _ (aw_r26 _ (List.mem_of_getElem? (i := 14) rfl))) rfl dX0_measureRoads_50 ?_
    refine lv_icmp_ge (tgt := 154) hx hb dX0_measureRoads_53 (by decide) (fun c2 => ?_) (fun c2 => ?_)
    · replace hw := hw.1 c2
      exact k_vret X hk hw dX0_measureRoads_154
    · replace hw := hw.2 c2
      refine lv_iconst (v := (0 : Int32)) hx hb dX0_measureRoads_56 (by decide) ?_
      refine lv_istore_n (lv' := [(2, .int (0 : Int32)), (0, .ref (G.1 4)), (1, .int x1)]) hx hb dX0_measureRoads_57 rfl hl (Nat.le_of_ble_eq_true rfl) rfl (fun ls hl => ?_)
      obtain ⟨n0, hw⟩ := hw
      exact t_X0_measureRoads_58 X Q _ ih n0 _ _ _ _ _ _ hw hk (lv_sub hl [1, 2, 0] rfl)
def wp_X0_measureRoads_36 (Q : Sg → Prop) (K2 : Int32 → Sg → Prop) (x1 y1 y2 : Int32) (σ : Sg) : Prop := vp_in y1 8 ∧ (∀ σ14 : Sg, σ14 = (put σ 27 (y1).toNatClampNeg y2) → (∀ x1_15 : Int32, x1_15 = (x1 + (1 : Int32)) → (K2 x1_15 σ14)))
set_option maxHeartbeats 4000000 in
set_option maxRecDepth 100000 in
theorem t_X0_measureRoads_36 {p : Program} {l : Launch} {e : Env} {s : State} {m : MethodId} {args : Array Value} {below : List Frame} {meth : Method} {c : Code} {G : Gw} (X : KC p m meth c cX0_measureRoads 5 s args wz_X0_measureRoads RX0 none G) (Q : Sg → Prop) (K2 : Int32 → Sg → Prop) (hK2 : ∀ (σ : Sg) (x1 : Int32) (H : Heap) (locs : List Loc) (ls : Array Slot), K2 x1 σ → WK G s H locs σ → lv_has ls 5 [(0, .ref (G.1 4)), (1, .int x1)] → W p l e rm_X0_measureRoads s m args below meth c H locs 0 0 (ZV below args s G Q) (F0 m 2 ls [])) : ∀ (σ : Sg) (x1 y1 y2 : Int32) (H : Heap) (locs : List Loc) (ls : Array Slot), wp_X0_measureRoads_36 Q K2 x1 y1 y2 σ → WK G s H locs σ → lv_has ls 5 [(0, .ref (G.1 4)), (1, .int x1)] → W p l e rm_X0_measureRoads s m args below meth c H locs 0 0 (ZV below args s G Q) (F0 m 36 ls [.int y2, .int y1, .ref (G.1 27)]) := by
  have hx := X.1.1
  have hb := X.1.2.1
  intro σ x1 y1 y2 H locs ls hw hk hl
  unfold wp_X0_measureRoads_36 at hw
  refine k_iast X hk (wg_27 G _) (ws_27 G _) rfl hw.1 dX0_measureRoads_36 (fun H locs hk => ?_)
  replace hw := hw.2
  obtain ⟨σ14, eσ14⟩ : ∃ y : Sg, y = (put σ 27 (y1).toNatClampNeg y2) := ⟨_, rfl⟩
  rw [← eσ14] at hk
  replace hw := hw σ14 eσ14
  obtain ⟨x1_15, ex1_15⟩ : ∃ y : Int32, y = (x1 + (1 : Int32)) := ⟨_, rfl⟩
  replace hw := hw x1_15 ex1_15
  refine lv_iinc (v := x1_15) (lv' := [(1, .int x1_15), (0, .ref (G.1 4))]) hx hb dX0_measureRoads_37 hl (k := 1) rfl (by rw [ex1_15]; rfl) (Nat.le_of_ble_eq_true rfl) rfl (fun ls hl => ?_)
  refine lv_goto (tgt := 2) hx hb dX0_measureRoads_40 (by decide) ?_
  exact hK2 _ _ _ _ _ hw hk (lv_sub hl [1, 0] rfl)
def wp_X0_measureRoads_2 (Q : Sg → Prop)  : Nat → Int32 → Sg → Prop
  | 0, _, _ => False
  | n + 1, x1, σ => ((σ 1 0) ≤ x1 → (∃ n0, wp_X0_measureRoads_45 Q  n0 (1 : Int32) σ)) ∧ (¬ ((σ 1 0) ≤ x1) → (wp_X3_fact σ x1 (1 : Int32) (fun r12 σ11 => (r12 ≤ 0 → (wp_X0_measureRoads_36 Q (fun z1 σ => wp_X0_measureRoads_2 Q  n z1 σ) x1 x1 (41 : Int32) σ11)) ∧ (¬ (r12 ≤ 0) → (wp_X0_measureRoads_36 Q (fun z1 σ => wp_X0_measureRoads_2 Q  n z1 σ) x1 x1 (0 : Int32) σ11)))))
set_option maxHeartbeats 4000000 in
set_option maxRecDepth 100000 in
theorem t_X0_measureRoads_2 {p : Program} {l : Launch} {e : Env} {s : State} {m : MethodId} {args : Array Value} {below : List Frame} {meth : Method} {c : Code} {G : Gw} (X : KC p m meth c cX0_measureRoads 5 s args wz_X0_measureRoads RX0 none G) (Q : Sg → Prop)  : ∀ (n : Nat) (σ : Sg) (x1 : Int32) (H : Heap) (locs : List Loc) (ls : Array Slot), wp_X0_measureRoads_2 Q  n x1 σ → WK G s H locs σ → lv_has ls 5 [(0, .ref (G.1 4)), (1, .int x1)] → W p l e rm_X0_measureRoads s m args below meth c H locs 0 0 (ZV below args s G Q) (F0 m 2 ls []) := by
  have hx := X.1.1
  have hb := X.1.2.1
  intro n
  induction n with
  | zero =>
    intro σ x1 H locs ls hw hk hl
    exact False.elim hw
  | succ n ih =>
    intro σ x1 H locs ls hw hk hl
    rw [wp_X0_measureRoads_2] at hw
    refine lv_iload_n hx hb dX0_measureRoads_2 rfl (lv_at hl 1 rfl) ?_
    refine lv_aload_n hx hb dX0_measureRoads_3 rfl (lv_at hl 0 rfl) ?_
    refine k_get 0 X hk (wg_4 G _) rfl (hz_wsX00 _) (Nat.le_of_ble_eq_true rfl) (List.mem_cons_of_mem _ (aw_r4 _ (List.mem_of_getElem? (i := 3) rfl))) rfl dX0_measureRoads_4 ?_
    refine k_get 0 X hk (wg_1 G _) rfl (hz_wsX30 _) (Nat.le_of_ble_eq_true rfl) (List.mem_cons_of_mem _ (aw_r26 _ (List.mem_of_getElem? (i := 14) rfl))) rfl dX0_measureRoads_7 ?_
    refine lv_icmp_ge (tgt := 43) hx hb dX0_measureRoads_10 (by decide) (fun c1 => ?_) (fun c1 => ?_)
    · replace hw := hw.1 c1
      refine lv_iconst (v := (1 : Int32)) hx hb dX0_measureRoads_43 (by decide) ?_
      refine lv_istore_n (lv' := [(1, .int (1 : Int32)), (0, .ref (G.1 4))]) hx hb dX0_measureRoads_44 rfl hl (Nat.le_of_ble_eq_true rfl) rfl (fun ls hl => ?_)
      obtain ⟨n0, hw⟩ := hw
      exact t_X0_measureRoads_45 X Q   n0 _ _ _ _ _ hw hk (lv_sub hl [1, 0] rfl)
    · replace hw := hw.2 c1
      refine lv_aload_n hx hb dX0_measureRoads_13 rfl (lv_at hl 0 rfl) ?_
      refine k_get 13 X hk (wg_4 G _) rfl (hz_wsX00 _) (Nat.le_of_ble_eq_true rfl) (List.mem_cons_of_mem _ (aw_r4 _ (List.mem_of_getElem? (i := 2) rfl))) rfl dX0_measureRoads_14 ?_
      refine lv_iload_n hx hb dX0_measureRoads_17 rfl (lv_at hl 1 rfl) ?_
      refine lv_aload_n hx hb dX0_measureRoads_18 rfl (lv_at hl 0 rfl) ?_
      refine k_get 0 X hk (wg_4 G _) rfl (hz_wsX00 _) (Nat.le_of_ble_eq_true rfl) (List.mem_cons_of_mem _ (aw_r4 _ (List.mem_of_getElem? (i := 3) rfl))) rfl dX0_measureRoads_19 ?_
      refine lv_iload_n hx hb dX0_measureRoads_22 rfl (lv_at hl 1 rfl) ?_
      refine lv_iconst (v := (1 : Int32)) hx hb dX0_measureRoads_23 (by decide) ?_
      refine k_callVi (rest := [.int x1, .ref (G.1 27)]) X hk (c_X3_fact l G _ _ _ _ hw) (cwV 2 X.1.2.2.2.2 (gzV (aw_r26 _ (List.mem_of_getElem? (i := 20) rfl)) (aw_r20 _ (List.mem_of_getElem? (i := 20) rfl)) (aw_r20 _ (List.mem_of_getElem? (i := 21) rfl)) (aw_r1 _ (List.mem_of_getElem? (i := 15) rfl)) (aw_r20 _ (List.mem_of_getElem? (i := 22) rfl))) rfl rfl rfl hd_X3_fact ⟨(Nat.le_of_ble_eq_true rfl), (Nat.le_of_ble_eq_true rfl)⟩) (wg_1 G _) rfl rfl hl.1 rfl (Nat.le_of_ble_eq_true rfl) dX0_measureRoads_24 ⟨Nat.zero_le _, Nat.zero_le _⟩ (fun r12 σ11 H locs hw hk => ?_)
      refine lv_if_le (tgt := 34) hx hb dX0_measureRoads_27 (by decide) (fun c13 => ?_) (fun c13 => ?_)
      · replace hw := hw.1 c13
        refine lv_bipush (v := (41 : Int32)) hx hb dX0_measureRoads_34 (by decide) ?_
        exact t_X0_measureRoads_36 X Q _ ih _ _ _ _ _ _ _ hw hk hl
      · replace hw := hw.2 c13
        refine lv_iconst (v := (0 : Int32)) hx hb dX0_measureRoads_30 (by decide) ?_
        refine lv_goto (tgt := 36) hx hb dX0_measureRoads_31 (by decide) ?_
        exact t_X0_measureRoads_36 X Q _ ih _ _ _ _ _ _ _ hw hk hl
def wp_X0_measureRoads (σ : Sg) (Q : Sg → Prop) : Prop := ∃ n0, wp_X0_measureRoads_2 Q  n0 (0 : Int32) σ
set_option maxHeartbeats 4000000 in
set_option maxRecDepth 100000 in
theorem c_X0_measureRoads (l : Launch) (G : Gw) (σ : Sg) (Q : Sg → Prop) (hw : wp_X0_measureRoads σ  Q) : MetV l yX0_measureRoads wz_X0_measureRoads rm_X0_measureRoads G σ [.ref (G.1 4)] Q := by
  refine MetV.of cX0_measureRoads 5 none (by decide) rfl (Nat.le_of_ble_eq_true rfl) ?_
  intro p e s m below meth c X hk ls hl
  have X : KC p m meth c cX0_measureRoads 5 s _ wz_X0_measureRoads RX0 none G := X
  have hl : lv_has ls 5 [(0, .ref (G.1 4))] := hl
  unfold wp_X0_measureRoads at hw
  have hx := X.1.1
  have hb := X.1.2.1
  refine lv_iconst (v := (0 : Int32)) hx hb dX0_measureRoads_0 (by decide) ?_
  refine lv_istore_n (lv' := [(1, .int (0 : Int32)), (0, .ref (G.1 4))]) hx hb dX0_measureRoads_1 rfl hl (Nat.le_of_ble_eq_true rfl) rfl (fun ls hl => ?_)
  obtain ⟨n0, hw⟩ := hw
  exact t_X0_measureRoads_2 X Q   n0 _ _ _ _ _ hw hk (lv_sub hl [1, 0] rfl)
