def rm_X6_feed : Room := { frames := 1, cells := 0, slots := 0, locals := 22 }
abbrev wz_X6_feed : List Cond := Cond.code yX6_feed cX6_feed 6 (some .int) :: wsA
theorem hd_X6_feed : yX6_feed.cls = RX6 ∧ yX6_feed.cls ≠ "java/lang/invoke/MethodHandle" ∧ yX6_feed.cls ≠ "java/lang/invoke/VarHandle" ∧ (parseMethodDescriptor yX6_feed.desc).map (fun d => d.parameters.length) = some 5 := by decide +kernel
def wp_X6_feed (σ : Sg) (p1 p2 p3 p4 p5 : Int32) (Q : Int32 → Sg → Prop) : Prop := ∀ σ1 : Sg, σ1 = (put σ 30 0 (0 : Int32)) → ((((σ1 30 4) + (20 : Int32)) ≤ (400 : Int32) → (wp_X6_put σ1 p1 (fun σ3 => wp_X6_put σ3 p2 (fun σ5 => wp_X6_put σ5 p3 (fun σ7 => wp_X6_put σ7 p4 (fun σ9 => wp_X6_put σ9 p5 (fun σ11 => Q (σ11 30 4) σ11))))))) ∧ (¬ (((σ1 30 4) + (20 : Int32)) ≤ (400 : Int32)) → (Q (-1 : Int32) σ1)))
set_option maxHeartbeats 4000000 in
set_option maxRecDepth 100000 in
theorem c_X6_feed (l : Launch) (G : Gw) (σ : Sg) (p1 p2 p3 p4 p5 : Int32) (Q : Int32 → Sg → Prop) (hw : wp_X6_feed σ p1 p2 p3 p4 p5 Q) : MetI l yX6_feed wz_X6_feed rm_X6_feed G σ [.ref (G.1 30), .int p1, .int p2, .int p3, .int p4, .int p5] Q := by
  refine MetI.of cX6_feed 6 (some .int) (by decide) rfl (Nat.le_of_ble_eq_true rfl) ?_
  intro p e s m below meth c X hk ls hl
  have X : KC p m meth c cX6_feed 6 s _ wz_X6_feed RX6 (some .int) G := X
  have hl : lv_has ls 6 [(0, .ref (G.1 30)), (1, .int p1), (2, .int p2), (3, .int p3), (4, .int p4), (5, .int p5)] := hl
  unfold wp_X6_feed at hw
  have hx := X.1.1
  have hb := X.1.2.1
  refine lv_aload_n hx hb dX6_feed_0 rfl (lv_at hl 0 rfl) ?_
  refine lv_iconst (v := (0 : Int32)) hx hb dX6_feed_1 (by decide) ?_
  refine k_put 0 X hk (wg_30 G _) rfl (hz_wsX60 _) tyX6_ok nmX6 (Nat.le_of_ble_eq_true rfl) (List.mem_cons_of_mem _ (aw_r6 _ (List.mem_of_getElem? (i := 3) rfl))) rfl rfl (Nat.le_of_ble_eq_true rfl) (ws_30_0 G _ _) dX6_feed_2 (fun H locs hk => ?_)
  obtain ⟨σ1, eσ1⟩ : ∃ y : Sg, y = (put σ 30 0 (0 : Int32)) := ⟨_, rfl⟩
  rw [← eσ1] at hk
  replace hw := hw σ1 eσ1
  refine lv_aload_n hx hb dX6_feed_5 rfl (lv_at hl 0 rfl) ?_
  refine k_get 4 X hk (wg_30 G _) rfl (hz_wsX60 _) (Nat.le_of_ble_eq_true rfl) (List.mem_cons_of_mem _ (aw_r6 _ (List.mem_of_getElem? (i := 4) rfl))) rfl dX6_feed_6 ?_
  refine lv_bipush (v := (20 : Int32)) hx hb dX6_feed_9 (by decide) ?_
  refine lv_iadd hx hb dX6_feed_11 ?_
  refine lv_sipush (v := (400 : Int32)) hx hb dX6_feed_12 (by decide) ?_
  refine lv_icmp_le (tgt := 20) hx hb dX6_feed_15 (by decide) (fun c2 => ?_) (fun c2 => ?_)
  · replace hw := hw.1 c2
    refine lv_aload_n hx hb dX6_feed_20 rfl (lv_at hl 0 rfl) ?_
    refine lv_iload_n hx hb dX6_feed_21 rfl (lv_at hl 1 rfl) ?_
    refine k_callVv (rest := []) X hk (c_X6_put l G _ _ _ hw) (cwV 1 X.1.2.2.2.2 (gzV (aw_r6 _ (List.mem_of_getElem? (i := 5) rfl)) (aw_r6 _ (List.mem_of_getElem? (i := 6) rfl)) (aw_r6 _ (List.mem_of_getElem? (i := 7) rfl)) (aw_r1 _ (List.mem_of_getElem? (i := 5) rfl)) (aw_r6 _ (List.mem_of_getElem? (i := 8) rfl))) rfl rfl rfl hd_X6_put ⟨(Nat.le_of_ble_eq_true rfl), (Nat.le_of_ble_eq_true rfl)⟩) (wg_30 G _) rfl rfl hl.1 rfl (Nat.le_of_ble_eq_true rfl) dX6_feed_22 ⟨Nat.zero_le _, Nat.zero_le _⟩ (fun σ3 H locs hw hk => ?_)
    refine lv_aload_n hx hb dX6_feed_25 rfl (lv_at hl 0 rfl) ?_
    refine lv_iload_n hx hb dX6_feed_26 rfl (lv_at hl 2 rfl) ?_
    refine k_callVv (rest := []) X hk (c_X6_put l G _ _ _ hw) (cwV 1 X.1.2.2.2.2 (gzV (aw_r6 _ (List.mem_of_getElem? (i := 5) rfl)) (aw_r6 _ (List.mem_of_getElem? (i := 6) rfl)) (aw_r6 _ (List.mem_of_getElem? (i := 7) rfl)) (aw_r1 _ (List.mem_of_getElem? (i := 5) rfl)) (aw_r6 _ (List.mem_of_getElem? (i := 8) rfl))) rfl rfl rfl hd_X6_put ⟨(Nat.le_of_ble_eq_true rfl), (Nat.le_of_ble_eq_true rfl)⟩) (wg_30 G _) rfl rfl hl.1 rfl (Nat.le_of_ble_eq_true rfl) dX6_feed_27 ⟨Nat.zero_le _, Nat.zero_le _⟩ (fun σ5 H locs hw hk => ?_)
    refine lv_aload_n hx hb dX6_feed_30 rfl (lv_at hl 0 rfl) ?_
    refine lv_iload_n hx hb dX6_feed_31 rfl (lv_at hl 3 rfl) ?_
    refine k_callVv (rest := []) X hk (c_X6_put l G _ _ _ hw) (cwV 1 X.1.2.2.2.2 (gzV (aw_r6 _ (List.mem_of_getElem? (i := 5) rfl)) (aw_r6 _ (List.mem_of_getElem? (i := 6) rfl)) (aw_r6 _ (List.mem_of_getElem? (i := 7) rfl)) (aw_r1 _ (List.mem_of_getElem? (i := 5) rfl)) (aw_r6 _ (List.mem_of_getElem? (i := 8) rfl))) rfl rfl rfl hd_X6_put ⟨(Nat.le_of_ble_eq_true rfl), (Nat.le_of_ble_eq_true rfl)⟩) (wg_30 G _) rfl rfl hl.1 rfl (Nat.le_of_ble_eq_true rfl) dX6_feed_32 ⟨Nat.zero_le _, Nat.zero_le _⟩ (fun σ7 H locs hw hk => ?_)
    refine lv_aload_n hx hb dX6_feed_35 rfl (lv_at hl 0 rfl) ?_
    refine lv_iload hx hb dX6_feed_36 (lv_at hl 4 rfl) ?_
    refine k_callVv (rest := []) X hk (c_X6_put l G _ _ _ hw) (cwV 1 X.1.2.2.2.2 (gzV (aw_r6 _ (List.mem_of_getElem? (i := 5) rfl)) (aw_r6 _ (List.mem_of_getElem? (i := 6) rfl)) (aw_r6 _ (List.mem_of_getElem? (i := 7) rfl)) (aw_r1 _ (List.mem_of_getElem? (i := 5) rfl)) (aw_r6 _ (List.mem_of_getElem? (i := 8) rfl))) rfl rfl rfl hd_X6_put ⟨(Nat.le_of_ble_eq_true rfl), (Nat.le_of_ble_eq_true rfl)⟩) (wg_30 G _) rfl rfl hl.1 rfl (Nat.le_of_ble_eq_true rfl) dX6_feed_38 ⟨Nat.zero_le _, Nat.zero_le _⟩ (fun σ9 H locs hw hk => ?_)
    refine lv_aload_n hx hb dX6_feed_41 rfl (lv_at hl 0 rfl) ?_
    refine lv_iload hx hb dX6_feed_42 (lv_at hl 5 rfl) ?_
    refine k_callVv (rest := []) X hk (c_X6_put l G _ _ _ hw) (cwV 1 X.1.2.2.2.2 (gzV (aw_r6 _ (List.mem_of_getElem? (i := 5) rfl)) (aw_r6 _ (List.mem_of_getElem? (i := 6) rfl)) (aw_r6 _ (List.mem_of_getElem? (i := 7) rfl)) (aw_r1 _ (List.mem_of_getElem? (i := 5) rfl)) (aw_r6 _ (List.mem_of_getElem? (i := 8) rfl))) rfl rfl rfl hd_X6_put ⟨(Nat.le_of_ble_eq_true rfl), (Nat.le_of_ble_eq_true rfl)⟩) (wg_30 G _) rfl rfl hl.1 rfl (Nat.le_of_ble_eq_true rfl) dX6_feed_44 ⟨Nat.zero_le _, Nat.zero_le _⟩ (fun σ11 H locs hw hk => ?_)
    refine lv_aload_n hx hb dX6_feed_47 rfl (lv_at hl 0 rfl) ?_
    refine k_get 4 X hk (wg_30 G _) rfl (hz_wsX60 _) (Nat.le_of_ble_eq_true rfl) (List.mem_cons_of_mem _ (aw_r6 _ (List.mem_of_getElem? (i := 4) rfl))) rfl dX6_feed_48 ?_
    exact k_iret X hk hw dX6_feed_51
  · replace hw := hw.2 c2
    refine lv_iconst (v := (-1 : Int32)) hx hb dX6_feed_18 (by decide) ?_
    exact k_iret X hk hw dX6_feed_19
def rm_X6_end : Room := { frames := 1, cells := 0, slots := 0, locals := 22 }
abbrev wz_X6_end : List Cond := Cond.code yX6_end cX6_end 2 (some .boolean) :: wsA
theorem hd_X6_end : yX6_end.cls = RX6 ∧ yX6_end.cls ≠ "java/lang/invoke/MethodHandle" ∧ yX6_end.cls ≠ "java/lang/invoke/VarHandle" ∧ (parseMethodDescriptor yX6_end.desc).map (fun d => d.parameters.length) = some 1 := by decide +kernel
def wp_X6_end (σ : Sg) (p1 : Int32) (Q : Int32 → Sg → Prop) : Prop := ∀ σ1 : Sg, σ1 = (put σ 30 0 (0 : Int32)) → (wp_X6_isIn σ1 p1 (0 : Int32) (σ1 30 4) (fun r3 σ2 => (r3 = 0 → (bz (0 : Int32) ∧ Q (0 : Int32) σ2)) ∧ (¬ (r3 = 0) → (∀ σ5 : Sg, σ5 = (put σ2 30 4 p1) → (bz (1 : Int32) ∧ Q (1 : Int32) σ5)))))
set_option maxHeartbeats 4000000 in
set_option maxRecDepth 100000 in
theorem c_X6_end (l : Launch) (G : Gw) (σ : Sg) (p1 : Int32) (Q : Int32 → Sg → Prop) (hw : wp_X6_end σ p1 Q) : MetI l yX6_end wz_X6_end rm_X6_end G σ [.ref (G.1 30), .int p1] Q := by
  refine MetI.of cX6_end 2 (some .boolean) (by decide) rfl (Nat.le_of_ble_eq_true rfl) ?_
  intro p e s m below meth c X hk ls hl
  have X : KC p m meth c cX6_end 2 s _ wz_X6_end RX6 (some .boolean) G := X
  have hl : lv_has ls 2 [(0, .ref (G.1 30)), (1, .int p1)] := hl
  unfold wp_X6_end at hw
  have hx := X.1.1
  have hb := X.1.2.1
  refine lv_aload_n hx hb dX6_end_0 rfl (lv_at hl 0 rfl) ?_
  refine lv_iconst (v := (0 : Int32)) hx hb dX6_end_1 (by decide) ?_
  refine k_put 0 X hk (wg_30 G _) rfl (hz_wsX60 _) tyX6_ok nmX6 (Nat.le_of_ble_eq_true rfl) (List.mem_cons_of_mem _ (aw_r6 _ (List.mem_of_getElem? (i := 3) rfl))) rfl rfl (Nat.le_of_ble_eq_true rfl) (ws_30_0 G _ _) dX6_end_2 (fun H locs hk => ?_)
  obtain ⟨σ1, eσ1⟩ : ∃ y : Sg, y = (put σ 30 0 (0 : Int32)) := ⟨_, rfl⟩
  rw [← eσ1] at hk
  replace hw := hw σ1 eσ1
  refine lv_iload_n hx hb dX6_end_5 rfl (lv_at hl 1 rfl) ?_
  refine lv_iconst (v := (0 : Int32)) hx hb dX6_end_6 (by decide) ?_
  refine lv_aload_n hx hb dX6_end_7 rfl (lv_at hl 0 rfl) ?_
  refine k_get 4 X hk (wg_30 G _) rfl (hz_wsX60 _) (Nat.le_of_ble_eq_true rfl) (List.mem_cons_of_mem _ (aw_r6 _ (List.mem_of_getElem? (i := 4) rfl))) rfl dX6_end_8 ?_
  refine k_callSi (rest := []) X hk (c_X6_isIn l G _ _ _ _ _ hw) (va_cwS 3 X.1.2.2.2.2 (gzS (aw_r6 _ (List.mem_of_getElem? (i := 17) rfl)) (aw_r6 _ (List.mem_of_getElem? (i := 18) rfl)) (aw_r1 _ (List.mem_of_getElem? (i := 5) rfl)) (aw_r6 _ (List.mem_of_getElem? (i := 19) rfl))) rfl rfl rfl hds_X6_isIn ⟨(Nat.le_of_ble_eq_true rfl), (Nat.le_of_ble_eq_true rfl)⟩) rfl hl.1 rfl (Nat.le_of_ble_eq_true rfl) dX6_end_11 ⟨Nat.zero_le _, Nat.zero_le _⟩ (fun r3 σ2 H locs hw hk => ?_)
  refine lv_if_ne (tgt := 19) hx hb dX6_end_14 (by decide) (fun c4 => ?_) (fun c4 => ?_)
  · replace hw := hw.2 c4
    refine lv_aload_n hx hb dX6_end_19 rfl (lv_at hl 0 rfl) ?_
    refine lv_iload_n hx hb dX6_end_20 rfl (lv_at hl 1 rfl) ?_
    refine k_put 4 X hk (wg_30 G _) rfl (hz_wsX60 _) tyX6_ok nmX6 (Nat.le_of_ble_eq_true rfl) (List.mem_cons_of_mem _ (aw_r6 _ (List.mem_of_getElem? (i := 4) rfl))) rfl rfl (Nat.le_of_ble_eq_true rfl) (ws_30_4 G _ _) dX6_end_21 (fun H locs hk => ?_)
    obtain ⟨σ5, eσ5⟩ : ∃ y : Sg, y = (put σ2 30 4 p1) := ⟨_, rfl⟩
    rw [← eσ5] at hk
    replace hw := hw σ5 eσ5
    refine lv_iconst (v := (1 : Int32)) hx hb dX6_end_24 (by decide) ?_
    exact k_zret X hk hw dX6_end_25
  · replace hw := hw.1 c4
    refine lv_iconst (v := (0 : Int32)) hx hb dX6_end_17 (by decide) ?_
    exact k_zret X hk hw dX6_end_18
def rm_X6_here : Room := { frames := 0, cells := 0, slots := 0, locals := 0 }
abbrev wz_X6_here : List Cond := Cond.code yX6_here cX6_here 1 (some .int) :: wsA
theorem hd_X6_here : yX6_here.cls = RX6 ∧ yX6_here.cls ≠ "java/lang/invoke/MethodHandle" ∧ yX6_here.cls ≠ "java/lang/invoke/VarHandle" ∧ (parseMethodDescriptor yX6_here.desc).map (fun d => d.parameters.length) = some 0 := by decide +kernel
def wp_X6_here_52 (Q : Int32 → Sg → Prop)  (σ : Sg) : Prop := ((σ 30 6) ≤ (σ 30 7) → (Q (-1 : Int32) σ)) ∧ (¬ ((σ 30 6) ≤ (σ 30 7)) → (vp_in (σ 30 7) 400 ∧ (Q ((σ 33 ((σ 30 7)).toNatClampNeg) &&& (255 : Int32)) σ)))
set_option maxHeartbeats 4000000 in
set_option maxRecDepth 100000 in
theorem t_X6_here_52 {p : Program} {l : Launch} {e : Env} {s : State} {m : MethodId} {args : Array Value} {below : List Frame} {meth : Method} {c : Code} {G : Gw} (X : KC p m meth c cX6_here 1 s args wz_X6_here RX6 (some .int) G) (Q : Int32 → Sg → Prop)  : ∀ (σ : Sg) (H : Heap) (locs : List Loc) (ls : Array Slot), wp_X6_here_52 Q   σ → WK G s H locs σ → lv_has ls 1 [(0, .ref (G.1 30))] → W p l e rm_X6_here s m args below meth c H locs 0 0 (ZI below args s G Q) (F0 m 52 ls []) := by
  have hx := X.1.1
  have hb := X.1.2.1
  intro σ H locs ls hw hk hl
  unfold wp_X6_here_52 at hw
  refine lv_aload_n hx hb dX6_here_52 rfl (lv_at hl 0 rfl) ?_
  refine k_get 7 X hk (wg_30 G _) rfl (hz_wsX60 _) (Nat.le_of_ble_eq_true rfl) (List.mem_cons_of_mem _ (aw_r14 _ (List.mem_of_getElem? (i := 13) rfl))) rfl dX6_here_53 ?_
  refine lv_aload_n hx hb dX6_here_56 rfl (lv_at hl 0 rfl) ?_
  refine k_get 6 X hk (wg_30 G _) rfl (hz_wsX60 _) (Nat.le_of_ble_eq_true rfl) (List.mem_cons_of_mem _ (aw_r14 _ (List.mem_of_getElem? (i := 11) rfl))) rfl dX6_here_57 ?_
  refine lv_icmp_ge (tgt := 79) hx hb dX6_here_60 (by decide) (fun c2 => ?_) (fun c2 => ?_)
  · replace hw := hw.1 c2
    refine lv_iconst (v := (-1 : Int32)) hx hb dX6_here_79 (by decide) ?_
    exact k_iret X hk hw dX6_here_80
  · replace hw := hw.2 c2
    refine lv_aload_n hx hb dX6_here_63 rfl (lv_at hl 0 rfl) ?_
    refine k_get 3 X hk (wg_30 G _) rfl (hz_wsX60 _) (Nat.le_of_ble_eq_true rfl) (List.mem_cons_of_mem _ (aw_r4 _ (List.mem_of_getElem? (i := 18) rfl))) rfl dX6_here_64 ?_
    refine lv_aload_n hx hb dX6_here_67 rfl (lv_at hl 0 rfl) ?_
    refine k_get 7 X hk (wg_30 G _) rfl (hz_wsX60 _) (Nat.le_of_ble_eq_true rfl) (List.mem_cons_of_mem _ (aw_r14 _ (List.mem_of_getElem? (i := 13) rfl))) rfl dX6_here_68 ?_
    refine k_bald X hk (wg_33 G _) hw.1 dX6_here_71 ?_
    replace hw := hw.2
    refine lv_sipush (v := (255 : Int32)) hx hb dX6_here_72 (by decide) ?_
    refine lv_iand hx hb dX6_here_75 ?_
    refine lv_goto (tgt := 80) hx hb dX6_here_76 (by decide) ?_
    exact k_iret X hk hw dX6_here_80
def wp_X6_here_39 (Q : Int32 → Sg → Prop) (K0 : Sg → Prop) (σ : Sg) : Prop := ∀ σ4 : Sg, σ4 = (put σ 30 7 ((σ 30 7) + (1 : Int32))) → (K0  σ4)
set_option maxHeartbeats 4000000 in
set_option maxRecDepth 100000 in
theorem t_X6_here_39 {p : Program} {l : Launch} {e : Env} {s : State} {m : MethodId} {args : Array Value} {below : List Frame} {meth : Method} {c : Code} {G : Gw} (X : KC p m meth c cX6_here 1 s args wz_X6_here RX6 (some .int) G) (Q : Int32 → Sg → Prop) (K0 : Sg → Prop) (hK0 : ∀ (σ : Sg) (H : Heap) (locs : List Loc) (ls : Array Slot), K0  σ → WK G s H locs σ → lv_has ls 1 [(0, .ref (G.1 30))] → W p l e rm_X6_here s m args below meth c H locs 0 0 (ZI below args s G Q) (F0 m 0 ls [])) : ∀ (σ : Sg) (H : Heap) (locs : List Loc) (ls : Array Slot), wp_X6_here_39 Q K0  σ → WK G s H locs σ → lv_has ls 1 [(0, .ref (G.1 30))] → W p l e rm_X6_here s m args below meth c H locs 0 0 (ZI below args s G Q) (F0 m 39 ls []) := by
  have hx := X.1.1
  have hb := X.1.2.1
  intro σ H locs ls hw hk hl
  unfold wp_X6_here_39 at hw
  refine lv_aload_n hx hb dX6_here_39 rfl (lv_at hl 0 rfl) ?_
  refine lv_dup hx hb dX6_here_40 rfl ?_
  refine k_get 7 X hk (wg_30 G _) rfl (hz_wsX60 _) (Nat.le_of_ble_eq_true rfl) (List.mem_cons_of_mem _ (aw_r14 _ (List.mem_of_getElem? (i := 13) rfl))) rfl dX6_here_41 ?_
  refine lv_iconst (v := (1 : Int32)) hx hb dX6_here_44 (by decide) ?_
  refine lv_iadd hx hb dX6_here_45 ?_
  refine k_put 7 X hk (wg_30 G _) rfl (hz_wsX60 _) tyX6_ok nmX6 (Nat.le_of_ble_eq_true rfl) (List.mem_cons_of_mem _ (aw_r14 _ (List.mem_of_getElem? (i := 13) rfl))) rfl rfl (Nat.le_of_ble_eq_true rfl) (ws_30_7 G _ _) dX6_here_46 (fun H locs hk => ?_)
  obtain ⟨σ4, eσ4⟩ : ∃ y : Sg, y = (put σ 30 7 ((σ 30 7) + (1 : Int32))) := ⟨_, rfl⟩
  rw [← eσ4] at hk
  replace hw := hw σ4 eσ4
  refine lv_goto (tgt := 0) hx hb dX6_here_49 (by decide) ?_
  exact hK0 _  _ _ _ hw hk hl
def wp_X6_here_0 (Q : Int32 → Sg → Prop)  : Nat → Sg → Prop
  | 0, _ => False
  | n + 1, σ => ((σ 30 6) ≤ (σ 30 7) → (wp_X6_here_52 Q   σ)) ∧ (¬ ((σ 30 6) ≤ (σ 30 7)) → (vp_in (σ 30 7) 400 ∧ (((σ 33 ((σ 30 7)).toNatClampNeg) = (32 : Int32) → (wp_X6_here_39 Q (fun σ => wp_X6_here_0 Q  n σ)  σ)) ∧ (¬ ((σ 33 ((σ 30 7)).toNatClampNeg) = (32 : Int32)) → (vp_in (σ 30 7) 400 ∧ (((σ 33 ((σ 30 7)).toNatClampNeg) = (10 : Int32) → (wp_X6_here_39 Q (fun σ => wp_X6_here_0 Q  n σ)  σ)) ∧ (¬ ((σ 33 ((σ 30 7)).toNatClampNeg) = (10 : Int32)) → (wp_X6_here_52 Q   σ))))))))
set_option maxHeartbeats 4000000 in
set_option maxRecDepth 100000 in
theorem t_X6_here_0 {p : Program} {l : Launch} {e : Env} {s : State} {m : MethodId} {args : Array Value} {below : List Frame} {meth : Method} {c : Code} {G : Gw} (X : KC p m meth c cX6_here 1 s args wz_X6_here RX6 (some .int) G) (Q : Int32 → Sg → Prop)  : ∀ (n : Nat) (σ : Sg) (H : Heap) (locs : List Loc) (ls : Array Slot), wp_X6_here_0 Q  n  σ → WK G s H locs σ → lv_has ls 1 [(0, .ref (G.1 30))] → W p l e rm_X6_here s m args below meth c H locs 0 0 (ZI below args s G Q) (F0 m 0 ls []) := by
  have hx := X.1.1
  have hb := X.1.2.1
  intro n
  induction n with
  | zero =>
    intro σ H locs ls hw hk hl
    exact False.elim hw
  | succ n ih =>
    intro σ H locs ls hw hk hl
    rw [wp_X6_here_0] at hw
    refine lv_aload_n hx hb dX6_here_0 rfl (lv_at hl 0 rfl) ?_
    refine k_get 7 X hk (wg_30 G _) rfl (hz_wsX60 _) (Nat.le_of_ble_eq_true rfl) (List.mem_cons_of_mem _ (aw_r14 _ (List.mem_of_getElem? (i := 13) rfl))) rfl dX6_here_1 ?_
    refine lv_aload_n hx hb dX6_here_4 rfl (lv_at hl 0 rfl) ?_
    refine k_get 6 X hk (wg_30 G _) rfl (hz_wsX60 _) (Nat.le_of_ble_eq_true rfl) (List.mem_cons_of_mem _ (aw_r14 _ (List.mem_of_getElem? (i := 11) rfl))) rfl dX6_here_5 ?_
    refine lv_icmp_ge (tgt := 52) hx hb dX6_here_8 (by decide) (fun c1 => ?_) (fun c1 => ?_)
    · replace hw := hw.1 c1
      exact t_X6_here_52 X Q   _  _ _ _ hw hk hl
    · replace hw := hw.2 c1
      refine lv_aload_n hx hb dX6_here_11 rfl (lv_at hl 0 rfl) ?_
      refine k_get 3 X hk (wg_30 G _) rfl (hz_wsX60 _) (Nat.le_of_ble_eq_true rfl) (List.mem_cons_of_mem _ (aw_r4 _ (List.mem_of_getElem? (i := 18) rfl))) rfl dX6_here_12 ?_
      refine lv_aload_n hx hb dX6_here_15 rfl (lv_at hl 0 rfl) ?_
      refine k_get 7 X hk (wg_30 G _) rfl (hz_wsX60 _) (Nat.le_of_ble_eq_true rfl) (List.mem_cons_of_mem _ (aw_r14 _ (List.mem_of_getElem? (i := 13) rfl))) rfl dX6_here_16 ?_
      refine k_bald X hk (wg_33 G _) hw.1 dX6_here_19 ?_
      replace hw := hw.2
      refine lv_bipush (v := (32 : Int32)) hx hb dX6_here_20 (by decide) ?_
      refine lv_icmp_eq (tgt := 39) hx hb dX6_here_22 (by decide) (fun c3 => ?_) (fun c3 => ?_)
      · replace hw := hw.1 c3
        exact t_X6_here_39 X Q _ ih _  _ _ _ hw hk hl
      · replace hw := hw.2 c3
        refine lv_aload_n hx hb dX6_here_25 rfl (lv_at hl 0 rfl) ?_
        refine k_get 3 X hk (wg_30 G _) rfl (hz_wsX60 _) (Nat.le_of_ble_eq_true rfl) (List.mem_cons_of_mem _ (aw_r4 _ (List.mem_of_getElem? (i := 18) rfl))) rfl dX6_here_26 ?_
        refine lv_aload_n hx hb dX6_here_29 rfl (lv_at hl 0 rfl) ?_
        refine k_get 7 X hk (wg_30 G _) rfl (hz_wsX60 _) (Nat.le_of_ble_eq_true rfl) (List.mem_cons_of_mem _ (aw_r14 _ (List.mem_of_getElem? (i := 13) rfl))) rfl dX6_here_30 ?_
        refine k_bald X hk (wg_33 G _) hw.1 dX6_here_33 ?_
        replace hw := hw.2
        refine lv_bipush (v := (10 : Int32)) hx hb dX6_here_34 (by decide) ?_
        refine lv_icmp_ne (tgt := 52) hx hb dX6_here_36 (by decide) (fun c5 => ?_) (fun c5 => ?_)
        · replace hw := hw.2 c5
          exact t_X6_here_52 X Q   _  _ _ _ hw hk hl
        · replace hw := hw.1 c5
          exact t_X6_here_39 X Q _ ih _  _ _ _ hw hk hl
def wp_X6_here (σ : Sg) (Q : Int32 → Sg → Prop) : Prop := ∃ n0, wp_X6_here_0 Q  n0  σ
set_option maxHeartbeats 4000000 in
set_option maxRecDepth 100000 in
theorem c_X6_here (l : Launch) (G : Gw) (σ : Sg) (Q : Int32 → Sg → Prop) (hw : wp_X6_here σ  Q) : MetI l yX6_here wz_X6_here rm_X6_here G σ [.ref (G.1 30)] Q := by
  refine MetI.of cX6_here 1 (some .int) (by decide) rfl (Nat.le_of_ble_eq_true rfl) ?_
  intro p e s m below meth c X hk ls hl
  have X : KC p m meth c cX6_here 1 s _ wz_X6_here RX6 (some .int) G := X
  have hl : lv_has ls 1 [(0, .ref (G.1 30))] := hl
  unfold wp_X6_here at hw
  have hx := X.1.1
  have hb := X.1.2.1
  obtain ⟨n0, hw⟩ := hw
  exact t_X6_here_0 X Q   n0 _  _ _ _ hw hk hl
def rm_X6_fails : Room := { frames := 0, cells := 0, slots := 0, locals := 0 }
abbrev wz_X6_fails : List Cond := Cond.code yX6_fails cX6_fails 3 none :: wsA
theorem hd_X6_fails : yX6_fails.cls = RX6 ∧ yX6_fails.cls ≠ "java/lang/invoke/MethodHandle" ∧ yX6_fails.cls ≠ "java/lang/invoke/VarHandle" ∧ (parseMethodDescriptor yX6_fails.desc).map (fun d => d.parameters.length) = some 2 := by decide +kernel
def wp_X6_fails (σ : Sg) (p1 p2 : Int32) (Q : Sg → Prop) : Prop := ((σ 30 5) = 0 → (∀ σ2 : Sg, σ2 = (put σ 30 5 (p1 + ((8 : Int32) * p2))) → (Q σ2))) ∧ (¬ ((σ 30 5) = 0) → (Q σ))
set_option maxHeartbeats 4000000 in
set_option maxRecDepth 100000 in
theorem c_X6_fails (l : Launch) (G : Gw) (σ : Sg) (p1 p2 : Int32) (Q : Sg → Prop) (hw : wp_X6_fails σ p1 p2 Q) : MetV l yX6_fails wz_X6_fails rm_X6_fails G σ [.ref (G.1 30), .int p1, .int p2] Q := by
  refine MetV.of cX6_fails 3 none (by decide) rfl (Nat.le_of_ble_eq_true rfl) ?_
  intro p e s m below meth c X hk ls hl
  have X : KC p m meth c cX6_fails 3 s _ wz_X6_fails RX6 none G := X
  have hl : lv_has ls 3 [(0, .ref (G.1 30)), (1, .int p1), (2, .int p2)] := hl
  unfold wp_X6_fails at hw
  have hx := X.1.1
  have hb := X.1.2.1
  refine lv_aload_n hx hb dX6_fails_0 rfl (lv_at hl 0 rfl) ?_
  refine k_get 5 X hk (wg_30 G _) rfl (hz_wsX60 _) (Nat.le_of_ble_eq_true rfl) (List.mem_cons_of_mem _ (aw_r14 _ (List.mem_of_getElem? (i := 12) rfl))) rfl dX6_fails_1 ?_
  refine lv_if_ne (tgt := 17) hx hb dX6_fails_4 (by decide) (fun c1 => ?_) (fun c1 => ?_)
  · replace hw := hw.2 c1
    exact k_vret X hk hw dX6_fails_17
  · replace hw := hw.1 c1
    refine lv_aload_n hx hb dX6_fails_7 rfl (lv_at hl 0 rfl) ?_
    refine lv_iload_n hx hb dX6_fails_8 rfl (lv_at hl 1 rfl) ?_
    refine lv_bipush (v := (8 : Int32)) hx hb dX6_fails_9 (by decide) ?_
    refine lv_iload_n hx hb dX6_fails_11 rfl (lv_at hl 2 rfl) ?_
    refine lv_imul hx hb dX6_fails_12 ?_
    refine lv_iadd hx hb dX6_fails_13 ?_
    refine k_put 5 X hk (wg_30 G _) rfl (hz_wsX60 _) tyX6_ok nmX6 (Nat.le_of_ble_eq_true rfl) (List.mem_cons_of_mem _ (aw_r14 _ (List.mem_of_getElem? (i := 12) rfl))) rfl rfl (Nat.le_of_ble_eq_true rfl) (ws_30_5 G _ _) dX6_fails_14 (fun H locs hk => ?_)
    obtain ⟨σ2, eσ2⟩ : ∃ y : Sg, y = (put σ 30 5 (p1 + ((8 : Int32) * p2))) := ⟨_, rfl⟩
    rw [← eσ2] at hk
    replace hw := hw σ2 eσ2
    exact k_vret X hk hw dX6_fails_17
def rm_X6_isDigitAt : Room := { frames := 1, cells := 0, slots := 0, locals := 22 }
abbrev wz_X6_isDigitAt : List Cond := Cond.code yX6_isDigitAt cX6_isDigitAt 2 (some .boolean) :: wsA
theorem hd_X6_isDigitAt : yX6_isDigitAt.cls = RX6 ∧ yX6_isDigitAt.cls ≠ "java/lang/invoke/MethodHandle" ∧ yX6_isDigitAt.cls ≠ "java/lang/invoke/VarHandle" ∧ (parseMethodDescriptor yX6_isDigitAt.desc).map (fun d => d.parameters.length) = some 1 := by decide +kernel
def wp_X6_isDigitAt (σ : Sg) (p1 : Int32) (Q : Int32 → Sg → Prop) : Prop := ((σ 30 6) ≤ p1 → (bz (0 : Int32) ∧ Q (0 : Int32) σ)) ∧ (¬ ((σ 30 6) ≤ p1) → (vp_in p1 400 ∧ (wp_X6_isIn σ (σ 33 (p1).toNatClampNeg) (48 : Int32) (57 : Int32) (fun r3 σ2 => (r3 = 0 → (bz (0 : Int32) ∧ Q (0 : Int32) σ2)) ∧ (¬ (r3 = 0) → (bz (1 : Int32) ∧ Q (1 : Int32) σ2))))))
set_option maxHeartbeats 4000000 in
set_option maxRecDepth 100000 in
theorem c_X6_isDigitAt (l : Launch) (G : Gw) (σ : Sg) (p1 : Int32) (Q : Int32 → Sg → Prop) (hw : wp_X6_isDigitAt σ p1 Q) : MetI l yX6_isDigitAt wz_X6_isDigitAt rm_X6_isDigitAt G σ [.ref (G.1 30), .int p1] Q := by
  refine MetI.of cX6_isDigitAt 2 (some .boolean) (by decide) rfl (Nat.le_of_ble_eq_true rfl) ?_
  intro p e s m below meth c X hk ls hl
  have X : KC p m meth c cX6_isDigitAt 2 s _ wz_X6_isDigitAt RX6 (some .boolean) G := X
  have hl : lv_has ls 2 [(0, .ref (G.1 30)), (1, .int p1)] := hl
  unfold wp_X6_isDigitAt at hw
  have hx := X.1.1
  have hb := X.1.2.1
  refine lv_iload_n hx hb dX6_isDigitAt_0 rfl (lv_at hl 1 rfl) ?_
  refine lv_aload_n hx hb dX6_isDigitAt_1 rfl (lv_at hl 0 rfl) ?_
  refine k_get 6 X hk (wg_30 G _) rfl (hz_wsX60 _) (Nat.le_of_ble_eq_true rfl) (List.mem_cons_of_mem _ (aw_r14 _ (List.mem_of_getElem? (i := 11) rfl))) rfl dX6_isDigitAt_2 ?_
  refine lv_icmp_ge (tgt := 28) hx hb dX6_isDigitAt_5 (by decide) (fun c1 => ?_) (fun c1 => ?_)
  · replace hw := hw.1 c1
    refine lv_iconst (v := (0 : Int32)) hx hb dX6_isDigitAt_28 (by decide) ?_
    exact k_zret X hk hw dX6_isDigitAt_29
  · replace hw := hw.2 c1
    refine lv_aload_n hx hb dX6_isDigitAt_8 rfl (lv_at hl 0 rfl) ?_
    refine k_get 3 X hk (wg_30 G _) rfl (hz_wsX60 _) (Nat.le_of_ble_eq_true rfl) (List.mem_cons_of_mem _ (aw_r4 _ (List.mem_of_getElem? (i := 18) rfl))) rfl dX6_isDigitAt_9 ?_
    refine lv_iload_n hx hb dX6_isDigitAt_12 rfl (lv_at hl 1 rfl) ?_
    refine k_bald X hk (wg_33 G _) hw.1 dX6_isDigitAt_13 ?_
    replace hw := hw.2
    refine lv_bipush (v := (48 : Int32)) hx hb dX6_isDigitAt_14 (by decide) ?_
    refine lv_bipush (v := (57 : Int32)) hx hb dX6_isDigitAt_16 (by decide) ?_
    refine k_callSi (rest := []) X hk (c_X6_isIn l G _ _ _ _ _ hw) (va_cwS 3 X.1.2.2.2.2 (gzS (aw_r6 _ (List.mem_of_getElem? (i := 17) rfl)) (aw_r6 _ (List.mem_of_getElem? (i := 18) rfl)) (aw_r1 _ (List.mem_of_getElem? (i := 5) rfl)) (aw_r6 _ (List.mem_of_getElem? (i := 19) rfl))) rfl rfl rfl hds_X6_isIn ⟨(Nat.le_of_ble_eq_true rfl), (Nat.le_of_ble_eq_true rfl)⟩) rfl hl.1 rfl (Nat.le_of_ble_eq_true rfl) dX6_isDigitAt_18 ⟨Nat.zero_le _, Nat.zero_le _⟩ (fun r3 σ2 H locs hw hk => ?_)
    refine lv_if_eq (tgt := 28) hx hb dX6_isDigitAt_21 (by decide) (fun c4 => ?_) (fun c4 => ?_)
    · replace hw := hw.1 c4
      refine lv_iconst (v := (0 : Int32)) hx hb dX6_isDigitAt_28 (by decide) ?_
      exact k_zret X hk hw dX6_isDigitAt_29
    · replace hw := hw.2 c4
      refine lv_iconst (v := (1 : Int32)) hx hb dX6_isDigitAt_24 (by decide) ?_
      refine lv_goto (tgt := 29) hx hb dX6_isDigitAt_25 (by decide) ?_
      exact k_zret X hk hw dX6_isDigitAt_29
def rm_X6_number : Room := { frames := 2, cells := 0, slots := 0, locals := 43 }
abbrev wz_X6_number : List Cond := Cond.code yX6_number cX6_number 4 (some .int) :: wsA
theorem hd_X6_number : yX6_number.cls = RX6 ∧ yX6_number.cls ≠ "java/lang/invoke/MethodHandle" ∧ yX6_number.cls ≠ "java/lang/invoke/VarHandle" ∧ (parseMethodDescriptor yX6_number.desc).map (fun d => d.parameters.length) = some 0 := by decide +kernel
def wp_X6_number_167 (Q : Int32 → Sg → Prop)  (x1 x3 : Int32) (σ : Sg) : Prop := (x1 = 0 → (Q x3 σ)) ∧ (¬ (x1 = 0) → (Q (-x3) σ))
set_option maxHeartbeats 4000000 in
set_option maxRecDepth 100000 in
theorem t_X6_number_167 {p : Program} {l : Launch} {e : Env} {s : State} {m : MethodId} {args : Array Value} {below : List Frame} {meth : Method} {c : Code} {G : Gw} (X : KC p m meth c cX6_number 4 s args wz_X6_number RX6 (some .int) G) (Q : Int32 → Sg → Prop)  : ∀ (σ : Sg) (x1 x3 : Int32) (H : Heap) (locs : List Loc) (ls : Array Slot), wp_X6_number_167 Q  x1 x3 σ → WK G s H locs σ → lv_has ls 4 [(1, .int x1), (3, .int x3)] → W p l e rm_X6_number s m args below meth c H locs 0 0 (ZI below args s G Q) (F0 m 167 ls []) := by
  have hx := X.1.1
  have hb := X.1.2.1
  intro σ x1 x3 H locs ls hw hk hl
  unfold wp_X6_number_167 at hw
  refine lv_iload_n hx hb dX6_number_167 rfl (lv_at hl 0 rfl) ?_
  refine lv_if_eq (tgt := 176) hx hb dX6_number_168 (by decide) (fun c17 => ?_) (fun c17 => ?_)
  · replace hw := hw.1 c17
    refine lv_iload_n hx hb dX6_number_176 rfl (lv_at hl 1 rfl) ?_
    exact k_iret X hk hw dX6_number_177
  · replace hw := hw.2 c17
    refine lv_iload_n hx hb dX6_number_171 rfl (lv_at hl 1 rfl) ?_
    refine lv_ineg hx hb dX6_number_172 ?_
    refine lv_goto (tgt := 177) hx hb dX6_number_173 (by decide) ?_
    exact k_iret X hk hw dX6_number_177
def wp_X6_number_134 (Q : Int32 → Sg → Prop) (K92 : Int32 → Int32 → Int32 → Sg → Prop) (x1 x2 y0 : Int32) (σ : Sg) : Prop := ∀ σ21 : Sg, σ21 = (put σ 30 7 ((σ 30 7) + (1 : Int32))) → (K92 x1 x2 y0 σ21)
set_option maxHeartbeats 4000000 in
set_option maxRecDepth 100000 in
theorem t_X6_number_134 {p : Program} {l : Launch} {e : Env} {s : State} {m : MethodId} {args : Array Value} {below : List Frame} {meth : Method} {c : Code} {G : Gw} (X : KC p m meth c cX6_number 4 s args wz_X6_number RX6 (some .int) G) (Q : Int32 → Sg → Prop) (K92 : Int32 → Int32 → Int32 → Sg → Prop) (hK92 : ∀ (σ : Sg) (x1 x2 x3 : Int32) (H : Heap) (locs : List Loc) (ls : Array Slot), K92 x1 x2 x3 σ → WK G s H locs σ → lv_has ls 4 [(0, .ref (G.1 30)), (1, .int x1), (2, .int x2), (3, .int x3)] → W p l e rm_X6_number s m args below meth c H locs 0 0 (ZI below args s G Q) (F0 m 92 ls [])) : ∀ (σ : Sg) (x1 x2 y0 : Int32) (H : Heap) (locs : List Loc) (ls : Array Slot), wp_X6_number_134 Q K92 x1 x2 y0 σ → WK G s H locs σ → lv_has ls 4 [(0, .ref (G.1 30)), (1, .int x1), (2, .int x2)] → W p l e rm_X6_number s m args below meth c H locs 0 0 (ZI below args s G Q) (F0 m 134 ls [.int y0]) := by
  have hx := X.1.1
  have hb := X.1.2.1
  intro σ x1 x2 y0 H locs ls hw hk hl
  unfold wp_X6_number_134 at hw
  refine lv_istore_n (lv' := [(3, .int y0), (0, .ref (G.1 30)), (1, .int x1), (2, .int x2)]) hx hb dX6_number_134 rfl hl (Nat.le_of_ble_eq_true rfl) rfl (fun ls hl => ?_)
  refine lv_aload_n hx hb dX6_number_135 rfl (lv_at hl 1 rfl) ?_
  refine lv_dup hx hb dX6_number_136 rfl ?_
  refine k_get 7 X hk (wg_30 G _) rfl (hz_wsX60 _) (Nat.le_of_ble_eq_true rfl) (List.mem_cons_of_mem _ (aw_r14 _ (List.mem_of_getElem? (i := 13) rfl))) rfl dX6_number_137 ?_
  refine lv_iconst (v := (1 : Int32)) hx hb dX6_number_140 (by decide) ?_
  refine lv_iadd hx hb dX6_number_141 ?_
  refine k_put 7 X hk (wg_30 G _) rfl (hz_wsX60 _) tyX6_ok nmX6 (Nat.le_of_ble_eq_true rfl) (List.mem_cons_of_mem _ (aw_r14 _ (List.mem_of_getElem? (i := 13) rfl))) rfl rfl (Nat.le_of_ble_eq_true rfl) (ws_30_7 G _ _) dX6_number_142 (fun H locs hk => ?_)
  obtain ⟨σ21, eσ21⟩ : ∃ y : Sg, y = (put σ 30 7 ((σ 30 7) + (1 : Int32))) := ⟨_, rfl⟩
  rw [← eσ21] at hk
  replace hw := hw σ21 eσ21
  refine lv_goto (tgt := 92) hx hb dX6_number_145 (by decide) ?_
  exact hK92 _ _ _ _ _ _ _ hw hk (lv_sub hl [1, 2, 3, 0] rfl)
def wp_X6_number_92 (Q : Int32 → Sg → Prop)  : Nat → Int32 → Int32 → Int32 → Sg → Prop
  | 0, _, _, _, _ => False
  | n + 1, x1, x2, x3, σ => wp_X6_isDigitAt σ (σ 30 7) (fun r14 σ13 => (r14 = 0 → ((((σ13 30 7) - x2) ≤ (3 : Int32) → (wp_X6_number_167 Q  x1 x3 σ13)) ∧ (¬ (((σ13 30 7) - x2) ≤ (3 : Int32)) → (wp_X6_fails σ13 (1 : Int32) (σ13 30 8) (fun σ18 => wp_X6_number_167 Q  x1 x3 σ18))))) ∧ (¬ (r14 = 0) → (((3 : Int32) ≤ ((σ13 30 7) - x2) → (wp_X6_number_134 Q (fun z1 z2 z3 σ => wp_X6_number_92 Q  n z1 z2 z3 σ) x1 x2 x3 σ13)) ∧ (¬ ((3 : Int32) ≤ ((σ13 30 7) - x2)) → (vp_in (σ13 30 7) 400 ∧ (wp_X6_number_134 Q (fun z1 z2 z3 σ => wp_X6_number_92 Q  n z1 z2 z3 σ) x1 x2 ((((10 : Int32) * x3) + (σ13 33 ((σ13 30 7)).toNatClampNeg)) - (48 : Int32)) σ13))))))
set_option maxHeartbeats 4000000 in
set_option maxRecDepth 100000 in
theorem t_X6_number_92 {p : Program} {l : Launch} {e : Env} {s : State} {m : MethodId} {args : Array Value} {below : List Frame} {meth : Method} {c : Code} {G : Gw} (X : KC p m meth c cX6_number 4 s args wz_X6_number RX6 (some .int) G) (Q : Int32 → Sg → Prop)  : ∀ (n : Nat) (σ : Sg) (x1 x2 x3 : Int32) (H : Heap) (locs : List Loc) (ls : Array Slot), wp_X6_number_92 Q  n x1 x2 x3 σ → WK G s H locs σ → lv_has ls 4 [(0, .ref (G.1 30)), (1, .int x1), (2, .int x2), (3, .int x3)] → W p l e rm_X6_number s m args below meth c H locs 0 0 (ZI below args s G Q) (F0 m 92 ls []) := by
  have hx := X.1.1
  have hb := X.1.2.1
  intro n
  induction n with
  | zero =>
    intro σ x1 x2 x3 H locs ls hw hk hl
    exact False.elim hw
  | succ n ih =>
    intro σ x1 x2 x3 H locs ls hw hk hl
    rw [wp_X6_number_92] at hw
    refine lv_aload_n hx hb dX6_number_92 rfl (lv_at hl 0 rfl) ?_
    refine lv_aload_n hx hb dX6_number_93 rfl (lv_at hl 0 rfl) ?_
    refine k_get 7 X hk (wg_30 G _) rfl (hz_wsX60 _) (Nat.le_of_ble_eq_true rfl) (List.mem_cons_of_mem _ (aw_r14 _ (List.mem_of_getElem? (i := 13) rfl))) rfl dX6_number_94 ?_
    refine k_callVi (rest := []) X hk (c_X6_isDigitAt l G _ _ _ hw) (cwV 1 X.1.2.2.2.2 (gzV (aw_r16 _ (List.mem_of_getElem? (i := 6) rfl)) (aw_r16 _ (List.mem_of_getElem? (i := 7) rfl)) (aw_r16 _ (List.mem_of_getElem? (i := 8) rfl)) (aw_r1 _ (List.mem_of_getElem? (i := 5) rfl)) (aw_r16 _ (List.mem_of_getElem? (i := 9) rfl))) rfl rfl rfl hd_X6_isDigitAt ⟨(Nat.le_of_ble_eq_true rfl), (Nat.le_of_ble_eq_true rfl)⟩) (wg_30 G _) rfl rfl hl.1 rfl (Nat.le_of_ble_eq_true rfl) dX6_number_97 ⟨Nat.zero_le _, Nat.zero_le _⟩ (fun r14 σ13 H locs hw hk => ?_)
    refine lv_if_eq (tgt := 148) hx hb dX6_number_100 (by decide) (fun c15 => ?_) (fun c15 => ?_)
    · replace hw := hw.1 c15
      refine lv_aload_n hx hb dX6_number_148 rfl (lv_at hl 0 rfl) ?_
      refine k_get 7 X hk (wg_30 G _) rfl (hz_wsX60 _) (Nat.le_of_ble_eq_true rfl) (List.mem_cons_of_mem _ (aw_r14 _ (List.mem_of_getElem? (i := 13) rfl))) rfl dX6_number_149 ?_
      refine lv_iload_n hx hb dX6_number_152 rfl (lv_at hl 2 rfl) ?_
      refine lv_isub hx hb dX6_number_153 ?_
      refine lv_iconst (v := (3 : Int32)) hx hb dX6_number_154 (by decide) ?_
      refine lv_icmp_le (tgt := 167) hx hb dX6_number_155 (by decide) (fun c16 => ?_) (fun c16 => ?_)
      · replace hw := hw.1 c16
        exact t_X6_number_167 X Q   _ _ _ _ _ _ hw hk (lv_sub hl [1, 3] rfl)
      · replace hw := hw.2 c16
        refine lv_aload_n hx hb dX6_number_158 rfl (lv_at hl 0 rfl) ?_
        refine lv_iconst (v := (1 : Int32)) hx hb dX6_number_159 (by decide) ?_
        refine lv_aload_n hx hb dX6_number_160 rfl (lv_at hl 0 rfl) ?_
        refine k_get 8 X hk (wg_30 G _) rfl (hz_wsX60 _) (Nat.le_of_ble_eq_true rfl) (List.mem_cons_of_mem _ (aw_r15 _ (List.mem_of_getElem? (i := 2) rfl))) rfl dX6_number_161 ?_
        refine k_callVv (rest := []) X hk (c_X6_fails l G _ _ _ _ hw) (cwV 2 X.1.2.2.2.2 (gzV (aw_r15 _ (List.mem_of_getElem? (i := 18) rfl)) (aw_r15 _ (List.mem_of_getElem? (i := 19) rfl)) (aw_r15 _ (List.mem_of_getElem? (i := 20) rfl)) (aw_r1 _ (List.mem_of_getElem? (i := 5) rfl)) (aw_r15 _ (List.mem_of_getElem? (i := 21) rfl))) rfl rfl rfl hd_X6_fails ⟨(Nat.le_of_ble_eq_true rfl), (Nat.le_of_ble_eq_true rfl)⟩) (wg_30 G _) rfl rfl hl.1 rfl (Nat.le_of_ble_eq_true rfl) dX6_number_164 ⟨Nat.zero_le _, Nat.zero_le _⟩ (fun σ18 H locs hw hk => ?_)
        exact t_X6_number_167 X Q   _ _ _ _ _ _ hw hk (lv_sub hl [1, 3] rfl)
    · replace hw := hw.2 c15
      refine lv_aload_n hx hb dX6_number_103 rfl (lv_at hl 0 rfl) ?_
      refine k_get 7 X hk (wg_30 G _) rfl (hz_wsX60 _) (Nat.le_of_ble_eq_true rfl) (List.mem_cons_of_mem _ (aw_r14 _ (List.mem_of_getElem? (i := 13) rfl))) rfl dX6_number_104 ?_
      refine lv_iload_n hx hb dX6_number_107 rfl (lv_at hl 2 rfl) ?_
      refine lv_isub hx hb dX6_number_108 ?_
      refine lv_iconst (v := (3 : Int32)) hx hb dX6_number_109 (by decide) ?_
      refine lv_icmp_ge (tgt := 133) hx hb dX6_number_110 (by decide) (fun c20 => ?_) (fun c20 => ?_)
      · replace hw := hw.1 c20
        refine lv_iload_n hx hb dX6_number_133 rfl (lv_at hl 3 rfl) ?_
        exact t_X6_number_134 X Q _ ih _ _ _ _ _ _ _ hw hk (lv_sub hl [0, 1, 2] rfl)
      · replace hw := hw.2 c20
        refine lv_bipush (v := (10 : Int32)) hx hb dX6_number_113 (by decide) ?_
        refine lv_iload_n hx hb dX6_number_115 rfl (lv_at hl 3 rfl) ?_
        refine lv_imul hx hb dX6_number_116 ?_
        refine lv_aload_n hx hb dX6_number_117 rfl (lv_at hl 0 rfl) ?_
        refine k_get 3 X hk (wg_30 G _) rfl (hz_wsX60 _) (Nat.le_of_ble_eq_true rfl) (List.mem_cons_of_mem _ (aw_r4 _ (List.mem_of_getElem? (i := 18) rfl))) rfl dX6_number_118 ?_
        refine lv_aload_n hx hb dX6_number_121 rfl (lv_at hl 0 rfl) ?_
        refine k_get 7 X hk (wg_30 G _) rfl (hz_wsX60 _) (Nat.le_of_ble_eq_true rfl) (List.mem_cons_of_mem _ (aw_r14 _ (List.mem_of_getElem? (i := 13) rfl))) rfl dX6_number_122 ?_
        refine k_bald X hk (wg_33 G _) hw.1 dX6_number_125 ?_
        replace hw := hw.2
        refine lv_iadd hx hb dX6_number_126 ?_
        refine lv_bipush (v := (48 : Int32)) hx hb dX6_number_127 (by decide) ?_
        refine lv_isub hx hb dX6_number_129 ?_
        refine lv_goto (tgt := 134) hx hb dX6_number_130 (by decide) ?_
        exact t_X6_number_134 X Q _ ih _ _ _ _ _ _ _ hw hk (lv_sub hl [0, 1, 2] rfl)
def wp_X6_number_81 (Q : Int32 → Sg → Prop)  (x1 y1 y2 : Int32) (σ : Sg) : Prop := ∀ σ11 : Sg, σ11 = (put σ 30 7 (y1 + y2)) → (∀ x2_12 : Int32, x2_12 = (σ11 30 7) → (∃ n0, wp_X6_number_92 Q  n0 x1 x2_12 (0 : Int32) σ11))
set_option maxHeartbeats 4000000 in
set_option maxRecDepth 100000 in
theorem t_X6_number_81 {p : Program} {l : Launch} {e : Env} {s : State} {m : MethodId} {args : Array Value} {below : List Frame} {meth : Method} {c : Code} {G : Gw} (X : KC p m meth c cX6_number 4 s args wz_X6_number RX6 (some .int) G) (Q : Int32 → Sg → Prop)  : ∀ (σ : Sg) (x1 y1 y2 : Int32) (H : Heap) (locs : List Loc) (ls : Array Slot), wp_X6_number_81 Q  x1 y1 y2 σ → WK G s H locs σ → lv_has ls 4 [(0, .ref (G.1 30)), (1, .int x1)] → W p l e rm_X6_number s m args below meth c H locs 0 0 (ZI below args s G Q) (F0 m 81 ls [.int y2, .int y1, .ref (G.1 30)]) := by
  have hx := X.1.1
  have hb := X.1.2.1
  intro σ x1 y1 y2 H locs ls hw hk hl
  unfold wp_X6_number_81 at hw
  refine lv_iadd hx hb dX6_number_81 ?_
  refine k_put 7 X hk (wg_30 G _) rfl (hz_wsX60 _) tyX6_ok nmX6 (Nat.le_of_ble_eq_true rfl) (List.mem_cons_of_mem _ (aw_r14 _ (List.mem_of_getElem? (i := 13) rfl))) rfl rfl (Nat.le_of_ble_eq_true rfl) (ws_30_7 G _ _) dX6_number_82 (fun H locs hk => ?_)
  obtain ⟨σ11, eσ11⟩ : ∃ y : Sg, y = (put σ 30 7 (y1 + y2)) := ⟨_, rfl⟩
  rw [← eσ11] at hk
  replace hw := hw σ11 eσ11
  refine lv_aload_n hx hb dX6_number_85 rfl (lv_at hl 0 rfl) ?_
  refine k_get 7 X hk (wg_30 G _) rfl (hz_wsX60 _) (Nat.le_of_ble_eq_true rfl) (List.mem_cons_of_mem _ (aw_r14 _ (List.mem_of_getElem? (i := 13) rfl))) rfl dX6_number_86 ?_
  refine lv_topi (fun x2_12 ex2_12 => ?_)
  replace hw := hw x2_12 ex2_12
  refine lv_istore_n (lv' := [(2, .int x2_12), (0, .ref (G.1 30)), (1, .int x1)]) hx hb dX6_number_89 rfl hl (Nat.le_of_ble_eq_true rfl) rfl (fun ls hl => ?_)
  refine lv_iconst (v := (0 : Int32)) hx hb dX6_number_90 (by decide) ?_
  refine lv_istore_n (lv' := [(3, .int (0 : Int32)), (2, .int x2_12), (0, .ref (G.1 30)), (1, .int x1)]) hx hb dX6_number_91 rfl hl (Nat.le_of_ble_eq_true rfl) rfl (fun ls hl => ?_)
  obtain ⟨n0, hw⟩ := hw
  exact t_X6_number_92 X Q   n0 _ _ _ _ _ _ _ hw hk (lv_sub hl [2, 3, 1, 0] rfl)
def wp_X6_number_50 (Q : Int32 → Sg → Prop)  (x1 y1 : Int32) (σ : Sg) : Prop := wp_X6_isDigitAt σ y1 (fun r8 σ7 => (r8 = 0 → (wp_X6_fails σ7 (1 : Int32) (σ7 30 8) (fun σ22 => Q (0 : Int32) σ22))) ∧ (¬ (r8 = 0) → ((x1 = 0 → (wp_X6_number_81 Q  x1 (σ7 30 7) (0 : Int32) σ7)) ∧ (¬ (x1 = 0) → (wp_X6_number_81 Q  x1 (σ7 30 7) (1 : Int32) σ7)))))
set_option maxHeartbeats 4000000 in
set_option maxRecDepth 100000 in
theorem t_X6_number_50 {p : Program} {l : Launch} {e : Env} {s : State} {m : MethodId} {args : Array Value} {below : List Frame} {meth : Method} {c : Code} {G : Gw} (X : KC p m meth c cX6_number 4 s args wz_X6_number RX6 (some .int) G) (Q : Int32 → Sg → Prop)  : ∀ (σ : Sg) (x1 y1 : Int32) (H : Heap) (locs : List Loc) (ls : Array Slot), wp_X6_number_50 Q  x1 y1 σ → WK G s H locs σ → lv_has ls 4 [(0, .ref (G.1 30)), (1, .int x1)] → W p l e rm_X6_number s m args below meth c H locs 0 0 (ZI below args s G Q) (F0 m 50 ls [.int y1, .ref (G.1 30)]) := by
  have hx := X.1.1
  have hb := X.1.2.1
  intro σ x1 y1 H locs ls hw hk hl
  unfold wp_X6_number_50 at hw
  refine k_callVi (rest := []) X hk (c_X6_isDigitAt l G _ _ _ hw) (cwV 1 X.1.2.2.2.2 (gzV (aw_r16 _ (List.mem_of_getElem? (i := 6) rfl)) (aw_r16 _ (List.mem_of_getElem? (i := 7) rfl)) (aw_r16 _ (List.mem_of_getElem? (i := 8) rfl)) (aw_r1 _ (List.mem_of_getElem? (i := 5) rfl)) (aw_r16 _ (List.mem_of_getElem? (i := 9) rfl))) rfl rfl rfl hd_X6_isDigitAt ⟨(Nat.le_of_ble_eq_true rfl), (Nat.le_of_ble_eq_true rfl)⟩) (wg_30 G _) rfl rfl hl.1 rfl (Nat.le_of_ble_eq_true rfl) dX6_number_50 ⟨Nat.zero_le _, Nat.zero_le _⟩ (fun r8 σ7 H locs hw hk => ?_)
  refine lv_if_ne (tgt := 67) hx hb dX6_number_53 (by decide) (fun c9 => ?_) (fun c9 => ?_)
  · replace hw := hw.2 c9
    refine lv_aload_n hx hb dX6_number_67 rfl (lv_at hl 0 rfl) ?_
    refine lv_dup hx hb dX6_number_68 rfl ?_
    refine k_get 7 X hk (wg_30 G _) rfl (hz_wsX60 _) (Nat.le_of_ble_eq_true rfl) (List.mem_cons_of_mem _ (aw_r14 _ (List.mem_of_getElem? (i := 13) rfl))) rfl dX6_number_69 ?_
    refine lv_iload_n hx hb dX6_number_72 rfl (lv_at hl 1 rfl) ?_
    refine lv_if_eq (tgt := 80) hx hb dX6_number_73 (by decide) (fun c10 => ?_) (fun c10 => ?_)
    · replace hw := hw.1 c10
      refine lv_iconst (v := (0 : Int32)) hx hb dX6_number_80 (by decide) ?_
      exact t_X6_number_81 X Q   _ _ _ _ _ _ _ hw hk hl
    · replace hw := hw.2 c10
      refine lv_iconst (v := (1 : Int32)) hx hb dX6_number_76 (by decide) ?_
      refine lv_goto (tgt := 81) hx hb dX6_number_77 (by decide) ?_
      exact t_X6_number_81 X Q   _ _ _ _ _ _ _ hw hk hl
  · replace hw := hw.1 c9
    refine lv_aload_n hx hb dX6_number_56 rfl (lv_at hl 0 rfl) ?_
    refine lv_iconst (v := (1 : Int32)) hx hb dX6_number_57 (by decide) ?_
    refine lv_aload_n hx hb dX6_number_58 rfl (lv_at hl 0 rfl) ?_
    refine k_get 8 X hk (wg_30 G _) rfl (hz_wsX60 _) (Nat.le_of_ble_eq_true rfl) (List.mem_cons_of_mem _ (aw_r15 _ (List.mem_of_getElem? (i := 2) rfl))) rfl dX6_number_59 ?_
    refine k_callVv (rest := []) X hk (c_X6_fails l G _ _ _ _ hw) (cwV 2 X.1.2.2.2.2 (gzV (aw_r15 _ (List.mem_of_getElem? (i := 18) rfl)) (aw_r15 _ (List.mem_of_getElem? (i := 19) rfl)) (aw_r15 _ (List.mem_of_getElem? (i := 20) rfl)) (aw_r1 _ (List.mem_of_getElem? (i := 5) rfl)) (aw_r15 _ (List.mem_of_getElem? (i := 21) rfl))) rfl rfl rfl hd_X6_fails ⟨(Nat.le_of_ble_eq_true rfl), (Nat.le_of_ble_eq_true rfl)⟩) (wg_30 G _) rfl rfl hl.1 rfl (Nat.le_of_ble_eq_true rfl) dX6_number_62 ⟨Nat.zero_le _, Nat.zero_le _⟩ (fun σ22 H locs hw hk => ?_)
    refine lv_iconst (v := (0 : Int32)) hx hb dX6_number_65 (by decide) ?_
    exact k_iret X hk hw dX6_number_66
def wp_X6_number_23 (Q : Int32 → Sg → Prop)  (y0 : Int32) (σ : Sg) : Prop := ∀ σ5 : Sg, σ5 = (put σ 30 8 (σ 30 7)) → ((y0 = 0 → (wp_X6_number_50 Q  y0 (σ5 30 7) σ5)) ∧ (¬ (y0 = 0) → (wp_X6_number_50 Q  y0 ((σ5 30 7) + (1 : Int32)) σ5)))
set_option maxHeartbeats 4000000 in
set_option maxRecDepth 100000 in
theorem t_X6_number_23 {p : Program} {l : Launch} {e : Env} {s : State} {m : MethodId} {args : Array Value} {below : List Frame} {meth : Method} {c : Code} {G : Gw} (X : KC p m meth c cX6_number 4 s args wz_X6_number RX6 (some .int) G) (Q : Int32 → Sg → Prop)  : ∀ (σ : Sg) (y0 : Int32) (H : Heap) (locs : List Loc) (ls : Array Slot), wp_X6_number_23 Q  y0 σ → WK G s H locs σ → lv_has ls 4 [(0, .ref (G.1 30))] → W p l e rm_X6_number s m args below meth c H locs 0 0 (ZI below args s G Q) (F0 m 23 ls [.int y0]) := by
  have hx := X.1.1
  have hb := X.1.2.1
  intro σ y0 H locs ls hw hk hl
  unfold wp_X6_number_23 at hw
  refine lv_istore_n (lv' := [(1, .int y0), (0, .ref (G.1 30))]) hx hb dX6_number_23 rfl hl (Nat.le_of_ble_eq_true rfl) rfl (fun ls hl => ?_)
  refine lv_aload_n hx hb dX6_number_24 rfl (lv_at hl 1 rfl) ?_
  refine lv_aload_n hx hb dX6_number_25 rfl (lv_at hl 1 rfl) ?_
  refine k_get 7 X hk (wg_30 G _) rfl (hz_wsX60 _) (Nat.le_of_ble_eq_true rfl) (List.mem_cons_of_mem _ (aw_r14 _ (List.mem_of_getElem? (i := 13) rfl))) rfl dX6_number_26 ?_
  refine k_put 8 X hk (wg_30 G _) rfl (hz_wsX60 _) tyX6_ok nmX6 (Nat.le_of_ble_eq_true rfl) (List.mem_cons_of_mem _ (aw_r15 _ (List.mem_of_getElem? (i := 2) rfl))) rfl rfl (Nat.le_of_ble_eq_true rfl) (ws_30_8 G _ _) dX6_number_29 (fun H locs hk => ?_)
  obtain ⟨σ5, eσ5⟩ : ∃ y : Sg, y = (put σ 30 8 (σ 30 7)) := ⟨_, rfl⟩
  rw [← eσ5] at hk
  replace hw := hw σ5 eσ5
  refine lv_aload_n hx hb dX6_number_32 rfl (lv_at hl 1 rfl) ?_
  refine lv_iload_n hx hb dX6_number_33 rfl (lv_at hl 0 rfl) ?_
  refine lv_if_eq (tgt := 46) hx hb dX6_number_34 (by decide) (fun c6 => ?_) (fun c6 => ?_)
  · replace hw := hw.1 c6
    refine lv_aload_n hx hb dX6_number_46 rfl (lv_at hl 1 rfl) ?_
    refine k_get 7 X hk (wg_30 G _) rfl (hz_wsX60 _) (Nat.le_of_ble_eq_true rfl) (List.mem_cons_of_mem _ (aw_r14 _ (List.mem_of_getElem? (i := 13) rfl))) rfl dX6_number_47 ?_
    exact t_X6_number_50 X Q   _ _ _ _ _ _ hw hk (lv_sub hl [1, 0] rfl)
  · replace hw := hw.2 c6
    refine lv_aload_n hx hb dX6_number_37 rfl (lv_at hl 1 rfl) ?_
    refine k_get 7 X hk (wg_30 G _) rfl (hz_wsX60 _) (Nat.le_of_ble_eq_true rfl) (List.mem_cons_of_mem _ (aw_r14 _ (List.mem_of_getElem? (i := 13) rfl))) rfl dX6_number_38 ?_
    refine lv_iconst (v := (1 : Int32)) hx hb dX6_number_41 (by decide) ?_
    refine lv_iadd hx hb dX6_number_42 ?_
    refine lv_goto (tgt := 50) hx hb dX6_number_43 (by decide) ?_
    exact t_X6_number_50 X Q   _ _ _ _ _ _ hw hk (lv_sub hl [1, 0] rfl)
def wp_X6_number (σ : Sg) (Q : Int32 → Sg → Prop) : Prop := ((σ 30 5) = 0 → (wp_X6_here σ  (fun r3 σ2 => (r3 = (45 : Int32) → (wp_X6_number_23 Q  (1 : Int32) σ2)) ∧ (¬ (r3 = (45 : Int32)) → (wp_X6_number_23 Q  (0 : Int32) σ2))))) ∧ (¬ ((σ 30 5) = 0) → (Q (0 : Int32) σ))
set_option maxHeartbeats 4000000 in
set_option maxRecDepth 100000 in
theorem c_X6_number (l : Launch) (G : Gw) (σ : Sg) (Q : Int32 → Sg → Prop) (hw : wp_X6_number σ  Q) : MetI l yX6_number wz_X6_number rm_X6_number G σ [.ref (G.1 30)] Q := by
  refine MetI.of cX6_number 4 (some .int) (by decide) rfl (Nat.le_of_ble_eq_true rfl) ?_
  intro p e s m below meth c X hk ls hl
  have X : KC p m meth c cX6_number 4 s _ wz_X6_number RX6 (some .int) G := X
  have hl : lv_has ls 4 [(0, .ref (G.1 30))] := hl
  unfold wp_X6_number at hw
  have hx := X.1.1
  have hb := X.1.2.1
  refine lv_aload_n hx hb dX6_number_0 rfl (lv_at hl 0 rfl) ?_
  refine k_get 5 X hk (wg_30 G _) rfl (hz_wsX60 _) (Nat.le_of_ble_eq_true rfl) (List.mem_cons_of_mem _ (aw_r14 _ (List.mem_of_getElem? (i := 12) rfl))) rfl dX6_number_1 ?_
  refine lv_if_eq (tgt := 9) hx hb dX6_number_4 (by decide) (fun c1 => ?_) (fun c1 => ?_)
  · replace hw := hw.1 c1
    refine lv_aload_n hx hb dX6_number_9 rfl (lv_at hl 0 rfl) ?_
    refine k_callVi (rest := []) X hk (c_X6_here l G _  _ hw) (cwV 0 X.1.2.2.2.2 (gzV (aw_r14 _ (List.mem_of_getElem? (i := 18) rfl)) (aw_r14 _ (List.mem_of_getElem? (i := 19) rfl)) (aw_r14 _ (List.mem_of_getElem? (i := 20) rfl)) (aw_r1 _ (List.mem_of_getElem? (i := 5) rfl)) (aw_r14 _ (List.mem_of_getElem? (i := 21) rfl))) rfl rfl rfl hd_X6_here ⟨(Nat.le_of_ble_eq_true rfl), (Nat.le_of_ble_eq_true rfl)⟩) (wg_30 G _) rfl rfl hl.1 rfl (Nat.le_of_ble_eq_true rfl) dX6_number_10 ⟨Nat.zero_le _, Nat.zero_le _⟩ (fun r3 σ2 H locs hw hk => ?_)
    refine lv_bipush (v := (45 : Int32)) hx hb dX6_number_13 (by decide) ?_
    refine lv_icmp_ne (tgt := 22) hx hb dX6_number_15 (by decide) (fun c4 => ?_) (fun c4 => ?_)
    · replace hw := hw.2 c4
      refine lv_iconst (v := (0 : Int32)) hx hb dX6_number_22 (by decide) ?_
      exact t_X6_number_23 X Q   _ _ _ _ _ hw hk hl
    · replace hw := hw.1 c4
      refine lv_iconst (v := (1 : Int32)) hx hb dX6_number_18 (by decide) ?_
      refine lv_goto (tgt := 23) hx hb dX6_number_19 (by decide) ?_
      exact t_X6_number_23 X Q   _ _ _ _ _ hw hk hl
  · replace hw := hw.2 c1
    refine lv_iconst (v := (0 : Int32)) hx hb dX6_number_7 (by decide) ?_
    exact k_iret X hk hw dX6_number_8
def rm_X6_number_ : Room := { frames := 3, cells := 0, slots := 0, locals := 66 }
abbrev wz_X6_number_ : List Cond := Cond.code yX6_number_ cX6_number_ 4 (some .int) :: wsA
theorem hd_X6_number_ : yX6_number_.cls = RX6 ∧ yX6_number_.cls ≠ "java/lang/invoke/MethodHandle" ∧ yX6_number_.cls ≠ "java/lang/invoke/VarHandle" ∧ (parseMethodDescriptor yX6_number_.desc).map (fun d => d.parameters.length) = some 2 := by decide +kernel
def wp_X6_number_ (σ : Sg) (p1 p2 : Int32) (Q : Int32 → Sg → Prop) : Prop := wp_X6_number σ  (fun r2 σ1 => ((σ1 30 5) = 0 → (wp_X6_isIn σ1 r2 p1 p2 (fun r5 σ4 => (r5 = 0 → (wp_X6_fails σ4 (2 : Int32) (σ4 30 8) (fun σ7 => Q r2 σ7))) ∧ (¬ (r5 = 0) → (Q r2 σ4))))) ∧ (¬ ((σ1 30 5) = 0) → (Q r2 σ1)))
set_option maxHeartbeats 4000000 in
set_option maxRecDepth 100000 in
theorem c_X6_number_ (l : Launch) (G : Gw) (σ : Sg) (p1 p2 : Int32) (Q : Int32 → Sg → Prop) (hw : wp_X6_number_ σ p1 p2 Q) : MetI l yX6_number_ wz_X6_number_ rm_X6_number_ G σ [.ref (G.1 30), .int p1, .int p2] Q := by
  refine MetI.of cX6_number_ 4 (some .int) (by decide) rfl (Nat.le_of_ble_eq_true rfl) ?_
  intro p e s m below meth c X hk ls hl
  have X : KC p m meth c cX6_number_ 4 s _ wz_X6_number_ RX6 (some .int) G := X
  have hl : lv_has ls 4 [(0, .ref (G.1 30)), (1, .int p1), (2, .int p2)] := hl
  unfold wp_X6_number_ at hw
  have hx := X.1.1
  have hb := X.1.2.1
  refine lv_aload_n hx hb dX6_number__0 rfl (lv_at hl 0 rfl) ?_
  refine k_callVi (rest := []) X hk (c_X6_number l G _  _ hw) (cwV 0 X.1.2.2.2.2 (gzV (aw_r16 _ (List.mem_of_getElem? (i := 2) rfl)) (aw_r16 _ (List.mem_of_getElem? (i := 3) rfl)) (aw_r16 _ (List.mem_of_getElem? (i := 4) rfl)) (aw_r1 _ (List.mem_of_getElem? (i := 5) rfl)) (aw_r16 _ (List.mem_of_getElem? (i := 5) rfl))) rfl rfl rfl hd_X6_number ⟨(Nat.le_of_ble_eq_true rfl), (Nat.le_of_ble_eq_true rfl)⟩) (wg_30 G _) rfl rfl hl.1 rfl (Nat.le_of_ble_eq_true rfl) dX6_number__1 ⟨Nat.zero_le _, Nat.zero_le _⟩ (fun r2 σ1 H locs hw hk => ?_)
  refine lv_istore_n (lv' := [(3, .int r2), (0, .ref (G.1 30)), (1, .int p1), (2, .int p2)]) hx hb dX6_number__4 rfl hl (Nat.le_of_ble_eq_true rfl) rfl (fun ls hl => ?_)
  refine lv_aload_n hx hb dX6_number__5 rfl (lv_at hl 1 rfl) ?_
  refine k_get 5 X hk (wg_30 G _) rfl (hz_wsX60 _) (Nat.le_of_ble_eq_true rfl) (List.mem_cons_of_mem _ (aw_r14 _ (List.mem_of_getElem? (i := 12) rfl))) rfl dX6_number__6 ?_
  refine lv_if_ne (tgt := 30) hx hb dX6_number__9 (by decide) (fun c3 => ?_) (fun c3 => ?_)
  · replace hw := hw.2 c3
    refine lv_iload_n hx hb dX6_number__30 rfl (lv_at hl 0 rfl) ?_
    exact k_iret X hk hw dX6_number__31
  · replace hw := hw.1 c3
    refine lv_iload_n hx hb dX6_number__12 rfl (lv_at hl 0 rfl) ?_
    refine lv_iload_n hx hb dX6_number__13 rfl (lv_at hl 2 rfl) ?_
    refine lv_iload_n hx hb dX6_number__14 rfl (lv_at hl 3 rfl) ?_
    refine k_callSi (rest := []) X hk (c_X6_isIn l G _ _ _ _ _ hw) (va_cwS 3 X.1.2.2.2.2 (gzS (aw_r6 _ (List.mem_of_getElem? (i := 17) rfl)) (aw_r6 _ (List.mem_of_getElem? (i := 18) rfl)) (aw_r1 _ (List.mem_of_getElem? (i := 5) rfl)) (aw_r6 _ (List.mem_of_getElem? (i := 19) rfl))) rfl rfl rfl hds_X6_isIn ⟨(Nat.le_of_ble_eq_true rfl), (Nat.le_of_ble_eq_true rfl)⟩) rfl hl.1 rfl (Nat.le_of_ble_eq_true rfl) dX6_number__15 ⟨Nat.zero_le _, Nat.zero_le _⟩ (fun r5 σ4 H locs hw hk => ?_)
    refine lv_if_ne (tgt := 30) hx hb dX6_number__18 (by decide) (fun c6 => ?_) (fun c6 => ?_)
    · replace hw := hw.2 c6
      refine lv_iload_n hx hb dX6_number__30 rfl (lv_at hl 0 rfl) ?_
      exact k_iret X hk hw dX6_number__31
    · replace hw := hw.1 c6
      refine lv_aload_n hx hb dX6_number__21 rfl (lv_at hl 1 rfl) ?_
      refine lv_iconst (v := (2 : Int32)) hx hb dX6_number__22 (by decide) ?_
      refine lv_aload_n hx hb dX6_number__23 rfl (lv_at hl 1 rfl) ?_
      refine k_get 8 X hk (wg_30 G _) rfl (hz_wsX60 _) (Nat.le_of_ble_eq_true rfl) (List.mem_cons_of_mem _ (aw_r15 _ (List.mem_of_getElem? (i := 2) rfl))) rfl dX6_number__24 ?_
      refine k_callVv (rest := []) X hk (c_X6_fails l G _ _ _ _ hw) (cwV 2 X.1.2.2.2.2 (gzV (aw_r15 _ (List.mem_of_getElem? (i := 18) rfl)) (aw_r15 _ (List.mem_of_getElem? (i := 19) rfl)) (aw_r15 _ (List.mem_of_getElem? (i := 20) rfl)) (aw_r1 _ (List.mem_of_getElem? (i := 5) rfl)) (aw_r15 _ (List.mem_of_getElem? (i := 21) rfl))) rfl rfl rfl hd_X6_fails ⟨(Nat.le_of_ble_eq_true rfl), (Nat.le_of_ble_eq_true rfl)⟩) (wg_30 G _) rfl rfl hl.1 rfl (Nat.le_of_ble_eq_true rfl) dX6_number__27 ⟨Nat.zero_le _, Nat.zero_le _⟩ (fun σ7 H locs hw hk => ?_)
      refine lv_iload_n hx hb dX6_number__30 rfl (lv_at hl 0 rfl) ?_
      exact k_iret X hk hw dX6_number__31
def rm_X6_word : Room := { frames := 1, cells := 0, slots := 0, locals := 22 }
abbrev wz_X6_word : List Cond := Cond.code yX6_word cX6_word 2 (some .int) :: wsA
theorem hd_X6_word : yX6_word.cls = RX6 ∧ yX6_word.cls ≠ "java/lang/invoke/MethodHandle" ∧ yX6_word.cls ≠ "java/lang/invoke/VarHandle" ∧ (parseMethodDescriptor yX6_word.desc).map (fun d => d.parameters.length) = some 0 := by decide +kernel
def wp_X6_word_79 (Q : Int32 → Sg → Prop) (K15 : Int32 → Sg → Prop) (y0 : Int32) (σ : Sg) : Prop := ∀ σ9 : Sg, σ9 = (put σ 30 7 ((σ 30 7) + (1 : Int32))) → (K15 y0 σ9)
set_option maxHeartbeats 4000000 in
set_option maxRecDepth 100000 in
theorem t_X6_word_79 {p : Program} {l : Launch} {e : Env} {s : State} {m : MethodId} {args : Array Value} {below : List Frame} {meth : Method} {c : Code} {G : Gw} (X : KC p m meth c cX6_word 2 s args wz_X6_word RX6 (some .int) G) (Q : Int32 → Sg → Prop) (K15 : Int32 → Sg → Prop) (hK15 : ∀ (σ : Sg) (x1 : Int32) (H : Heap) (locs : List Loc) (ls : Array Slot), K15 x1 σ → WK G s H locs σ → lv_has ls 2 [(0, .ref (G.1 30)), (1, .int x1)] → W p l e rm_X6_word s m args below meth c H locs 0 0 (ZI below args s G Q) (F0 m 15 ls [])) : ∀ (σ : Sg) (y0 : Int32) (H : Heap) (locs : List Loc) (ls : Array Slot), wp_X6_word_79 Q K15 y0 σ → WK G s H locs σ → lv_has ls 2 [(0, .ref (G.1 30))] → W p l e rm_X6_word s m args below meth c H locs 0 0 (ZI below args s G Q) (F0 m 79 ls [.int y0]) := by
  have hx := X.1.1
  have hb := X.1.2.1
  intro σ y0 H locs ls hw hk hl
  unfold wp_X6_word_79 at hw
  refine lv_istore_n (lv' := [(1, .int y0), (0, .ref (G.1 30))]) hx hb dX6_word_79 rfl hl (Nat.le_of_ble_eq_true rfl) rfl (fun ls hl => ?_)
  refine lv_aload_n hx hb dX6_word_80 rfl (lv_at hl 1 rfl) ?_
  refine lv_dup hx hb dX6_word_81 rfl ?_
  refine k_get 7 X hk (wg_30 G _) rfl (hz_wsX60 _) (Nat.le_of_ble_eq_true rfl) (List.mem_cons_of_mem _ (aw_r14 _ (List.mem_of_getElem? (i := 13) rfl))) rfl dX6_word_82 ?_
  refine lv_iconst (v := (1 : Int32)) hx hb dX6_word_85 (by decide) ?_
  refine lv_iadd hx hb dX6_word_86 ?_
  refine k_put 7 X hk (wg_30 G _) rfl (hz_wsX60 _) tyX6_ok nmX6 (Nat.le_of_ble_eq_true rfl) (List.mem_cons_of_mem _ (aw_r14 _ (List.mem_of_getElem? (i := 13) rfl))) rfl rfl (Nat.le_of_ble_eq_true rfl) (ws_30_7 G _ _) dX6_word_87 (fun H locs hk => ?_)
  obtain ⟨σ9, eσ9⟩ : ∃ y : Sg, y = (put σ 30 7 ((σ 30 7) + (1 : Int32))) := ⟨_, rfl⟩
  rw [← eσ9] at hk
  replace hw := hw σ9 eσ9
  refine lv_goto (tgt := 15) hx hb dX6_word_90 (by decide) ?_
  exact hK15 _ _ _ _ _ hw hk (lv_sub hl [1, 0] rfl)
def wp_X6_word_15 (Q : Int32 → Sg → Prop)  : Nat → Int32 → Sg → Prop
  | 0, _, _ => False
  | n + 1, x1, σ => ((σ 30 6) ≤ (σ 30 7) → (Q x1 σ)) ∧ (¬ ((σ 30 6) ≤ (σ 30 7)) → (vp_in (σ 30 7) 400 ∧ (wp_X6_isIn σ (σ 33 ((σ 30 7)).toNatClampNeg) (97 : Int32) (122 : Int32) (fun r6 σ5 => (r6 = 0 → (Q x1 σ5)) ∧ (¬ (r6 = 0) → (((5 : Int32) ≤ ((σ5 30 7) - (σ5 30 8)) → (wp_X6_word_79 Q (fun z1 σ => wp_X6_word_15 Q  n z1 σ) (0 : Int32) σ5)) ∧ (¬ ((5 : Int32) ≤ ((σ5 30 7) - (σ5 30 8))) → (vp_in (σ5 30 7) 400 ∧ (wp_X6_word_79 Q (fun z1 σ => wp_X6_word_15 Q  n z1 σ) ((((32 : Int32) * x1) + (σ5 33 ((σ5 30 7)).toNatClampNeg)) - (96 : Int32)) σ5)))))))))
set_option maxHeartbeats 4000000 in
set_option maxRecDepth 100000 in
theorem t_X6_word_15 {p : Program} {l : Launch} {e : Env} {s : State} {m : MethodId} {args : Array Value} {below : List Frame} {meth : Method} {c : Code} {G : Gw} (X : KC p m meth c cX6_word 2 s args wz_X6_word RX6 (some .int) G) (Q : Int32 → Sg → Prop)  : ∀ (n : Nat) (σ : Sg) (x1 : Int32) (H : Heap) (locs : List Loc) (ls : Array Slot), wp_X6_word_15 Q  n x1 σ → WK G s H locs σ → lv_has ls 2 [(0, .ref (G.1 30)), (1, .int x1)] → W p l e rm_X6_word s m args below meth c H locs 0 0 (ZI below args s G Q) (F0 m 15 ls []) := by
  have hx := X.1.1
  have hb := X.1.2.1
  intro n
  induction n with
  | zero =>
    intro σ x1 H locs ls hw hk hl
    exact False.elim hw
  | succ n ih =>
    intro σ x1 H locs ls hw hk hl
    rw [wp_X6_word_15] at hw
    refine lv_aload_n hx hb dX6_word_15 rfl (lv_at hl 0 rfl) ?_
    refine k_get 7 X hk (wg_30 G _) rfl (hz_wsX60 _) (Nat.le_of_ble_eq_true rfl) (List.mem_cons_of_mem _ (aw_r14 _ (List.mem_of_getElem? (i := 13) rfl))) rfl dX6_word_16 ?_
    refine lv_aload_n hx hb dX6_word_19 rfl (lv_at hl 0 rfl) ?_
    refine k_get 6 X hk (wg_30 G _) rfl (hz_wsX60 _) (Nat.le_of_ble_eq_true rfl) (List.mem_cons_of_mem _ (aw_r14 _ (List.mem_of_getElem? (i := 11) rfl))) rfl dX6_word_20 ?_
    refine lv_icmp_ge (tgt := 93) hx hb dX6_word_23 (by decide) (fun c4 => ?_) (fun c4 => ?_)
    · replace hw := hw.1 c4
      refine lv_iload_n hx hb dX6_word_93 rfl (lv_at hl 1 rfl) ?_
      exact k_iret X hk hw dX6_word_94
    · replace hw := hw.2 c4
      refine lv_aload_n hx hb dX6_word_26 rfl (lv_at hl 0 rfl) ?_
      refine k_get 3 X hk (wg_30 G _) rfl (hz_wsX60 _) (Nat.le_of_ble_eq_true rfl) (List.mem_cons_of_mem _ (aw_r4 _ (List.mem_of_getElem? (i := 18) rfl))) rfl dX6_word_27 ?_
      refine lv_aload_n hx hb dX6_word_30 rfl (lv_at hl 0 rfl) ?_
      refine k_get 7 X hk (wg_30 G _) rfl (hz_wsX60 _) (Nat.le_of_ble_eq_true rfl) (List.mem_cons_of_mem _ (aw_r14 _ (List.mem_of_getElem? (i := 13) rfl))) rfl dX6_word_31 ?_
      refine k_bald X hk (wg_33 G _) hw.1 dX6_word_34 ?_
      replace hw := hw.2
      refine lv_bipush (v := (97 : Int32)) hx hb dX6_word_35 (by decide) ?_
      refine lv_bipush (v := (122 : Int32)) hx hb dX6_word_37 (by decide) ?_
      refine k_callSi (rest := []) X hk (c_X6_isIn l G _ _ _ _ _ hw) (va_cwS 3 X.1.2.2.2.2 (gzS (aw_r6 _ (List.mem_of_getElem? (i := 17) rfl)) (aw_r6 _ (List.mem_of_getElem? (i := 18) rfl)) (aw_r1 _ (List.mem_of_getElem? (i := 5) rfl)) (aw_r6 _ (List.mem_of_getElem? (i := 19) rfl))) rfl rfl rfl hds_X6_isIn ⟨(Nat.le_of_ble_eq_true rfl), (Nat.le_of_ble_eq_true rfl)⟩) rfl hl.1 rfl (Nat.le_of_ble_eq_true rfl) dX6_word_39 ⟨Nat.zero_le _, Nat.zero_le _⟩ (fun r6 σ5 H locs hw hk => ?_)
      refine lv_if_eq (tgt := 93) hx hb dX6_word_42 (by decide) (fun c7 => ?_) (fun c7 => ?_)
      · replace hw := hw.1 c7
        refine lv_iload_n hx hb dX6_word_93 rfl (lv_at hl 1 rfl) ?_
        exact k_iret X hk hw dX6_word_94
      · replace hw := hw.2 c7
        refine lv_aload_n hx hb dX6_word_45 rfl (lv_at hl 0 rfl) ?_
        refine k_get 7 X hk (wg_30 G _) rfl (hz_wsX60 _) (Nat.le_of_ble_eq_true rfl) (List.mem_cons_of_mem _ (aw_r14 _ (List.mem_of_getElem? (i := 13) rfl))) rfl dX6_word_46 ?_
        refine lv_aload_n hx hb dX6_word_49 rfl (lv_at hl 0 rfl) ?_
        refine k_get 8 X hk (wg_30 G _) rfl (hz_wsX60 _) (Nat.le_of_ble_eq_true rfl) (List.mem_cons_of_mem _ (aw_r15 _ (List.mem_of_getElem? (i := 2) rfl))) rfl dX6_word_50 ?_
        refine lv_isub hx hb dX6_word_53 ?_
        refine lv_iconst (v := (5 : Int32)) hx hb dX6_word_54 (by decide) ?_
        refine lv_icmp_ge (tgt := 78) hx hb dX6_word_55 (by decide) (fun c8 => ?_) (fun c8 => ?_)
        · replace hw := hw.1 c8
          refine lv_iconst (v := (0 : Int32)) hx hb dX6_word_78 (by decide) ?_
          exact t_X6_word_79 X Q _ ih _ _ _ _ _ hw hk (lv_sub hl [0] rfl)
        · replace hw := hw.2 c8
          refine lv_bipush (v := (32 : Int32)) hx hb dX6_word_58 (by decide) ?_
          refine lv_iload_n hx hb dX6_word_60 rfl (lv_at hl 1 rfl) ?_
          refine lv_imul hx hb dX6_word_61 ?_
          refine lv_aload_n hx hb dX6_word_62 rfl (lv_at hl 0 rfl) ?_
          refine k_get 3 X hk (wg_30 G _) rfl (hz_wsX60 _) (Nat.le_of_ble_eq_true rfl) (List.mem_cons_of_mem _ (aw_r4 _ (List.mem_of_getElem? (i := 18) rfl))) rfl dX6_word_63 ?_
          refine lv_aload_n hx hb dX6_word_66 rfl (lv_at hl 0 rfl) ?_
          refine k_get 7 X hk (wg_30 G _) rfl (hz_wsX60 _) (Nat.le_of_ble_eq_true rfl) (List.mem_cons_of_mem _ (aw_r14 _ (List.mem_of_getElem? (i := 13) rfl))) rfl dX6_word_67 ?_
          refine k_bald X hk (wg_33 G _) hw.1 dX6_word_70 ?_
          replace hw := hw.2
          refine lv_iadd hx hb dX6_word_71 ?_
          refine lv_bipush (v := (96 : Int32)) hx hb dX6_word_72 (by decide) ?_
          refine lv_isub hx hb dX6_word_74 ?_
          refine lv_goto (tgt := 79) hx hb dX6_word_75 (by decide) ?_
          exact t_X6_word_79 X Q _ ih _ _ _ _ _ hw hk (lv_sub hl [0] rfl)
def wp_X6_word (σ : Sg) (Q : Int32 → Sg → Prop) : Prop := wp_X6_here σ  (fun r2 σ1 => ∀ σ3 : Sg, σ3 = (put σ1 30 8 (σ1 30 7)) → (∃ n0, wp_X6_word_15 Q  n0 (0 : Int32) σ3))
set_option maxHeartbeats 4000000 in
set_option maxRecDepth 100000 in
theorem c_X6_word (l : Launch) (G : Gw) (σ : Sg) (Q : Int32 → Sg → Prop) (hw : wp_X6_word σ  Q) : MetI l yX6_word wz_X6_word rm_X6_word G σ [.ref (G.1 30)] Q := by
  refine MetI.of cX6_word 2 (some .int) (by decide) rfl (Nat.le_of_ble_eq_true rfl) ?_
  intro p e s m below meth c X hk ls hl
  have X : KC p m meth c cX6_word 2 s _ wz_X6_word RX6 (some .int) G := X
  have hl : lv_has ls 2 [(0, .ref (G.1 30))] := hl
  unfold wp_X6_word at hw
  have hx := X.1.1
  have hb := X.1.2.1
  refine lv_aload_n hx hb dX6_word_0 rfl (lv_at hl 0 rfl) ?_
  refine k_callVi (rest := []) X hk (c_X6_here l G _  _ hw) (cwV 0 X.1.2.2.2.2 (gzV (aw_r14 _ (List.mem_of_getElem? (i := 18) rfl)) (aw_r14 _ (List.mem_of_getElem? (i := 19) rfl)) (aw_r14 _ (List.mem_of_getElem? (i := 20) rfl)) (aw_r1 _ (List.mem_of_getElem? (i := 5) rfl)) (aw_r14 _ (List.mem_of_getElem? (i := 21) rfl))) rfl rfl rfl hd_X6_here ⟨(Nat.le_of_ble_eq_true rfl), (Nat.le_of_ble_eq_true rfl)⟩) (wg_30 G _) rfl rfl hl.1 rfl (Nat.le_of_ble_eq_true rfl) dX6_word_1 ⟨Nat.zero_le _, Nat.zero_le _⟩ (fun r2 σ1 H locs hw hk => ?_)
  refine lv_pop hx hb dX6_word_4 rfl ?_
  refine lv_aload_n hx hb dX6_word_5 rfl (lv_at hl 0 rfl) ?_
  refine lv_aload_n hx hb dX6_word_6 rfl (lv_at hl 0 rfl) ?_
  refine k_get 7 X hk (wg_30 G _) rfl (hz_wsX60 _) (Nat.le_of_ble_eq_true rfl) (List.mem_cons_of_mem _ (aw_r14 _ (List.mem_of_getElem? (i := 13) rfl))) rfl dX6_word_7 ?_
  refine k_put 8 X hk (wg_30 G _) rfl (hz_wsX60 _) tyX6_ok nmX6 (Nat.le_of_ble_eq_true rfl) (List.mem_cons_of_mem _ (aw_r15 _ (List.mem_of_getElem? (i := 2) rfl))) rfl rfl (Nat.le_of_ble_eq_true rfl) (ws_30_8 G _ _) dX6_word_10 (fun H locs hk => ?_)
  obtain ⟨σ3, eσ3⟩ : ∃ y : Sg, y = (put σ1 30 8 (σ1 30 7)) := ⟨_, rfl⟩
  rw [← eσ3] at hk
  replace hw := hw σ3 eσ3
  refine lv_iconst (v := (0 : Int32)) hx hb dX6_word_13 (by decide) ?_
  refine lv_istore_n (lv' := [(1, .int (0 : Int32)), (0, .ref (G.1 30))]) hx hb dX6_word_14 rfl hl (Nat.le_of_ble_eq_true rfl) rfl (fun ls hl => ?_)
  obtain ⟨n0, hw⟩ := hw
  exact t_X6_word_15 X Q   n0 _ _ _ _ _ hw hk (lv_sub hl [1, 0] rfl)
def rm_X6_letters : Room := { frames := 0, cells := 0, slots := 0, locals := 0 }
abbrev wz_X6_letters : List Cond := Cond.code yX6_letters cX6_letters 5 (some .int) :: wsA
theorem hds_X6_letters : yX6_letters.cls ≠ "java/lang/invoke/MethodHandle" ∧ yX6_letters.cls ≠ "java/lang/invoke/VarHandle" ∧ (parseMethodDescriptor yX6_letters.desc).map (fun d => d.parameters.length) = some 5 := by decide +kernel
def wp_X6_letters (σ : Sg) (p0 p1 p2 p3 p4 : Int32) (Q : Int32 → Sg → Prop) : Prop := Q ((((((((p0 * (32 : Int32)) + p1) * (32 : Int32)) + p2) * (32 : Int32)) + p3) * (32 : Int32)) + p4) σ
set_option maxHeartbeats 4000000 in
set_option maxRecDepth 100000 in
theorem c_X6_letters (l : Launch) (G : Gw) (σ : Sg) (p0 p1 p2 p3 p4 : Int32) (Q : Int32 → Sg → Prop) (hw : wp_X6_letters σ p0 p1 p2 p3 p4 Q) : MetI l yX6_letters wz_X6_letters rm_X6_letters G σ [.int p0, .int p1, .int p2, .int p3, .int p4] Q := by
  refine MetI.of cX6_letters 5 (some .int) (by decide) rfl (Nat.le_of_ble_eq_true rfl) ?_
  intro p e s m below meth c X hk ls hl
  have X : KC p m meth c cX6_letters 5 s _ wz_X6_letters RX6 (some .int) G := X
  have hl : lv_has ls 5 [(0, .int p0), (1, .int p1), (2, .int p2), (3, .int p3), (4, .int p4)] := hl
  unfold wp_X6_letters at hw
  have hx := X.1.1
  have hb := X.1.2.1
  refine lv_iload_n hx hb dX6_letters_0 rfl (lv_at hl 0 rfl) ?_
  refine lv_bipush (v := (32 : Int32)) hx hb dX6_letters_1 (by decide) ?_
  refine lv_imul hx hb dX6_letters_3 ?_
  refine lv_iload_n hx hb dX6_letters_4 rfl (lv_at hl 1 rfl) ?_
  refine lv_iadd hx hb dX6_letters_5 ?_
  refine lv_bipush (v := (32 : Int32)) hx hb dX6_letters_6 (by decide) ?_
  refine lv_imul hx hb dX6_letters_8 ?_
  refine lv_iload_n hx hb dX6_letters_9 rfl (lv_at hl 2 rfl) ?_
  refine lv_iadd hx hb dX6_letters_10 ?_
  refine lv_bipush (v := (32 : Int32)) hx hb dX6_letters_11 (by decide) ?_
  refine lv_imul hx hb dX6_letters_13 ?_
  refine lv_iload_n hx hb dX6_letters_14 rfl (lv_at hl 3 rfl) ?_
  refine lv_iadd hx hb dX6_letters_15 ?_
  refine lv_bipush (v := (32 : Int32)) hx hb dX6_letters_16 (by decide) ?_
  refine lv_imul hx hb dX6_letters_18 ?_
  refine lv_iload hx hb dX6_letters_19 (lv_at hl 4 rfl) ?_
  refine lv_iadd hx hb dX6_letters_21 ?_
  exact k_iret X hk hw dX6_letters_22
def rm_X6_placeTold : Room := { frames := 4, cells := 0, slots := 0, locals := 89 }
abbrev wz_X6_placeTold : List Cond := Cond.code yX6_placeTold cX6_placeTold 5 none :: wsA
theorem hd_X6_placeTold : yX6_placeTold.cls = RX6 ∧ yX6_placeTold.cls ≠ "java/lang/invoke/MethodHandle" ∧ yX6_placeTold.cls ≠ "java/lang/invoke/VarHandle" ∧ (parseMethodDescriptor yX6_placeTold.desc).map (fun d => d.parameters.length) = some 0 := by decide +kernel
def wp_X6_placeTold_18 (Q : Sg → Prop)  (σ : Sg) : Prop := wp_X6_number_ σ (0 : Int32) (60 : Int32) (fun r5 σ4 => wp_X6_number_ σ4 (0 : Int32) (300 : Int32) (fun r7 σ6 => wp_X6_number_ σ6 (0 : Int32) (20 : Int32) (fun r9 σ8 => wp_X6_number_ σ8 (0 : Int32) (300 : Int32) (fun r11 σ10 => ((σ10 30 5) = 0 → (wp_X6_placeMore σ10 r5 r7 r9 r11 (fun σ13 => Q σ13))) ∧ (¬ ((σ10 30 5) = 0) → (Q σ10))))))
set_option maxHeartbeats 4000000 in
set_option maxRecDepth 100000 in
theorem t_X6_placeTold_18 {p : Program} {l : Launch} {e : Env} {s : State} {m : MethodId} {args : Array Value} {below : List Frame} {meth : Method} {c : Code} {G : Gw} (X : KC p m meth c cX6_placeTold 5 s args wz_X6_placeTold RX6 none G) (Q : Sg → Prop)  : ∀ (σ : Sg) (H : Heap) (locs : List Loc) (ls : Array Slot), wp_X6_placeTold_18 Q   σ → WK G s H locs σ → lv_has ls 5 [(0, .ref (G.1 30))] → W p l e rm_X6_placeTold s m args below meth c H locs 0 0 (ZV below args s G Q) (F0 m 18 ls []) := by
  have hx := X.1.1
  have hb := X.1.2.1
  intro σ H locs ls hw hk hl
  unfold wp_X6_placeTold_18 at hw
  refine lv_aload_n hx hb dX6_placeTold_18 rfl (lv_at hl 0 rfl) ?_
  refine lv_iconst (v := (0 : Int32)) hx hb dX6_placeTold_19 (by decide) ?_
  refine lv_bipush (v := (60 : Int32)) hx hb dX6_placeTold_20 (by decide) ?_
  refine k_callVi (rest := []) X hk (c_X6_number_ l G _ _ _ _ hw) (cwV 2 X.1.2.2.2.2 (gzV (aw_r15 _ (List.mem_of_getElem? (i := 22) rfl)) (aw_r15 _ (List.mem_of_getElem? (i := 23) rfl)) (aw_r16 _ (List.mem_of_getElem? (i := 0) rfl)) (aw_r1 _ (List.mem_of_getElem? (i := 5) rfl)) (aw_r16 _ (List.mem_of_getElem? (i := 1) rfl))) rfl rfl rfl hd_X6_number_ ⟨(Nat.le_of_ble_eq_true rfl), (Nat.le_of_ble_eq_true rfl)⟩) (wg_30 G _) rfl rfl hl.1 rfl (Nat.le_of_ble_eq_true rfl) dX6_placeTold_22 ⟨Nat.zero_le _, Nat.zero_le _⟩ (fun r5 σ4 H locs hw hk => ?_)
  refine lv_istore_n (lv' := [(1, .int r5), (0, .ref (G.1 30))]) hx hb dX6_placeTold_25 rfl hl (Nat.le_of_ble_eq_true rfl) rfl (fun ls hl => ?_)
  refine lv_aload_n hx hb dX6_placeTold_26 rfl (lv_at hl 1 rfl) ?_
  refine lv_iconst (v := (0 : Int32)) hx hb dX6_placeTold_27 (by decide) ?_
  refine lv_sipush (v := (300 : Int32)) hx hb dX6_placeTold_28 (by decide) ?_
  refine k_callVi (rest := []) X hk (c_X6_number_ l G _ _ _ _ hw) (cwV 2 X.1.2.2.2.2 (gzV (aw_r15 _ (List.mem_of_getElem? (i := 22) rfl)) (aw_r15 _ (List.mem_of_getElem? (i := 23) rfl)) (aw_r16 _ (List.mem_of_getElem? (i := 0) rfl)) (aw_r1 _ (List.mem_of_getElem? (i := 5) rfl)) (aw_r16 _ (List.mem_of_getElem? (i := 1) rfl))) rfl rfl rfl hd_X6_number_ ⟨(Nat.le_of_ble_eq_true rfl), (Nat.le_of_ble_eq_true rfl)⟩) (wg_30 G _) rfl rfl hl.1 rfl (Nat.le_of_ble_eq_true rfl) dX6_placeTold_31 ⟨Nat.zero_le _, Nat.zero_le _⟩ (fun r7 σ6 H locs hw hk => ?_)
  refine lv_istore_n (lv' := [(2, .int r7), (1, .int r5), (0, .ref (G.1 30))]) hx hb dX6_placeTold_34 rfl hl (Nat.le_of_ble_eq_true rfl) rfl (fun ls hl => ?_)
  refine lv_aload_n hx hb dX6_placeTold_35 rfl (lv_at hl 2 rfl) ?_
  refine lv_iconst (v := (0 : Int32)) hx hb dX6_placeTold_36 (by decide) ?_
  refine lv_bipush (v := (20 : Int32)) hx hb dX6_placeTold_37 (by decide) ?_
  refine k_callVi (rest := []) X hk (c_X6_number_ l G _ _ _ _ hw) (cwV 2 X.1.2.2.2.2 (gzV (aw_r15 _ (List.mem_of_getElem? (i := 22) rfl)) (aw_r15 _ (List.mem_of_getElem? (i := 23) rfl)) (aw_r16 _ (List.mem_of_getElem? (i := 0) rfl)) (aw_r1 _ (List.mem_of_getElem? (i := 5) rfl)) (aw_r16 _ (List.mem_of_getElem? (i := 1) rfl))) rfl rfl rfl hd_X6_number_ ⟨(Nat.le_of_ble_eq_true rfl), (Nat.le_of_ble_eq_true rfl)⟩) (wg_30 G _) rfl rfl hl.1 rfl (Nat.le_of_ble_eq_true rfl) dX6_placeTold_39 ⟨Nat.zero_le _, Nat.zero_le _⟩ (fun r9 σ8 H locs hw hk => ?_)
  refine lv_istore_n (lv' := [(3, .int r9), (2, .int r7), (1, .int r5), (0, .ref (G.1 30))]) hx hb dX6_placeTold_42 rfl hl (Nat.le_of_ble_eq_true rfl) rfl (fun ls hl => ?_)
  refine lv_aload_n hx hb dX6_placeTold_43 rfl (lv_at hl 3 rfl) ?_
  refine lv_iconst (v := (0 : Int32)) hx hb dX6_placeTold_44 (by decide) ?_
  refine lv_sipush (v := (300 : Int32)) hx hb dX6_placeTold_45 (by decide) ?_
  refine k_callVi (rest := []) X hk (c_X6_number_ l G _ _ _ _ hw) (cwV 2 X.1.2.2.2.2 (gzV (aw_r15 _ (List.mem_of_getElem? (i := 22) rfl)) (aw_r15 _ (List.mem_of_getElem? (i := 23) rfl)) (aw_r16 _ (List.mem_of_getElem? (i := 0) rfl)) (aw_r1 _ (List.mem_of_getElem? (i := 5) rfl)) (aw_r16 _ (List.mem_of_getElem? (i := 1) rfl))) rfl rfl rfl hd_X6_number_ ⟨(Nat.le_of_ble_eq_true rfl), (Nat.le_of_ble_eq_true rfl)⟩) (wg_30 G _) rfl rfl hl.1 rfl (Nat.le_of_ble_eq_true rfl) dX6_placeTold_48 ⟨Nat.zero_le _, Nat.zero_le _⟩ (fun r11 σ10 H locs hw hk => ?_)
  refine lv_istore (lv' := [(4, .int r11), (3, .int r9), (2, .int r7), (1, .int r5), (0, .ref (G.1 30))]) hx hb dX6_placeTold_51 hl (Nat.le_of_ble_eq_true rfl) rfl (fun ls hl => ?_)
  refine lv_aload_n hx hb dX6_placeTold_53 rfl (lv_at hl 4 rfl) ?_
  refine k_get 5 X hk (wg_30 G _) rfl (hz_wsX60 _) (Nat.le_of_ble_eq_true rfl) (List.mem_cons_of_mem _ (aw_r14 _ (List.mem_of_getElem? (i := 12) rfl))) rfl dX6_placeTold_54 ?_
  refine lv_if_ne (tgt := 69) hx hb dX6_placeTold_57 (by decide) (fun c12 => ?_) (fun c12 => ?_)
  · replace hw := hw.2 c12
    exact k_vret X hk hw dX6_placeTold_69
  · replace hw := hw.1 c12
    refine lv_aload_n hx hb dX6_placeTold_60 rfl (lv_at hl 4 rfl) ?_
    refine lv_iload_n hx hb dX6_placeTold_61 rfl (lv_at hl 3 rfl) ?_
    refine lv_iload_n hx hb dX6_placeTold_62 rfl (lv_at hl 2 rfl) ?_
    refine lv_iload_n hx hb dX6_placeTold_63 rfl (lv_at hl 1 rfl) ?_
    refine lv_iload hx hb dX6_placeTold_64 (lv_at hl 0 rfl) ?_
    refine k_callVv (rest := []) X hk (c_X6_placeMore l G _ _ _ _ _ _ hw) (cwV 4 X.1.2.2.2.2 (gzV (aw_r16 _ (List.mem_of_getElem? (i := 10) rfl)) (aw_r16 _ (List.mem_of_getElem? (i := 11) rfl)) (aw_r16 _ (List.mem_of_getElem? (i := 12) rfl)) (aw_r1 _ (List.mem_of_getElem? (i := 5) rfl)) (aw_r16 _ (List.mem_of_getElem? (i := 13) rfl))) rfl rfl rfl hd_X6_placeMore ⟨(Nat.le_of_ble_eq_true rfl), (Nat.le_of_ble_eq_true rfl)⟩) (wg_30 G _) rfl rfl hl.1 rfl (Nat.le_of_ble_eq_true rfl) dX6_placeTold_66 ⟨Nat.zero_le _, Nat.zero_le _⟩ (fun σ13 H locs hw hk => ?_)
    exact k_vret X hk hw dX6_placeTold_69
def wp_X6_placeTold (σ : Sg) (Q : Sg → Prop) : Prop := wp_X6_places σ  (fun r2 σ1 => (r2 = (8 : Int32) → (wp_X6_fails σ1 (3 : Int32) (σ1 30 8) (fun σ15 => wp_X6_placeTold_18 Q   σ15))) ∧ (¬ (r2 = (8 : Int32)) → (wp_X6_placeTold_18 Q   σ1)))
set_option maxHeartbeats 4000000 in
set_option maxRecDepth 100000 in
theorem c_X6_placeTold (l : Launch) (G : Gw) (σ : Sg) (Q : Sg → Prop) (hw : wp_X6_placeTold σ  Q) : MetV l yX6_placeTold wz_X6_placeTold rm_X6_placeTold G σ [.ref (G.1 30)] Q := by
  refine MetV.of cX6_placeTold 5 none (by decide) rfl (Nat.le_of_ble_eq_true rfl) ?_
  intro p e s m below meth c X hk ls hl
  have X : KC p m meth c cX6_placeTold 5 s _ wz_X6_placeTold RX6 none G := X
  have hl : lv_has ls 5 [(0, .ref (G.1 30))] := hl
  unfold wp_X6_placeTold at hw
  have hx := X.1.1
  have hb := X.1.2.1
  refine lv_aload_n hx hb dX6_placeTold_0 rfl (lv_at hl 0 rfl) ?_
  refine k_callVi (rest := []) X hk (c_X6_places l G _  _ hw) (cwV 0 X.1.2.2.2.2 (gzV (aw_r15 _ (List.mem_of_getElem? (i := 14) rfl)) (aw_r15 _ (List.mem_of_getElem? (i := 15) rfl)) (aw_r15 _ (List.mem_of_getElem? (i := 16) rfl)) (aw_r1 _ (List.mem_of_getElem? (i := 5) rfl)) (aw_r15 _ (List.mem_of_getElem? (i := 17) rfl))) rfl rfl rfl hd_X6_places ⟨(Nat.le_of_ble_eq_true rfl), (Nat.le_of_ble_eq_true rfl)⟩) (wg_30 G _) rfl rfl hl.1 rfl (Nat.le_of_ble_eq_true rfl) dX6_placeTold_1 ⟨Nat.zero_le _, Nat.zero_le _⟩ (fun r2 σ1 H locs hw hk => ?_)
  refine lv_bipush (v := (8 : Int32)) hx hb dX6_placeTold_4 (by decide) ?_
  refine lv_icmp_ne (tgt := 18) hx hb dX6_placeTold_6 (by decide) (fun c3 => ?_) (fun c3 => ?_)
  · replace hw := hw.2 c3
    exact t_X6_placeTold_18 X Q   _  _ _ _ hw hk hl
  · replace hw := hw.1 c3
    refine lv_aload_n hx hb dX6_placeTold_9 rfl (lv_at hl 0 rfl) ?_
    refine lv_iconst (v := (3 : Int32)) hx hb dX6_placeTold_10 (by decide) ?_
    refine lv_aload_n hx hb dX6_placeTold_11 rfl (lv_at hl 0 rfl) ?_
    refine k_get 8 X hk (wg_30 G _) rfl (hz_wsX60 _) (Nat.le_of_ble_eq_true rfl) (List.mem_cons_of_mem _ (aw_r15 _ (List.mem_of_getElem? (i := 2) rfl))) rfl dX6_placeTold_12 ?_
    refine k_callVv (rest := []) X hk (c_X6_fails l G _ _ _ _ hw) (cwV 2 X.1.2.2.2.2 (gzV (aw_r15 _ (List.mem_of_getElem? (i := 18) rfl)) (aw_r15 _ (List.mem_of_getElem? (i := 19) rfl)) (aw_r15 _ (List.mem_of_getElem? (i := 20) rfl)) (aw_r1 _ (List.mem_of_getElem? (i := 5) rfl)) (aw_r15 _ (List.mem_of_getElem? (i := 21) rfl))) rfl rfl rfl hd_X6_fails ⟨(Nat.le_of_ble_eq_true rfl), (Nat.le_of_ble_eq_true rfl)⟩) (wg_30 G _) rfl rfl hl.1 rfl (Nat.le_of_ble_eq_true rfl) dX6_placeTold_15 ⟨Nat.zero_le _, Nat.zero_le _⟩ (fun σ15 H locs hw hk => ?_)
    exact t_X6_placeTold_18 X Q   _  _ _ _ hw hk hl
def rm_X6_roadTold : Room := { frames := 4, cells := 0, slots := 0, locals := 89 }
abbrev wz_X6_roadTold : List Cond := Cond.code yX6_roadTold cX6_roadTold 6 none :: wsA
theorem hd_X6_roadTold : yX6_roadTold.cls = RX6 ∧ yX6_roadTold.cls ≠ "java/lang/invoke/MethodHandle" ∧ yX6_roadTold.cls ≠ "java/lang/invoke/VarHandle" ∧ (parseMethodDescriptor yX6_roadTold.desc).map (fun d => d.parameters.length) = some 0 := by decide +kernel
def wp_X6_roadTold_84 (Q : Sg → Prop)  (x1 x2 x3 x4 y1 : Int32) (σ : Sg) : Prop := wp_X6_number_ σ y1 (9 : Int32) (fun r19 σ18 => ((σ18 30 5) = 0 → (wp_X6_roadMore σ18 x1 x2 x3 x4 r19 (fun σ21 => Q σ21))) ∧ (¬ ((σ18 30 5) = 0) → (Q σ18)))
set_option maxHeartbeats 4000000 in
set_option maxRecDepth 100000 in
theorem t_X6_roadTold_84 {p : Program} {l : Launch} {e : Env} {s : State} {m : MethodId} {args : Array Value} {below : List Frame} {meth : Method} {c : Code} {G : Gw} (X : KC p m meth c cX6_roadTold 6 s args wz_X6_roadTold RX6 none G) (Q : Sg → Prop)  : ∀ (σ : Sg) (x1 x2 x3 x4 y1 : Int32) (H : Heap) (locs : List Loc) (ls : Array Slot), wp_X6_roadTold_84 Q  x1 x2 x3 x4 y1 σ → WK G s H locs σ → lv_has ls 6 [(0, .ref (G.1 30)), (1, .int x1), (2, .int x2), (3, .int x3), (4, .int x4)] → W p l e rm_X6_roadTold s m args below meth c H locs 0 0 (ZV below args s G Q) (F0 m 84 ls [.int y1, .ref (G.1 30)]) := by
  have hx := X.1.1
  have hb := X.1.2.1
  intro σ x1 x2 x3 x4 y1 H locs ls hw hk hl
  unfold wp_X6_roadTold_84 at hw
  refine lv_bipush (v := (9 : Int32)) hx hb dX6_roadTold_84 (by decide) ?_
  refine k_callVi (rest := []) X hk (c_X6_number_ l G _ _ _ _ hw) (cwV 2 X.1.2.2.2.2 (gzV (aw_r15 _ (List.mem_of_getElem? (i := 22) rfl)) (aw_r15 _ (List.mem_of_getElem? (i := 23) rfl)) (aw_r16 _ (List.mem_of_getElem? (i := 0) rfl)) (aw_r1 _ (List.mem_of_getElem? (i := 5) rfl)) (aw_r16 _ (List.mem_of_getElem? (i := 1) rfl))) rfl rfl rfl hd_X6_number_ ⟨(Nat.le_of_ble_eq_true rfl), (Nat.le_of_ble_eq_true rfl)⟩) (wg_30 G _) rfl rfl hl.1 rfl (Nat.le_of_ble_eq_true rfl) dX6_roadTold_86 ⟨Nat.zero_le _, Nat.zero_le _⟩ (fun r19 σ18 H locs hw hk => ?_)
  refine lv_istore (lv' := [(5, .int r19), (0, .ref (G.1 30)), (1, .int x1), (2, .int x2), (3, .int x3), (4, .int x4)]) hx hb dX6_roadTold_89 hl (Nat.le_of_ble_eq_true rfl) rfl (fun ls hl => ?_)
  refine lv_aload_n hx hb dX6_roadTold_91 rfl (lv_at hl 1 rfl) ?_
  refine k_get 5 X hk (wg_30 G _) rfl (hz_wsX60 _) (Nat.le_of_ble_eq_true rfl) (List.mem_cons_of_mem _ (aw_r14 _ (List.mem_of_getElem? (i := 12) rfl))) rfl dX6_roadTold_92 ?_
  refine lv_if_ne (tgt := 109) hx hb dX6_roadTold_95 (by decide) (fun c20 => ?_) (fun c20 => ?_)
  · replace hw := hw.2 c20
    exact k_vret X hk hw dX6_roadTold_109
  · replace hw := hw.1 c20
    refine lv_aload_n hx hb dX6_roadTold_98 rfl (lv_at hl 1 rfl) ?_
    refine lv_iload_n hx hb dX6_roadTold_99 rfl (lv_at hl 2 rfl) ?_
    refine lv_iload_n hx hb dX6_roadTold_100 rfl (lv_at hl 3 rfl) ?_
    refine lv_iload_n hx hb dX6_roadTold_101 rfl (lv_at hl 4 rfl) ?_
    refine lv_iload hx hb dX6_roadTold_102 (lv_at hl 5 rfl) ?_
    refine lv_iload hx hb dX6_roadTold_104 (lv_at hl 0 rfl) ?_
    refine k_callVv (rest := []) X hk (c_X6_roadMore l G _ _ _ _ _ _ _ hw) (cwV 5 X.1.2.2.2.2 (gzV (aw_r16 _ (List.mem_of_getElem? (i := 22) rfl)) (aw_r16 _ (List.mem_of_getElem? (i := 23) rfl)) (aw_r17 _ (List.mem_of_getElem? (i := 0) rfl)) (aw_r1 _ (List.mem_of_getElem? (i := 5) rfl)) (aw_r17 _ (List.mem_of_getElem? (i := 1) rfl))) rfl rfl rfl hd_X6_roadMore ⟨(Nat.le_of_ble_eq_true rfl), (Nat.le_of_ble_eq_true rfl)⟩) (wg_30 G _) rfl rfl hl.1 rfl (Nat.le_of_ble_eq_true rfl) dX6_roadTold_106 ⟨Nat.zero_le _, Nat.zero_le _⟩ (fun σ21 H locs hw hk => ?_)
    exact k_vret X hk hw dX6_roadTold_109
def wp_X6_roadTold_56 (Q : Sg → Prop)  (x1 x2 : Int32) (σ : Sg) : Prop := wp_X6_number_ σ (1 : Int32) (9 : Int32) (fun r14 σ13 => wp_X6_number_ σ13 (0 : Int32) (9 : Int32) (fun r16 σ15 => (r16 = 0 → (wp_X6_roadTold_84 Q  x1 x2 r14 r16 (1 : Int32) σ15)) ∧ (¬ (r16 = 0) → (wp_X6_roadTold_84 Q  x1 x2 r14 r16 (0 : Int32) σ15))))
set_option maxHeartbeats 4000000 in
set_option maxRecDepth 100000 in
theorem t_X6_roadTold_56 {p : Program} {l : Launch} {e : Env} {s : State} {m : MethodId} {args : Array Value} {below : List Frame} {meth : Method} {c : Code} {G : Gw} (X : KC p m meth c cX6_roadTold 6 s args wz_X6_roadTold RX6 none G) (Q : Sg → Prop)  : ∀ (σ : Sg) (x1 x2 : Int32) (H : Heap) (locs : List Loc) (ls : Array Slot), wp_X6_roadTold_56 Q  x1 x2 σ → WK G s H locs σ → lv_has ls 6 [(0, .ref (G.1 30)), (1, .int x1), (2, .int x2)] → W p l e rm_X6_roadTold s m args below meth c H locs 0 0 (ZV below args s G Q) (F0 m 56 ls []) := by
  have hx := X.1.1
  have hb := X.1.2.1
  intro σ x1 x2 H locs ls hw hk hl
  unfold wp_X6_roadTold_56 at hw
  refine lv_aload_n hx hb dX6_roadTold_56 rfl (lv_at hl 0 rfl) ?_
  refine lv_iconst (v := (1 : Int32)) hx hb dX6_roadTold_57 (by decide) ?_
  refine lv_bipush (v := (9 : Int32)) hx hb dX6_roadTold_58 (by decide) ?_
  refine k_callVi (rest := []) X hk (c_X6_number_ l G _ _ _ _ hw) (cwV 2 X.1.2.2.2.2 (gzV (aw_r15 _ (List.mem_of_getElem? (i := 22) rfl)) (aw_r15 _ (List.mem_of_getElem? (i := 23) rfl)) (aw_r16 _ (List.mem_of_getElem? (i := 0) rfl)) (aw_r1 _ (List.mem_of_getElem? (i := 5) rfl)) (aw_r16 _ (List.mem_of_getElem? (i := 1) rfl))) rfl rfl rfl hd_X6_number_ ⟨(Nat.le_of_ble_eq_true rfl), (Nat.le_of_ble_eq_true rfl)⟩) (wg_30 G _) rfl rfl hl.1 rfl (Nat.le_of_ble_eq_true rfl) dX6_roadTold_60 ⟨Nat.zero_le _, Nat.zero_le _⟩ (fun r14 σ13 H locs hw hk => ?_)
  refine lv_istore_n (lv' := [(3, .int r14), (0, .ref (G.1 30)), (1, .int x1), (2, .int x2)]) hx hb dX6_roadTold_63 rfl hl (Nat.le_of_ble_eq_true rfl) rfl (fun ls hl => ?_)
  refine lv_aload_n hx hb dX6_roadTold_64 rfl (lv_at hl 1 rfl) ?_
  refine lv_iconst (v := (0 : Int32)) hx hb dX6_roadTold_65 (by decide) ?_
  refine lv_bipush (v := (9 : Int32)) hx hb dX6_roadTold_66 (by decide) ?_
  refine k_callVi (rest := []) X hk (c_X6_number_ l G _ _ _ _ hw) (cwV 2 X.1.2.2.2.2 (gzV (aw_r15 _ (List.mem_of_getElem? (i := 22) rfl)) (aw_r15 _ (List.mem_of_getElem? (i := 23) rfl)) (aw_r16 _ (List.mem_of_getElem? (i := 0) rfl)) (aw_r1 _ (List.mem_of_getElem? (i := 5) rfl)) (aw_r16 _ (List.mem_of_getElem? (i := 1) rfl))) rfl rfl rfl hd_X6_number_ ⟨(Nat.le_of_ble_eq_true rfl), (Nat.le_of_ble_eq_true rfl)⟩) (wg_30 G _) rfl rfl hl.1 rfl (Nat.le_of_ble_eq_true rfl) dX6_roadTold_68 ⟨Nat.zero_le _, Nat.zero_le _⟩ (fun r16 σ15 H locs hw hk => ?_)
  refine lv_istore (lv' := [(4, .int r16), (3, .int r14), (0, .ref (G.1 30)), (1, .int x1), (2, .int x2)]) hx hb dX6_roadTold_71 hl (Nat.le_of_ble_eq_true rfl) rfl (fun ls hl => ?_)
  refine lv_aload_n hx hb dX6_roadTold_73 rfl (lv_at hl 2 rfl) ?_
  refine lv_iload hx hb dX6_roadTold_74 (lv_at hl 0 rfl) ?_
  refine lv_if_ne (tgt := 83) hx hb dX6_roadTold_76 (by decide) (fun c17 => ?_) (fun c17 => ?_)
  · replace hw := hw.2 c17
    refine lv_iconst (v := (0 : Int32)) hx hb dX6_roadTold_83 (by decide) ?_
    exact t_X6_roadTold_84 X Q   _ _ _ _ _ _ _ _ _ hw hk (lv_sub hl [2, 3, 4, 1, 0] rfl)
  · replace hw := hw.1 c17
    refine lv_iconst (v := (1 : Int32)) hx hb dX6_roadTold_79 (by decide) ?_
    refine lv_goto (tgt := 84) hx hb dX6_roadTold_80 (by decide) ?_
    exact t_X6_roadTold_84 X Q   _ _ _ _ _ _ _ _ _ hw hk (lv_sub hl [2, 3, 4, 1, 0] rfl)
def wp_X6_roadTold_18 (Q : Sg → Prop)  (σ : Sg) : Prop := wp_X6_places σ  (fun r5 σ4 => wp_X6_number_ σ4 (0 : Int32) (r5 - (1 : Int32)) (fun r7 σ6 => wp_X6_places σ6  (fun r9 σ8 => wp_X6_number_ σ8 (0 : Int32) (r9 - (1 : Int32)) (fun r11 σ10 => (r7 = r11 → (wp_X6_fails σ10 (2 : Int32) (σ10 30 8) (fun σ23 => wp_X6_roadTold_56 Q  r7 r11 σ23))) ∧ (¬ (r7 = r11) → (wp_X6_roadTold_56 Q  r7 r11 σ10))))))
set_option maxHeartbeats 4000000 in
set_option maxRecDepth 100000 in
theorem t_X6_roadTold_18 {p : Program} {l : Launch} {e : Env} {s : State} {m : MethodId} {args : Array Value} {below : List Frame} {meth : Method} {c : Code} {G : Gw} (X : KC p m meth c cX6_roadTold 6 s args wz_X6_roadTold RX6 none G) (Q : Sg → Prop)  : ∀ (σ : Sg) (H : Heap) (locs : List Loc) (ls : Array Slot), wp_X6_roadTold_18 Q   σ → WK G s H locs σ → lv_has ls 6 [(0, .ref (G.1 30))] → W p l e rm_X6_roadTold s m args below meth c H locs 0 0 (ZV below args s G Q) (F0 m 18 ls []) := by
  have hx := X.1.1
  have hb := X.1.2.1
  intro σ H locs ls hw hk hl
  unfold wp_X6_roadTold_18 at hw
  refine lv_aload_n hx hb dX6_roadTold_18 rfl (lv_at hl 0 rfl) ?_
  refine lv_iconst (v := (0 : Int32)) hx hb dX6_roadTold_19 (by decide) ?_
  refine lv_aload_n hx hb dX6_roadTold_20 rfl (lv_at hl 0 rfl) ?_
  refine k_callVi (rest := [.int (0 : Int32), .ref (G.1 30)]) X hk (c_X6_places l G _  _ hw) (cwV 0 X.1.2.2.2.2 (gzV (aw_r15 _ (List.mem_of_getElem? (i := 14) rfl)) (aw_r15 _ (List.mem_of_getElem? (i := 15) rfl)) (aw_r15 _ (List.mem_of_getElem? (i := 16) rfl)) (aw_r1 _ (List.mem_of_getElem? (i := 5) rfl)) (aw_r15 _ (List.mem_of_getElem? (i := 17) rfl))) rfl rfl rfl hd_X6_places ⟨(Nat.le_of_ble_eq_true rfl), (Nat.le_of_ble_eq_true rfl)⟩) (wg_30 G _) rfl rfl hl.1 rfl (Nat.le_of_ble_eq_true rfl) dX6_roadTold_21 ⟨Nat.zero_le _, Nat.zero_le _⟩ (fun r5 σ4 H locs hw hk => ?_)
  refine lv_iconst (v := (1 : Int32)) hx hb dX6_roadTold_24 (by decide) ?_
  refine lv_isub hx hb dX6_roadTold_25 ?_
  refine k_callVi (rest := []) X hk (c_X6_number_ l G _ _ _ _ hw) (cwV 2 X.1.2.2.2.2 (gzV (aw_r15 _ (List.mem_of_getElem? (i := 22) rfl)) (aw_r15 _ (List.mem_of_getElem? (i := 23) rfl)) (aw_r16 _ (List.mem_of_getElem? (i := 0) rfl)) (aw_r1 _ (List.mem_of_getElem? (i := 5) rfl)) (aw_r16 _ (List.mem_of_getElem? (i := 1) rfl))) rfl rfl rfl hd_X6_number_ ⟨(Nat.le_of_ble_eq_true rfl), (Nat.le_of_ble_eq_true rfl)⟩) (wg_30 G _) rfl rfl hl.1 rfl (Nat.le_of_ble_eq_true rfl) dX6_roadTold_26 ⟨Nat.zero_le _, Nat.zero_le _⟩ (fun r7 σ6 H locs hw hk => ?_)
  refine lv_istore_n (lv' := [(1, .int r7), (0, .ref (G.1 30))]) hx hb dX6_roadTold_29 rfl hl (Nat.le_of_ble_eq_true rfl) rfl (fun ls hl => ?_)
  refine lv_aload_n hx hb dX6_roadTold_30 rfl (lv_at hl 1 rfl) ?_
  refine lv_iconst (v := (0 : Int32)) hx hb dX6_roadTold_31 (by decide) ?_
  refine lv_aload_n hx hb dX6_roadTold_32 rfl (lv_at hl 1 rfl) ?_
  refine k_callVi (rest := [.int (0 : Int32), .ref (G.1 30)]) X hk (c_X6_places l G _  _ hw) (cwV 0 X.1.2.2.2.2 (gzV (aw_r15 _ (List.mem_of_getElem? (i := 14) rfl)) (aw_r15 _ (List.mem_of_getElem? (i := 15) rfl)) (aw_r15 _ (List.mem_of_getElem? (i := 16) rfl)) (aw_r1 _ (List.mem_of_getElem? (i := 5) rfl)) (aw_r15 _ (List.mem_of_getElem? (i := 17) rfl))) rfl rfl rfl hd_X6_places ⟨(Nat.le_of_ble_eq_true rfl), (Nat.le_of_ble_eq_true rfl)⟩) (wg_30 G _) rfl rfl hl.1 rfl (Nat.le_of_ble_eq_true rfl) dX6_roadTold_33 ⟨Nat.zero_le _, Nat.zero_le _⟩ (fun r9 σ8 H locs hw hk => ?_)
  refine lv_iconst (v := (1 : Int32)) hx hb dX6_roadTold_36 (by decide) ?_
  refine lv_isub hx hb dX6_roadTold_37 ?_
  refine k_callVi (rest := []) X hk (c_X6_number_ l G _ _ _ _ hw) (cwV 2 X.1.2.2.2.2 (gzV (aw_r15 _ (List.mem_of_getElem? (i := 22) rfl)) (aw_r15 _ (List.mem_of_getElem? (i := 23) rfl)) (aw_r16 _ (List.mem_of_getElem? (i := 0) rfl)) (aw_r1 _ (List.mem_of_getElem? (i := 5) rfl)) (aw_r16 _ (List.mem_of_getElem? (i := 1) rfl))) rfl rfl rfl hd_X6_number_ ⟨(Nat.le_of_ble_eq_true rfl), (Nat.le_of_ble_eq_true rfl)⟩) (wg_30 G _) rfl rfl hl.1 rfl (Nat.le_of_ble_eq_true rfl) dX6_roadTold_38 ⟨Nat.zero_le _, Nat.zero_le _⟩ (fun r11 σ10 H locs hw hk => ?_)
  refine lv_istore_n (lv' := [(2, .int r11), (1, .int r7), (0, .ref (G.1 30))]) hx hb dX6_roadTold_41 rfl hl (Nat.le_of_ble_eq_true rfl) rfl (fun ls hl => ?_)
  refine lv_iload_n hx hb dX6_roadTold_42 rfl (lv_at hl 1 rfl) ?_
  refine lv_iload_n hx hb dX6_roadTold_43 rfl (lv_at hl 0 rfl) ?_
  refine lv_icmp_ne (tgt := 56) hx hb dX6_roadTold_44 (by decide) (fun c12 => ?_) (fun c12 => ?_)
  · replace hw := hw.2 c12
    exact t_X6_roadTold_56 X Q   _ _ _ _ _ _ hw hk (lv_sub hl [2, 1, 0] rfl)
  · replace hw := hw.1 c12
    refine lv_aload_n hx hb dX6_roadTold_47 rfl (lv_at hl 2 rfl) ?_
    refine lv_iconst (v := (2 : Int32)) hx hb dX6_roadTold_48 (by decide) ?_
    refine lv_aload_n hx hb dX6_roadTold_49 rfl (lv_at hl 2 rfl) ?_
    refine k_get 8 X hk (wg_30 G _) rfl (hz_wsX60 _) (Nat.le_of_ble_eq_true rfl) (List.mem_cons_of_mem _ (aw_r15 _ (List.mem_of_getElem? (i := 2) rfl))) rfl dX6_roadTold_50 ?_
    refine k_callVv (rest := []) X hk (c_X6_fails l G _ _ _ _ hw) (cwV 2 X.1.2.2.2.2 (gzV (aw_r15 _ (List.mem_of_getElem? (i := 18) rfl)) (aw_r15 _ (List.mem_of_getElem? (i := 19) rfl)) (aw_r15 _ (List.mem_of_getElem? (i := 20) rfl)) (aw_r1 _ (List.mem_of_getElem? (i := 5) rfl)) (aw_r15 _ (List.mem_of_getElem? (i := 21) rfl))) rfl rfl rfl hd_X6_fails ⟨(Nat.le_of_ble_eq_true rfl), (Nat.le_of_ble_eq_true rfl)⟩) (wg_30 G _) rfl rfl hl.1 rfl (Nat.le_of_ble_eq_true rfl) dX6_roadTold_53 ⟨Nat.zero_le _, Nat.zero_le _⟩ (fun σ23 H locs hw hk => ?_)
    exact t_X6_roadTold_56 X Q   _ _ _ _ _ _ hw hk (lv_sub hl [2, 1, 0] rfl)
def wp_X6_roadTold (σ : Sg) (Q : Sg → Prop) : Prop := wp_X6_roads σ  (fun r2 σ1 => (r2 = (12 : Int32) → (wp_X6_fails σ1 (3 : Int32) (σ1 30 8) (fun σ25 => wp_X6_roadTold_18 Q   σ25))) ∧ (¬ (r2 = (12 : Int32)) → (wp_X6_roadTold_18 Q   σ1)))
set_option maxHeartbeats 4000000 in
set_option maxRecDepth 100000 in
theorem c_X6_roadTold (l : Launch) (G : Gw) (σ : Sg) (Q : Sg → Prop) (hw : wp_X6_roadTold σ  Q) : MetV l yX6_roadTold wz_X6_roadTold rm_X6_roadTold G σ [.ref (G.1 30)] Q := by
  refine MetV.of cX6_roadTold 6 none (by decide) rfl (Nat.le_of_ble_eq_true rfl) ?_
  intro p e s m below meth c X hk ls hl
  have X : KC p m meth c cX6_roadTold 6 s _ wz_X6_roadTold RX6 none G := X
  have hl : lv_has ls 6 [(0, .ref (G.1 30))] := hl
  unfold wp_X6_roadTold at hw
  have hx := X.1.1
  have hb := X.1.2.1
  refine lv_aload_n hx hb dX6_roadTold_0 rfl (lv_at hl 0 rfl) ?_
  refine k_callVi (rest := []) X hk (c_X6_roads l G _  _ hw) (cwV 0 X.1.2.2.2.2 (gzV (aw_r16 _ (List.mem_of_getElem? (i := 18) rfl)) (aw_r16 _ (List.mem_of_getElem? (i := 19) rfl)) (aw_r16 _ (List.mem_of_getElem? (i := 20) rfl)) (aw_r1 _ (List.mem_of_getElem? (i := 5) rfl)) (aw_r16 _ (List.mem_of_getElem? (i := 21) rfl))) rfl rfl rfl hd_X6_roads ⟨(Nat.le_of_ble_eq_true rfl), (Nat.le_of_ble_eq_true rfl)⟩) (wg_30 G _) rfl rfl hl.1 rfl (Nat.le_of_ble_eq_true rfl) dX6_roadTold_1 ⟨Nat.zero_le _, Nat.zero_le _⟩ (fun r2 σ1 H locs hw hk => ?_)
  refine lv_bipush (v := (12 : Int32)) hx hb dX6_roadTold_4 (by decide) ?_
  refine lv_icmp_ne (tgt := 18) hx hb dX6_roadTold_6 (by decide) (fun c3 => ?_) (fun c3 => ?_)
  · replace hw := hw.2 c3
    exact t_X6_roadTold_18 X Q   _  _ _ _ hw hk hl
  · replace hw := hw.1 c3
    refine lv_aload_n hx hb dX6_roadTold_9 rfl (lv_at hl 0 rfl) ?_
    refine lv_iconst (v := (3 : Int32)) hx hb dX6_roadTold_10 (by decide) ?_
    refine lv_aload_n hx hb dX6_roadTold_11 rfl (lv_at hl 0 rfl) ?_
    refine k_get 8 X hk (wg_30 G _) rfl (hz_wsX60 _) (Nat.le_of_ble_eq_true rfl) (List.mem_cons_of_mem _ (aw_r15 _ (List.mem_of_getElem? (i := 2) rfl))) rfl dX6_roadTold_12 ?_
    refine k_callVv (rest := []) X hk (c_X6_fails l G _ _ _ _ hw) (cwV 2 X.1.2.2.2.2 (gzV (aw_r15 _ (List.mem_of_getElem? (i := 18) rfl)) (aw_r15 _ (List.mem_of_getElem? (i := 19) rfl)) (aw_r15 _ (List.mem_of_getElem? (i := 20) rfl)) (aw_r1 _ (List.mem_of_getElem? (i := 5) rfl)) (aw_r15 _ (List.mem_of_getElem? (i := 21) rfl))) rfl rfl rfl hd_X6_fails ⟨(Nat.le_of_ble_eq_true rfl), (Nat.le_of_ble_eq_true rfl)⟩) (wg_30 G _) rfl rfl hl.1 rfl (Nat.le_of_ble_eq_true rfl) dX6_roadTold_15 ⟨Nat.zero_le _, Nat.zero_le _⟩ (fun σ25 H locs hw hk => ?_)
    exact t_X6_roadTold_18 X Q   _  _ _ _ hw hk hl
def rm_X6_turnTold : Room := { frames := 4, cells := 0, slots := 0, locals := 89 }
abbrev wz_X6_turnTold : List Cond := Cond.code yX6_turnTold cX6_turnTold 3 none :: wsA
theorem hd_X6_turnTold : yX6_turnTold.cls = RX6 ∧ yX6_turnTold.cls ≠ "java/lang/invoke/MethodHandle" ∧ yX6_turnTold.cls ≠ "java/lang/invoke/VarHandle" ∧ (parseMethodDescriptor yX6_turnTold.desc).map (fun d => d.parameters.length) = some 0 := by decide +kernel
def wp_X6_turnTold_42 (Q : Sg → Prop)  (x1 x2 : Int32) (σ : Sg) : Prop := ((σ 30 5) = 0 → (wp_X6_turnsRoad σ x1 x2 (fun σ9 => Q σ9))) ∧ (¬ ((σ 30 5) = 0) → (Q σ))
set_option maxHeartbeats 4000000 in
set_option maxRecDepth 100000 in
theorem t_X6_turnTold_42 {p : Program} {l : Launch} {e : Env} {s : State} {m : MethodId} {args : Array Value} {below : List Frame} {meth : Method} {c : Code} {G : Gw} (X : KC p m meth c cX6_turnTold 3 s args wz_X6_turnTold RX6 none G) (Q : Sg → Prop)  : ∀ (σ : Sg) (x1 x2 : Int32) (H : Heap) (locs : List Loc) (ls : Array Slot), wp_X6_turnTold_42 Q  x1 x2 σ → WK G s H locs σ → lv_has ls 3 [(0, .ref (G.1 30)), (1, .int x1), (2, .int x2)] → W p l e rm_X6_turnTold s m args below meth c H locs 0 0 (ZV below args s G Q) (F0 m 42 ls []) := by
  have hx := X.1.1
  have hb := X.1.2.1
  intro σ x1 x2 H locs ls hw hk hl
  unfold wp_X6_turnTold_42 at hw
  refine lv_aload_n hx hb dX6_turnTold_42 rfl (lv_at hl 0 rfl) ?_
  refine k_get 5 X hk (wg_30 G _) rfl (hz_wsX60 _) (Nat.le_of_ble_eq_true rfl) (List.mem_cons_of_mem _ (aw_r14 _ (List.mem_of_getElem? (i := 12) rfl))) rfl dX6_turnTold_43 ?_
  refine lv_if_ne (tgt := 55) hx hb dX6_turnTold_46 (by decide) (fun c8 => ?_) (fun c8 => ?_)
  · replace hw := hw.2 c8
    exact k_vret X hk hw dX6_turnTold_55
  · replace hw := hw.1 c8
    refine lv_aload_n hx hb dX6_turnTold_49 rfl (lv_at hl 0 rfl) ?_
    refine lv_iload_n hx hb dX6_turnTold_50 rfl (lv_at hl 1 rfl) ?_
    refine lv_iload_n hx hb dX6_turnTold_51 rfl (lv_at hl 2 rfl) ?_
    refine k_callVv (rest := []) X hk (c_X6_turnsRoad l G _ _ _ _ hw) (cwV 2 X.1.2.2.2.2 (gzV (aw_r17 _ (List.mem_of_getElem? (i := 18) rfl)) (aw_r17 _ (List.mem_of_getElem? (i := 19) rfl)) (aw_r17 _ (List.mem_of_getElem? (i := 20) rfl)) (aw_r1 _ (List.mem_of_getElem? (i := 5) rfl)) (aw_r17 _ (List.mem_of_getElem? (i := 21) rfl))) rfl rfl rfl hd_X6_turnsRoad ⟨(Nat.le_of_ble_eq_true rfl), (Nat.le_of_ble_eq_true rfl)⟩) (wg_30 G _) rfl rfl hl.1 rfl (Nat.le_of_ble_eq_true rfl) dX6_turnTold_52 ⟨Nat.zero_le _, Nat.zero_le _⟩ (fun σ9 H locs hw hk => ?_)
    exact k_vret X hk hw dX6_turnTold_55
def wp_X6_turnTold (σ : Sg) (Q : Sg → Prop) : Prop := wp_X6_roads σ  (fun r2 σ1 => wp_X6_number_ σ1 (0 : Int32) (r2 - (1 : Int32)) (fun r4 σ3 => wp_X6_number σ3  (fun r6 σ5 => ((σ5 30 5) = 0 → (wp_X6_mayTurn σ5 r4 r6 (fun r12 σ11 => (r12 = 0 → (wp_X6_fails σ11 (2 : Int32) (σ11 30 8) (fun σ14 => wp_X6_turnTold_42 Q  r4 r6 σ14))) ∧ (¬ (r12 = 0) → (wp_X6_turnTold_42 Q  r4 r6 σ11))))) ∧ (¬ ((σ5 30 5) = 0) → (wp_X6_turnTold_42 Q  r4 r6 σ5)))))
set_option maxHeartbeats 4000000 in
set_option maxRecDepth 100000 in
theorem c_X6_turnTold (l : Launch) (G : Gw) (σ : Sg) (Q : Sg → Prop) (hw : wp_X6_turnTold σ  Q) : MetV l yX6_turnTold wz_X6_turnTold rm_X6_turnTold G σ [.ref (G.1 30)] Q := by
  refine MetV.of cX6_turnTold 3 none (by decide) rfl (Nat.le_of_ble_eq_true rfl) ?_
  intro p e s m below meth c X hk ls hl
  have X : KC p m meth c cX6_turnTold 3 s _ wz_X6_turnTold RX6 none G := X
  have hl : lv_has ls 3 [(0, .ref (G.1 30))] := hl
  unfold wp_X6_turnTold at hw
  have hx := X.1.1
  have hb := X.1.2.1
  refine lv_aload_n hx hb dX6_turnTold_0 rfl (lv_at hl 0 rfl) ?_
  refine lv_iconst (v := (0 : Int32)) hx hb dX6_turnTold_1 (by decide) ?_
  refine lv_aload_n hx hb dX6_turnTold_2 rfl (lv_at hl 0 rfl) ?_
  refine k_callVi (rest := [.int (0 : Int32), .ref (G.1 30)]) X hk (c_X6_roads l G _  _ hw) (cwV 0 X.1.2.2.2.2 (gzV (aw_r16 _ (List.mem_of_getElem? (i := 18) rfl)) (aw_r16 _ (List.mem_of_getElem? (i := 19) rfl)) (aw_r16 _ (List.mem_of_getElem? (i := 20) rfl)) (aw_r1 _ (List.mem_of_getElem? (i := 5) rfl)) (aw_r16 _ (List.mem_of_getElem? (i := 21) rfl))) rfl rfl rfl hd_X6_roads ⟨(Nat.le_of_ble_eq_true rfl), (Nat.le_of_ble_eq_true rfl)⟩) (wg_30 G _) rfl rfl hl.1 rfl (Nat.le_of_ble_eq_true rfl) dX6_turnTold_3 ⟨Nat.zero_le _, Nat.zero_le _⟩ (fun r2 σ1 H locs hw hk => ?_)
  refine lv_iconst (v := (1 : Int32)) hx hb dX6_turnTold_6 (by decide) ?_
  refine lv_isub hx hb dX6_turnTold_7 ?_
  refine k_callVi (rest := []) X hk (c_X6_number_ l G _ _ _ _ hw) (cwV 2 X.1.2.2.2.2 (gzV (aw_r15 _ (List.mem_of_getElem? (i := 22) rfl)) (aw_r15 _ (List.mem_of_getElem? (i := 23) rfl)) (aw_r16 _ (List.mem_of_getElem? (i := 0) rfl)) (aw_r1 _ (List.mem_of_getElem? (i := 5) rfl)) (aw_r16 _ (List.mem_of_getElem? (i := 1) rfl))) rfl rfl rfl hd_X6_number_ ⟨(Nat.le_of_ble_eq_true rfl), (Nat.le_of_ble_eq_true rfl)⟩) (wg_30 G _) rfl rfl hl.1 rfl (Nat.le_of_ble_eq_true rfl) dX6_turnTold_8 ⟨Nat.zero_le _, Nat.zero_le _⟩ (fun r4 σ3 H locs hw hk => ?_)
  refine lv_istore_n (lv' := [(1, .int r4), (0, .ref (G.1 30))]) hx hb dX6_turnTold_11 rfl hl (Nat.le_of_ble_eq_true rfl) rfl (fun ls hl => ?_)
  refine lv_aload_n hx hb dX6_turnTold_12 rfl (lv_at hl 1 rfl) ?_
  refine k_callVi (rest := []) X hk (c_X6_number l G _  _ hw) (cwV 0 X.1.2.2.2.2 (gzV (aw_r16 _ (List.mem_of_getElem? (i := 2) rfl)) (aw_r16 _ (List.mem_of_getElem? (i := 3) rfl)) (aw_r16 _ (List.mem_of_getElem? (i := 4) rfl)) (aw_r1 _ (List.mem_of_getElem? (i := 5) rfl)) (aw_r16 _ (List.mem_of_getElem? (i := 5) rfl))) rfl rfl rfl hd_X6_number ⟨(Nat.le_of_ble_eq_true rfl), (Nat.le_of_ble_eq_true rfl)⟩) (wg_30 G _) rfl rfl hl.1 rfl (Nat.le_of_ble_eq_true rfl) dX6_turnTold_13 ⟨Nat.zero_le _, Nat.zero_le _⟩ (fun r6 σ5 H locs hw hk => ?_)
  refine lv_istore_n (lv' := [(2, .int r6), (1, .int r4), (0, .ref (G.1 30))]) hx hb dX6_turnTold_16 rfl hl (Nat.le_of_ble_eq_true rfl) rfl (fun ls hl => ?_)
  refine lv_aload_n hx hb dX6_turnTold_17 rfl (lv_at hl 2 rfl) ?_
  refine k_get 5 X hk (wg_30 G _) rfl (hz_wsX60 _) (Nat.le_of_ble_eq_true rfl) (List.mem_cons_of_mem _ (aw_r14 _ (List.mem_of_getElem? (i := 12) rfl))) rfl dX6_turnTold_18 ?_
  refine lv_if_ne (tgt := 42) hx hb dX6_turnTold_21 (by decide) (fun c7 => ?_) (fun c7 => ?_)
  · replace hw := hw.2 c7
    exact t_X6_turnTold_42 X Q   _ _ _ _ _ _ hw hk (lv_sub hl [2, 1, 0] rfl)
  · replace hw := hw.1 c7
    refine lv_aload_n hx hb dX6_turnTold_24 rfl (lv_at hl 2 rfl) ?_
    refine lv_iload_n hx hb dX6_turnTold_25 rfl (lv_at hl 1 rfl) ?_
    refine lv_iload_n hx hb dX6_turnTold_26 rfl (lv_at hl 0 rfl) ?_
    refine k_callVi (rest := []) X hk (c_X6_mayTurn l G _ _ _ _ hw) (cwV 2 X.1.2.2.2.2 (gzV (aw_r17 _ (List.mem_of_getElem? (i := 6) rfl)) (aw_r17 _ (List.mem_of_getElem? (i := 7) rfl)) (aw_r17 _ (List.mem_of_getElem? (i := 8) rfl)) (aw_r1 _ (List.mem_of_getElem? (i := 5) rfl)) (aw_r17 _ (List.mem_of_getElem? (i := 9) rfl))) rfl rfl rfl hd_X6_mayTurn ⟨(Nat.le_of_ble_eq_true rfl), (Nat.le_of_ble_eq_true rfl)⟩) (wg_30 G _) rfl rfl hl.1 rfl (Nat.le_of_ble_eq_true rfl) dX6_turnTold_27 ⟨Nat.zero_le _, Nat.zero_le _⟩ (fun r12 σ11 H locs hw hk => ?_)
    refine lv_if_ne (tgt := 42) hx hb dX6_turnTold_30 (by decide) (fun c13 => ?_) (fun c13 => ?_)
    · replace hw := hw.2 c13
      exact t_X6_turnTold_42 X Q   _ _ _ _ _ _ hw hk (lv_sub hl [2, 1, 0] rfl)
    · replace hw := hw.1 c13
      refine lv_aload_n hx hb dX6_turnTold_33 rfl (lv_at hl 2 rfl) ?_
      refine lv_iconst (v := (2 : Int32)) hx hb dX6_turnTold_34 (by decide) ?_
      refine lv_aload_n hx hb dX6_turnTold_35 rfl (lv_at hl 2 rfl) ?_
      refine k_get 8 X hk (wg_30 G _) rfl (hz_wsX60 _) (Nat.le_of_ble_eq_true rfl) (List.mem_cons_of_mem _ (aw_r15 _ (List.mem_of_getElem? (i := 2) rfl))) rfl dX6_turnTold_36 ?_
      refine k_callVv (rest := []) X hk (c_X6_fails l G _ _ _ _ hw) (cwV 2 X.1.2.2.2.2 (gzV (aw_r15 _ (List.mem_of_getElem? (i := 18) rfl)) (aw_r15 _ (List.mem_of_getElem? (i := 19) rfl)) (aw_r15 _ (List.mem_of_getElem? (i := 20) rfl)) (aw_r1 _ (List.mem_of_getElem? (i := 5) rfl)) (aw_r15 _ (List.mem_of_getElem? (i := 21) rfl))) rfl rfl rfl hd_X6_fails ⟨(Nat.le_of_ble_eq_true rfl), (Nat.le_of_ble_eq_true rfl)⟩) (wg_30 G _) rfl rfl hl.1 rfl (Nat.le_of_ble_eq_true rfl) dX6_turnTold_39 ⟨Nat.zero_le _, Nat.zero_le _⟩ (fun σ14 H locs hw hk => ?_)
      exact t_X6_turnTold_42 X Q   _ _ _ _ _ _ hw hk (lv_sub hl [2, 1, 0] rfl)
def rm_X6_moveTold : Room := { frames := 4, cells := 0, slots := 0, locals := 89 }
abbrev wz_X6_moveTold : List Cond := Cond.code yX6_moveTold cX6_moveTold 6 none :: wsA
theorem hd_X6_moveTold : yX6_moveTold.cls = RX6 ∧ yX6_moveTold.cls ≠ "java/lang/invoke/MethodHandle" ∧ yX6_moveTold.cls ≠ "java/lang/invoke/VarHandle" ∧ (parseMethodDescriptor yX6_moveTold.desc).map (fun d => d.parameters.length) = some 0 := by decide +kernel
def wp_X6_moveTold_105 (Q : Sg → Prop)  (x1 x2 x4 : Int32) (σ : Sg) : Prop := wp_X6_number_ σ (1 : Int32) (60 : Int32) (fun r21 σ20 => ((σ20 30 5) = 0 → (wp_X6_moveMore σ20 x1 x2 x4 r21 (fun σ23 => Q σ23))) ∧ (¬ ((σ20 30 5) = 0) → (Q σ20)))
set_option maxHeartbeats 4000000 in
set_option maxRecDepth 100000 in
theorem t_X6_moveTold_105 {p : Program} {l : Launch} {e : Env} {s : State} {m : MethodId} {args : Array Value} {below : List Frame} {meth : Method} {c : Code} {G : Gw} (X : KC p m meth c cX6_moveTold 6 s args wz_X6_moveTold RX6 none G) (Q : Sg → Prop)  : ∀ (σ : Sg) (x1 x2 x4 : Int32) (H : Heap) (locs : List Loc) (ls : Array Slot), wp_X6_moveTold_105 Q  x1 x2 x4 σ → WK G s H locs σ → lv_has ls 6 [(0, .ref (G.1 30)), (1, .int x1), (2, .int x2), (4, .int x4)] → W p l e rm_X6_moveTold s m args below meth c H locs 0 0 (ZV below args s G Q) (F0 m 105 ls []) := by
  have hx := X.1.1
  have hb := X.1.2.1
  intro σ x1 x2 x4 H locs ls hw hk hl
  unfold wp_X6_moveTold_105 at hw
  refine lv_aload_n hx hb dX6_moveTold_105 rfl (lv_at hl 0 rfl) ?_
  refine lv_iconst (v := (1 : Int32)) hx hb dX6_moveTold_106 (by decide) ?_
  refine lv_bipush (v := (60 : Int32)) hx hb dX6_moveTold_107 (by decide) ?_
  refine k_callVi (rest := []) X hk (c_X6_number_ l G _ _ _ _ hw) (cwV 2 X.1.2.2.2.2 (gzV (aw_r15 _ (List.mem_of_getElem? (i := 22) rfl)) (aw_r15 _ (List.mem_of_getElem? (i := 23) rfl)) (aw_r16 _ (List.mem_of_getElem? (i := 0) rfl)) (aw_r1 _ (List.mem_of_getElem? (i := 5) rfl)) (aw_r16 _ (List.mem_of_getElem? (i := 1) rfl))) rfl rfl rfl hd_X6_number_ ⟨(Nat.le_of_ble_eq_true rfl), (Nat.le_of_ble_eq_true rfl)⟩) (wg_30 G _) rfl rfl hl.1 rfl (Nat.le_of_ble_eq_true rfl) dX6_moveTold_109 ⟨Nat.zero_le _, Nat.zero_le _⟩ (fun r21 σ20 H locs hw hk => ?_)
  refine lv_istore (lv' := [(5, .int r21), (0, .ref (G.1 30)), (1, .int x1), (2, .int x2), (4, .int x4)]) hx hb dX6_moveTold_112 hl (Nat.le_of_ble_eq_true rfl) rfl (fun ls hl => ?_)
  refine lv_aload_n hx hb dX6_moveTold_114 rfl (lv_at hl 1 rfl) ?_
  refine k_get 5 X hk (wg_30 G _) rfl (hz_wsX60 _) (Nat.le_of_ble_eq_true rfl) (List.mem_cons_of_mem _ (aw_r14 _ (List.mem_of_getElem? (i := 12) rfl))) rfl dX6_moveTold_115 ?_
  refine lv_if_ne (tgt := 131) hx hb dX6_moveTold_118 (by decide) (fun c22 => ?_) (fun c22 => ?_)
  · replace hw := hw.2 c22
    exact k_vret X hk hw dX6_moveTold_131
  · replace hw := hw.1 c22
    refine lv_aload_n hx hb dX6_moveTold_121 rfl (lv_at hl 1 rfl) ?_
    refine lv_iload_n hx hb dX6_moveTold_122 rfl (lv_at hl 2 rfl) ?_
    refine lv_iload_n hx hb dX6_moveTold_123 rfl (lv_at hl 3 rfl) ?_
    refine lv_iload hx hb dX6_moveTold_124 (lv_at hl 4 rfl) ?_
    refine lv_iload hx hb dX6_moveTold_126 (lv_at hl 0 rfl) ?_
    refine k_callVv (rest := []) X hk (c_X6_moveMore l G _ _ _ _ _ _ hw) (cwV 4 X.1.2.2.2.2 (gzV (aw_r18 _ (List.mem_of_getElem? (i := 6) rfl)) (aw_r18 _ (List.mem_of_getElem? (i := 7) rfl)) (aw_r18 _ (List.mem_of_getElem? (i := 8) rfl)) (aw_r1 _ (List.mem_of_getElem? (i := 5) rfl)) (aw_r18 _ (List.mem_of_getElem? (i := 9) rfl))) rfl rfl rfl hd_X6_moveMore ⟨(Nat.le_of_ble_eq_true rfl), (Nat.le_of_ble_eq_true rfl)⟩) (wg_30 G _) rfl rfl hl.1 rfl (Nat.le_of_ble_eq_true rfl) dX6_moveTold_128 ⟨Nat.zero_le _, Nat.zero_le _⟩ (fun σ23 H locs hw hk => ?_)
    exact k_vret X hk hw dX6_moveTold_131
def wp_X6_moveTold_88 (Q : Sg → Prop)  (x1 x2 y0 : Int32) (σ : Sg) : Prop := (y0 = (-1 : Int32) → (wp_X6_fails σ (1 : Int32) (σ 30 8) (fun σ25 => wp_X6_moveTold_105 Q  x1 x2 y0 σ25))) ∧ (¬ (y0 = (-1 : Int32)) → (wp_X6_moveTold_105 Q  x1 x2 y0 σ))
set_option maxHeartbeats 4000000 in
set_option maxRecDepth 100000 in
theorem t_X6_moveTold_88 {p : Program} {l : Launch} {e : Env} {s : State} {m : MethodId} {args : Array Value} {below : List Frame} {meth : Method} {c : Code} {G : Gw} (X : KC p m meth c cX6_moveTold 6 s args wz_X6_moveTold RX6 none G) (Q : Sg → Prop)  : ∀ (σ : Sg) (x1 x2 y0 : Int32) (H : Heap) (locs : List Loc) (ls : Array Slot), wp_X6_moveTold_88 Q  x1 x2 y0 σ → WK G s H locs σ → lv_has ls 6 [(0, .ref (G.1 30)), (1, .int x1), (2, .int x2)] → W p l e rm_X6_moveTold s m args below meth c H locs 0 0 (ZV below args s G Q) (F0 m 88 ls [.int y0]) := by
  have hx := X.1.1
  have hb := X.1.2.1
  intro σ x1 x2 y0 H locs ls hw hk hl
  unfold wp_X6_moveTold_88 at hw
  refine lv_istore (lv' := [(4, .int y0), (0, .ref (G.1 30)), (1, .int x1), (2, .int x2)]) hx hb dX6_moveTold_88 hl (Nat.le_of_ble_eq_true rfl) rfl (fun ls hl => ?_)
  refine lv_iload hx hb dX6_moveTold_90 (lv_at hl 0 rfl) ?_
  refine lv_iconst (v := (-1 : Int32)) hx hb dX6_moveTold_92 (by decide) ?_
  refine lv_icmp_ne (tgt := 105) hx hb dX6_moveTold_93 (by decide) (fun c19 => ?_) (fun c19 => ?_)
  · replace hw := hw.2 c19
    exact t_X6_moveTold_105 X Q   _ _ _ _ _ _ _ hw hk (lv_sub hl [1, 2, 3, 0] rfl)
  · replace hw := hw.1 c19
    refine lv_aload_n hx hb dX6_moveTold_96 rfl (lv_at hl 1 rfl) ?_
    refine lv_iconst (v := (1 : Int32)) hx hb dX6_moveTold_97 (by decide) ?_
    refine lv_aload_n hx hb dX6_moveTold_98 rfl (lv_at hl 1 rfl) ?_
    refine k_get 8 X hk (wg_30 G _) rfl (hz_wsX60 _) (Nat.le_of_ble_eq_true rfl) (List.mem_cons_of_mem _ (aw_r15 _ (List.mem_of_getElem? (i := 2) rfl))) rfl dX6_moveTold_99 ?_
    refine k_callVv (rest := []) X hk (c_X6_fails l G _ _ _ _ hw) (cwV 2 X.1.2.2.2.2 (gzV (aw_r15 _ (List.mem_of_getElem? (i := 18) rfl)) (aw_r15 _ (List.mem_of_getElem? (i := 19) rfl)) (aw_r15 _ (List.mem_of_getElem? (i := 20) rfl)) (aw_r1 _ (List.mem_of_getElem? (i := 5) rfl)) (aw_r15 _ (List.mem_of_getElem? (i := 21) rfl))) rfl rfl rfl hd_X6_fails ⟨(Nat.le_of_ble_eq_true rfl), (Nat.le_of_ble_eq_true rfl)⟩) (wg_30 G _) rfl rfl hl.1 rfl (Nat.le_of_ble_eq_true rfl) dX6_moveTold_102 ⟨Nat.zero_le _, Nat.zero_le _⟩ (fun σ25 H locs hw hk => ?_)
    exact t_X6_moveTold_105 X Q   _ _ _ _ _ _ _ hw hk (lv_sub hl [1, 2, 3, 0] rfl)
def wp_X6_moveTold_18 (Q : Sg → Prop)  (σ : Sg) : Prop := wp_X6_number_ σ (0 : Int32) (40 : Int32) (fun r5 σ4 => wp_X6_roads σ4  (fun r7 σ6 => wp_X6_number_ σ6 (0 : Int32) (r7 - (1 : Int32)) (fun r9 σ8 => ((σ8 30 5) = 0 → (wp_X6_word σ8  (fun r12 σ11 => wp_X6_letters σ11 (20 : Int32) (8 : Int32) (5 : Int32) (18 : Int32) (5 : Int32) (fun r14 σ13 => (r12 = r14 → (wp_X6_moveTold_88 Q  r5 r9 (0 : Int32) σ13)) ∧ (¬ (r12 = r14) → (wp_X6_letters σ13 (0 : Int32) (2 : Int32) (1 : Int32) (3 : Int32) (11 : Int32) (fun r17 σ16 => (r12 = r17 → (wp_X6_moveTold_88 Q  r5 r9 (1 : Int32) σ16)) ∧ (¬ (r12 = r17) → (wp_X6_moveTold_88 Q  r5 r9 (-1 : Int32) σ16))))))))) ∧ (¬ ((σ8 30 5) = 0) → (Q σ8)))))
set_option maxHeartbeats 4000000 in
set_option maxRecDepth 100000 in
theorem t_X6_moveTold_18 {p : Program} {l : Launch} {e : Env} {s : State} {m : MethodId} {args : Array Value} {below : List Frame} {meth : Method} {c : Code} {G : Gw} (X : KC p m meth c cX6_moveTold 6 s args wz_X6_moveTold RX6 none G) (Q : Sg → Prop)  : ∀ (σ : Sg) (H : Heap) (locs : List Loc) (ls : Array Slot), wp_X6_moveTold_18 Q   σ → WK G s H locs σ → lv_has ls 6 [(0, .ref (G.1 30))] → W p l e rm_X6_moveTold s m args below meth c H locs 0 0 (ZV below args s G Q) (F0 m 18 ls []) := by
  have hx := X.1.1
  have hb := X.1.2.1
  intro σ H locs ls hw hk hl
  unfold wp_X6_moveTold_18 at hw
  refine lv_aload_n hx hb dX6_moveTold_18 rfl (lv_at hl 0 rfl) ?_
  refine lv_iconst (v := (0 : Int32)) hx hb dX6_moveTold_19 (by decide) ?_
  refine lv_bipush (v := (40 : Int32)) hx hb dX6_moveTold_20 (by decide) ?_
  refine k_callVi (rest := []) X hk (c_X6_number_ l G _ _ _ _ hw) (cwV 2 X.1.2.2.2.2 (gzV (aw_r15 _ (List.mem_of_getElem? (i := 22) rfl)) (aw_r15 _ (List.mem_of_getElem? (i := 23) rfl)) (aw_r16 _ (List.mem_of_getElem? (i := 0) rfl)) (aw_r1 _ (List.mem_of_getElem? (i := 5) rfl)) (aw_r16 _ (List.mem_of_getElem? (i := 1) rfl))) rfl rfl rfl hd_X6_number_ ⟨(Nat.le_of_ble_eq_true rfl), (Nat.le_of_ble_eq_true rfl)⟩) (wg_30 G _) rfl rfl hl.1 rfl (Nat.le_of_ble_eq_true rfl) dX6_moveTold_22 ⟨Nat.zero_le _, Nat.zero_le _⟩ (fun r5 σ4 H locs hw hk => ?_)
  refine lv_istore_n (lv' := [(1, .int r5), (0, .ref (G.1 30))]) hx hb dX6_moveTold_25 rfl hl (Nat.le_of_ble_eq_true rfl) rfl (fun ls hl => ?_)
  refine lv_aload_n hx hb dX6_moveTold_26 rfl (lv_at hl 1 rfl) ?_
  refine lv_iconst (v := (0 : Int32)) hx hb dX6_moveTold_27 (by decide) ?_
  refine lv_aload_n hx hb dX6_moveTold_28 rfl (lv_at hl 1 rfl) ?_
  refine k_callVi (rest := [.int (0 : Int32), .ref (G.1 30)]) X hk (c_X6_roads l G _  _ hw) (cwV 0 X.1.2.2.2.2 (gzV (aw_r16 _ (List.mem_of_getElem? (i := 18) rfl)) (aw_r16 _ (List.mem_of_getElem? (i := 19) rfl)) (aw_r16 _ (List.mem_of_getElem? (i := 20) rfl)) (aw_r1 _ (List.mem_of_getElem? (i := 5) rfl)) (aw_r16 _ (List.mem_of_getElem? (i := 21) rfl))) rfl rfl rfl hd_X6_roads ⟨(Nat.le_of_ble_eq_true rfl), (Nat.le_of_ble_eq_true rfl)⟩) (wg_30 G _) rfl rfl hl.1 rfl (Nat.le_of_ble_eq_true rfl) dX6_moveTold_29 ⟨Nat.zero_le _, Nat.zero_le _⟩ (fun r7 σ6 H locs hw hk => ?_)
  refine lv_iconst (v := (1 : Int32)) hx hb dX6_moveTold_32 (by decide) ?_
  refine lv_isub hx hb dX6_moveTold_33 ?_
  refine k_callVi (rest := []) X hk (c_X6_number_ l G _ _ _ _ hw) (cwV 2 X.1.2.2.2.2 (gzV (aw_r15 _ (List.mem_of_getElem? (i := 22) rfl)) (aw_r15 _ (List.mem_of_getElem? (i := 23) rfl)) (aw_r16 _ (List.mem_of_getElem? (i := 0) rfl)) (aw_r1 _ (List.mem_of_getElem? (i := 5) rfl)) (aw_r16 _ (List.mem_of_getElem? (i := 1) rfl))) rfl rfl rfl hd_X6_number_ ⟨(Nat.le_of_ble_eq_true rfl), (Nat.le_of_ble_eq_true rfl)⟩) (wg_30 G _) rfl rfl hl.1 rfl (Nat.le_of_ble_eq_true rfl) dX6_moveTold_34 ⟨Nat.zero_le _, Nat.zero_le _⟩ (fun r9 σ8 H locs hw hk => ?_)
  refine lv_istore_n (lv' := [(2, .int r9), (1, .int r5), (0, .ref (G.1 30))]) hx hb dX6_moveTold_37 rfl hl (Nat.le_of_ble_eq_true rfl) rfl (fun ls hl => ?_)
  refine lv_aload_n hx hb dX6_moveTold_38 rfl (lv_at hl 2 rfl) ?_
  refine k_get 5 X hk (wg_30 G _) rfl (hz_wsX60 _) (Nat.le_of_ble_eq_true rfl) (List.mem_cons_of_mem _ (aw_r14 _ (List.mem_of_getElem? (i := 12) rfl))) rfl dX6_moveTold_39 ?_
  refine lv_if_eq (tgt := 46) hx hb dX6_moveTold_42 (by decide) (fun c10 => ?_) (fun c10 => ?_)
  · replace hw := hw.1 c10
    refine lv_aload_n hx hb dX6_moveTold_46 rfl (lv_at hl 2 rfl) ?_
    refine k_callVi (rest := []) X hk (c_X6_word l G _  _ hw) (cwV 0 X.1.2.2.2.2 (gzV (aw_r15 _ (List.mem_of_getElem? (i := 3) rfl)) (aw_r15 _ (List.mem_of_getElem? (i := 4) rfl)) (aw_r15 _ (List.mem_of_getElem? (i := 5) rfl)) (aw_r1 _ (List.mem_of_getElem? (i := 5) rfl)) (aw_r15 _ (List.mem_of_getElem? (i := 6) rfl))) rfl rfl rfl hd_X6_word ⟨(Nat.le_of_ble_eq_true rfl), (Nat.le_of_ble_eq_true rfl)⟩) (wg_30 G _) rfl rfl hl.1 rfl (Nat.le_of_ble_eq_true rfl) dX6_moveTold_47 ⟨Nat.zero_le _, Nat.zero_le _⟩ (fun r12 σ11 H locs hw hk => ?_)
    refine lv_istore_n (lv' := [(3, .int r12), (2, .int r9), (1, .int r5), (0, .ref (G.1 30))]) hx hb dX6_moveTold_50 rfl hl (Nat.le_of_ble_eq_true rfl) rfl (fun ls hl => ?_)
    refine lv_iload_n hx hb dX6_moveTold_51 rfl (lv_at hl 0 rfl) ?_
    refine lv_bipush (v := (20 : Int32)) hx hb dX6_moveTold_52 (by decide) ?_
    refine lv_bipush (v := (8 : Int32)) hx hb dX6_moveTold_54 (by decide) ?_
    refine lv_iconst (v := (5 : Int32)) hx hb dX6_moveTold_56 (by decide) ?_
    refine lv_bipush (v := (18 : Int32)) hx hb dX6_moveTold_57 (by decide) ?_
    refine lv_iconst (v := (5 : Int32)) hx hb dX6_moveTold_59 (by decide) ?_
    refine k_callSi (rest := [.int r12]) X hk (c_X6_letters l G _ _ _ _ _ _ _ hw) (va_cwS 5 X.1.2.2.2.2 (gzS (aw_r15 _ (List.mem_of_getElem? (i := 7) rfl)) (aw_r15 _ (List.mem_of_getElem? (i := 8) rfl)) (aw_r1 _ (List.mem_of_getElem? (i := 5) rfl)) (aw_r15 _ (List.mem_of_getElem? (i := 9) rfl))) rfl rfl rfl hds_X6_letters ⟨(Nat.le_of_ble_eq_true rfl), (Nat.le_of_ble_eq_true rfl)⟩) rfl hl.1 rfl (Nat.le_of_ble_eq_true rfl) dX6_moveTold_60 ⟨Nat.zero_le _, Nat.zero_le _⟩ (fun r14 σ13 H locs hw hk => ?_)
    refine lv_icmp_ne (tgt := 70) hx hb dX6_moveTold_63 (by decide) (fun c15 => ?_) (fun c15 => ?_)
    · replace hw := hw.2 c15
      refine lv_iload_n hx hb dX6_moveTold_70 rfl (lv_at hl 0 rfl) ?_
      refine lv_iconst (v := (0 : Int32)) hx hb dX6_moveTold_71 (by decide) ?_
      refine lv_iconst (v := (2 : Int32)) hx hb dX6_moveTold_72 (by decide) ?_
      refine lv_iconst (v := (1 : Int32)) hx hb dX6_moveTold_73 (by decide) ?_
      refine lv_iconst (v := (3 : Int32)) hx hb dX6_moveTold_74 (by decide) ?_
      refine lv_bipush (v := (11 : Int32)) hx hb dX6_moveTold_75 (by decide) ?_
      refine k_callSi (rest := [.int r12]) X hk (c_X6_letters l G _ _ _ _ _ _ _ hw) (va_cwS 5 X.1.2.2.2.2 (gzS (aw_r15 _ (List.mem_of_getElem? (i := 7) rfl)) (aw_r15 _ (List.mem_of_getElem? (i := 8) rfl)) (aw_r1 _ (List.mem_of_getElem? (i := 5) rfl)) (aw_r15 _ (List.mem_of_getElem? (i := 9) rfl))) rfl rfl rfl hds_X6_letters ⟨(Nat.le_of_ble_eq_true rfl), (Nat.le_of_ble_eq_true rfl)⟩) rfl hl.1 rfl (Nat.le_of_ble_eq_true rfl) dX6_moveTold_77 ⟨Nat.zero_le _, Nat.zero_le _⟩ (fun r17 σ16 H locs hw hk => ?_)
      refine lv_icmp_ne (tgt := 87) hx hb dX6_moveTold_80 (by decide) (fun c18 => ?_) (fun c18 => ?_)
      · replace hw := hw.2 c18
        refine lv_iconst (v := (-1 : Int32)) hx hb dX6_moveTold_87 (by decide) ?_
        exact t_X6_moveTold_88 X Q   _ _ _ _ _ _ _ hw hk (lv_sub hl [3, 2, 1] rfl)
      · replace hw := hw.1 c18
        refine lv_iconst (v := (1 : Int32)) hx hb dX6_moveTold_83 (by decide) ?_
        refine lv_goto (tgt := 88) hx hb dX6_moveTold_84 (by decide) ?_
        exact t_X6_moveTold_88 X Q   _ _ _ _ _ _ _ hw hk (lv_sub hl [3, 2, 1] rfl)
    · replace hw := hw.1 c15
      refine lv_iconst (v := (0 : Int32)) hx hb dX6_moveTold_66 (by decide) ?_
      refine lv_goto (tgt := 88) hx hb dX6_moveTold_67 (by decide) ?_
      exact t_X6_moveTold_88 X Q   _ _ _ _ _ _ _ hw hk (lv_sub hl [3, 2, 1] rfl)
  · replace hw := hw.2 c10
    exact k_vret X hk hw dX6_moveTold_45
def wp_X6_moveTold (σ : Sg) (Q : Sg → Prop) : Prop := wp_X6_moves σ  (fun r2 σ1 => (r2 = (40 : Int32) → (wp_X6_fails σ1 (3 : Int32) (σ1 30 8) (fun σ27 => wp_X6_moveTold_18 Q   σ27))) ∧ (¬ (r2 = (40 : Int32)) → (wp_X6_moveTold_18 Q   σ1)))
set_option maxHeartbeats 4000000 in
set_option maxRecDepth 100000 in
theorem c_X6_moveTold (l : Launch) (G : Gw) (σ : Sg) (Q : Sg → Prop) (hw : wp_X6_moveTold σ  Q) : MetV l yX6_moveTold wz_X6_moveTold rm_X6_moveTold G σ [.ref (G.1 30)] Q := by
  refine MetV.of cX6_moveTold 6 none (by decide) rfl (Nat.le_of_ble_eq_true rfl) ?_
  intro p e s m below meth c X hk ls hl
  have X : KC p m meth c cX6_moveTold 6 s _ wz_X6_moveTold RX6 none G := X
  have hl : lv_has ls 6 [(0, .ref (G.1 30))] := hl
  unfold wp_X6_moveTold at hw
  have hx := X.1.1
  have hb := X.1.2.1
  refine lv_aload_n hx hb dX6_moveTold_0 rfl (lv_at hl 0 rfl) ?_
  refine k_callVi (rest := []) X hk (c_X6_moves l G _  _ hw) (cwV 0 X.1.2.2.2.2 (gzV (aw_r18 _ (List.mem_of_getElem? (i := 2) rfl)) (aw_r18 _ (List.mem_of_getElem? (i := 3) rfl)) (aw_r18 _ (List.mem_of_getElem? (i := 4) rfl)) (aw_r1 _ (List.mem_of_getElem? (i := 5) rfl)) (aw_r18 _ (List.mem_of_getElem? (i := 5) rfl))) rfl rfl rfl hd_X6_moves ⟨(Nat.le_of_ble_eq_true rfl), (Nat.le_of_ble_eq_true rfl)⟩) (wg_30 G _) rfl rfl hl.1 rfl (Nat.le_of_ble_eq_true rfl) dX6_moveTold_1 ⟨Nat.zero_le _, Nat.zero_le _⟩ (fun r2 σ1 H locs hw hk => ?_)
  refine lv_bipush (v := (40 : Int32)) hx hb dX6_moveTold_4 (by decide) ?_
  refine lv_icmp_ne (tgt := 18) hx hb dX6_moveTold_6 (by decide) (fun c3 => ?_) (fun c3 => ?_)
  · replace hw := hw.2 c3
    exact t_X6_moveTold_18 X Q   _  _ _ _ hw hk hl
  · replace hw := hw.1 c3
    refine lv_aload_n hx hb dX6_moveTold_9 rfl (lv_at hl 0 rfl) ?_
    refine lv_iconst (v := (3 : Int32)) hx hb dX6_moveTold_10 (by decide) ?_
    refine lv_aload_n hx hb dX6_moveTold_11 rfl (lv_at hl 0 rfl) ?_
    refine k_get 8 X hk (wg_30 G _) rfl (hz_wsX60 _) (Nat.le_of_ble_eq_true rfl) (List.mem_cons_of_mem _ (aw_r15 _ (List.mem_of_getElem? (i := 2) rfl))) rfl dX6_moveTold_12 ?_
    refine k_callVv (rest := []) X hk (c_X6_fails l G _ _ _ _ hw) (cwV 2 X.1.2.2.2.2 (gzV (aw_r15 _ (List.mem_of_getElem? (i := 18) rfl)) (aw_r15 _ (List.mem_of_getElem? (i := 19) rfl)) (aw_r15 _ (List.mem_of_getElem? (i := 20) rfl)) (aw_r1 _ (List.mem_of_getElem? (i := 5) rfl)) (aw_r15 _ (List.mem_of_getElem? (i := 21) rfl))) rfl rfl rfl hd_X6_fails ⟨(Nat.le_of_ble_eq_true rfl), (Nat.le_of_ble_eq_true rfl)⟩) (wg_30 G _) rfl rfl hl.1 rfl (Nat.le_of_ble_eq_true rfl) dX6_moveTold_15 ⟨Nat.zero_le _, Nat.zero_le _⟩ (fun σ27 H locs hw hk => ?_)
    exact t_X6_moveTold_18 X Q   _  _ _ _ hw hk hl
def rm_X6_statement : Room := { frames := 5, cells := 0, slots := 0, locals := 114 }
abbrev wz_X6_statement : List Cond := Cond.code yX6_statement cX6_statement 2 none :: wsA
theorem hd_X6_statement : yX6_statement.cls = RX6 ∧ yX6_statement.cls ≠ "java/lang/invoke/MethodHandle" ∧ yX6_statement.cls ≠ "java/lang/invoke/VarHandle" ∧ (parseMethodDescriptor yX6_statement.desc).map (fun d => d.parameters.length) = some 0 := by decide +kernel
def wp_X6_statement (σ : Sg) (Q : Sg → Prop) : Prop := wp_X6_word σ  (fun r2 σ1 => wp_X6_letters σ1 (16 : Int32) (12 : Int32) (1 : Int32) (3 : Int32) (5 : Int32) (fun r4 σ3 => (r2 = r4 → (wp_X6_placeTold σ3  (fun σ23 => Q σ23))) ∧ (¬ (r2 = r4) → (wp_X6_letters σ3 (0 : Int32) (18 : Int32) (15 : Int32) (1 : Int32) (4 : Int32) (fun r7 σ6 => (r2 = r7 → (wp_X6_roadTold σ6  (fun σ21 => Q σ21))) ∧ (¬ (r2 = r7) → (wp_X6_letters σ6 (0 : Int32) (20 : Int32) (21 : Int32) (18 : Int32) (14 : Int32) (fun r10 σ9 => (r2 = r10 → (wp_X6_turnTold σ9  (fun σ19 => Q σ19))) ∧ (¬ (r2 = r10) → (wp_X6_letters σ9 (0 : Int32) (13 : Int32) (15 : Int32) (22 : Int32) (5 : Int32) (fun r13 σ12 => (r2 = r13 → (wp_X6_moveTold σ12  (fun σ17 => Q σ17))) ∧ (¬ (r2 = r13) → (wp_X6_fails σ12 (1 : Int32) (σ12 30 8) (fun σ15 => Q σ15))))))))))))))
set_option maxHeartbeats 4000000 in
set_option maxRecDepth 100000 in
theorem c_X6_statement (l : Launch) (G : Gw) (σ : Sg) (Q : Sg → Prop) (hw : wp_X6_statement σ  Q) : MetV l yX6_statement wz_X6_statement rm_X6_statement G σ [.ref (G.1 30)] Q := by
  refine MetV.of cX6_statement 2 none (by decide) rfl (Nat.le_of_ble_eq_true rfl) ?_
  intro p e s m below meth c X hk ls hl
  have X : KC p m meth c cX6_statement 2 s _ wz_X6_statement RX6 none G := X
  have hl : lv_has ls 2 [(0, .ref (G.1 30))] := hl
  unfold wp_X6_statement at hw
  have hx := X.1.1
  have hb := X.1.2.1
  refine lv_aload_n hx hb dX6_statement_0 rfl (lv_at hl 0 rfl) ?_
  refine k_callVi (rest := []) X hk (c_X6_word l G _  _ hw) (cwV 0 X.1.2.2.2.2 (gzV (aw_r15 _ (List.mem_of_getElem? (i := 3) rfl)) (aw_r15 _ (List.mem_of_getElem? (i := 4) rfl)) (aw_r15 _ (List.mem_of_getElem? (i := 5) rfl)) (aw_r1 _ (List.mem_of_getElem? (i := 5) rfl)) (aw_r15 _ (List.mem_of_getElem? (i := 6) rfl))) rfl rfl rfl hd_X6_word ⟨(Nat.le_of_ble_eq_true rfl), (Nat.le_of_ble_eq_true rfl)⟩) (wg_30 G _) rfl rfl hl.1 rfl (Nat.le_of_ble_eq_true rfl) dX6_statement_1 ⟨Nat.zero_le _, Nat.zero_le _⟩ (fun r2 σ1 H locs hw hk => ?_)
  refine lv_istore_n (lv' := [(1, .int r2), (0, .ref (G.1 30))]) hx hb dX6_statement_4 rfl hl (Nat.le_of_ble_eq_true rfl) rfl (fun ls hl => ?_)
  refine lv_iload_n hx hb dX6_statement_5 rfl (lv_at hl 0 rfl) ?_
  refine lv_bipush (v := (16 : Int32)) hx hb dX6_statement_6 (by decide) ?_
  refine lv_bipush (v := (12 : Int32)) hx hb dX6_statement_8 (by decide) ?_
  refine lv_iconst (v := (1 : Int32)) hx hb dX6_statement_10 (by decide) ?_
  refine lv_iconst (v := (3 : Int32)) hx hb dX6_statement_11 (by decide) ?_
  refine lv_iconst (v := (5 : Int32)) hx hb dX6_statement_12 (by decide) ?_
  refine k_callSi (rest := [.int r2]) X hk (c_X6_letters l G _ _ _ _ _ _ _ hw) (va_cwS 5 X.1.2.2.2.2 (gzS (aw_r15 _ (List.mem_of_getElem? (i := 7) rfl)) (aw_r15 _ (List.mem_of_getElem? (i := 8) rfl)) (aw_r1 _ (List.mem_of_getElem? (i := 5) rfl)) (aw_r15 _ (List.mem_of_getElem? (i := 9) rfl))) rfl rfl rfl hds_X6_letters ⟨(Nat.le_of_ble_eq_true rfl), (Nat.le_of_ble_eq_true rfl)⟩) rfl hl.1 rfl (Nat.le_of_ble_eq_true rfl) dX6_statement_13 ⟨Nat.zero_le _, Nat.zero_le _⟩ (fun r4 σ3 H locs hw hk => ?_)
  refine lv_icmp_ne (tgt := 26) hx hb dX6_statement_16 (by decide) (fun c5 => ?_) (fun c5 => ?_)
  · replace hw := hw.2 c5
    refine lv_iload_n hx hb dX6_statement_26 rfl (lv_at hl 0 rfl) ?_
    refine lv_iconst (v := (0 : Int32)) hx hb dX6_statement_27 (by decide) ?_
    refine lv_bipush (v := (18 : Int32)) hx hb dX6_statement_28 (by decide) ?_
    refine lv_bipush (v := (15 : Int32)) hx hb dX6_statement_30 (by decide) ?_
    refine lv_iconst (v := (1 : Int32)) hx hb dX6_statement_32 (by decide) ?_
    refine lv_iconst (v := (4 : Int32)) hx hb dX6_statement_33 (by decide) ?_
    refine k_callSi (rest := [.int r2]) X hk (c_X6_letters l G _ _ _ _ _ _ _ hw) (va_cwS 5 X.1.2.2.2.2 (gzS (aw_r15 _ (List.mem_of_getElem? (i := 7) rfl)) (aw_r15 _ (List.mem_of_getElem? (i := 8) rfl)) (aw_r1 _ (List.mem_of_getElem? (i := 5) rfl)) (aw_r15 _ (List.mem_of_getElem? (i := 9) rfl))) rfl rfl rfl hds_X6_letters ⟨(Nat.le_of_ble_eq_true rfl), (Nat.le_of_ble_eq_true rfl)⟩) rfl hl.1 rfl (Nat.le_of_ble_eq_true rfl) dX6_statement_34 ⟨Nat.zero_le _, Nat.zero_le _⟩ (fun r7 σ6 H locs hw hk => ?_)
    refine lv_icmp_ne (tgt := 47) hx hb dX6_statement_37 (by decide) (fun c8 => ?_) (fun c8 => ?_)
    · replace hw := hw.2 c8
      refine lv_iload_n hx hb dX6_statement_47 rfl (lv_at hl 0 rfl) ?_
      refine lv_iconst (v := (0 : Int32)) hx hb dX6_statement_48 (by decide) ?_
      refine lv_bipush (v := (20 : Int32)) hx hb dX6_statement_49 (by decide) ?_
      refine lv_bipush (v := (21 : Int32)) hx hb dX6_statement_51 (by decide) ?_
      refine lv_bipush (v := (18 : Int32)) hx hb dX6_statement_53 (by decide) ?_
      refine lv_bipush (v := (14 : Int32)) hx hb dX6_statement_55 (by decide) ?_
      refine k_callSi (rest := [.int r2]) X hk (c_X6_letters l G _ _ _ _ _ _ _ hw) (va_cwS 5 X.1.2.2.2.2 (gzS (aw_r15 _ (List.mem_of_getElem? (i := 7) rfl)) (aw_r15 _ (List.mem_of_getElem? (i := 8) rfl)) (aw_r1 _ (List.mem_of_getElem? (i := 5) rfl)) (aw_r15 _ (List.mem_of_getElem? (i := 9) rfl))) rfl rfl rfl hds_X6_letters ⟨(Nat.le_of_ble_eq_true rfl), (Nat.le_of_ble_eq_true rfl)⟩) rfl hl.1 rfl (Nat.le_of_ble_eq_true rfl) dX6_statement_57 ⟨Nat.zero_le _, Nat.zero_le _⟩ (fun r10 σ9 H locs hw hk => ?_)
      refine lv_icmp_ne (tgt := 70) hx hb dX6_statement_60 (by decide) (fun c11 => ?_) (fun c11 => ?_)
      · replace hw := hw.2 c11
        refine lv_iload_n hx hb dX6_statement_70 rfl (lv_at hl 0 rfl) ?_
        refine lv_iconst (v := (0 : Int32)) hx hb dX6_statement_71 (by decide) ?_
        refine lv_bipush (v := (13 : Int32)) hx hb dX6_statement_72 (by decide) ?_
        refine lv_bipush (v := (15 : Int32)) hx hb dX6_statement_74 (by decide) ?_
        refine lv_bipush (v := (22 : Int32)) hx hb dX6_statement_76 (by decide) ?_
        refine lv_iconst (v := (5 : Int32)) hx hb dX6_statement_78 (by decide) ?_
        refine k_callSi (rest := [.int r2]) X hk (c_X6_letters l G _ _ _ _ _ _ _ hw) (va_cwS 5 X.1.2.2.2.2 (gzS (aw_r15 _ (List.mem_of_getElem? (i := 7) rfl)) (aw_r15 _ (List.mem_of_getElem? (i := 8) rfl)) (aw_r1 _ (List.mem_of_getElem? (i := 5) rfl)) (aw_r15 _ (List.mem_of_getElem? (i := 9) rfl))) rfl rfl rfl hds_X6_letters ⟨(Nat.le_of_ble_eq_true rfl), (Nat.le_of_ble_eq_true rfl)⟩) rfl hl.1 rfl (Nat.le_of_ble_eq_true rfl) dX6_statement_79 ⟨Nat.zero_le _, Nat.zero_le _⟩ (fun r13 σ12 H locs hw hk => ?_)
        refine lv_icmp_ne (tgt := 92) hx hb dX6_statement_82 (by decide) (fun c14 => ?_) (fun c14 => ?_)
        · replace hw := hw.2 c14
          refine lv_aload_n hx hb dX6_statement_92 rfl (lv_at hl 1 rfl) ?_
          refine lv_iconst (v := (1 : Int32)) hx hb dX6_statement_93 (by decide) ?_
          refine lv_aload_n hx hb dX6_statement_94 rfl (lv_at hl 1 rfl) ?_
          refine k_get 8 X hk (wg_30 G _) rfl (hz_wsX60 _) (Nat.le_of_ble_eq_true rfl) (List.mem_cons_of_mem _ (aw_r15 _ (List.mem_of_getElem? (i := 2) rfl))) rfl dX6_statement_95 ?_
          refine k_callVv (rest := []) X hk (c_X6_fails l G _ _ _ _ hw) (cwV 2 X.1.2.2.2.2 (gzV (aw_r15 _ (List.mem_of_getElem? (i := 18) rfl)) (aw_r15 _ (List.mem_of_getElem? (i := 19) rfl)) (aw_r15 _ (List.mem_of_getElem? (i := 20) rfl)) (aw_r1 _ (List.mem_of_getElem? (i := 5) rfl)) (aw_r15 _ (List.mem_of_getElem? (i := 21) rfl))) rfl rfl rfl hd_X6_fails ⟨(Nat.le_of_ble_eq_true rfl), (Nat.le_of_ble_eq_true rfl)⟩) (wg_30 G _) rfl rfl hl.1 rfl (Nat.le_of_ble_eq_true rfl) dX6_statement_98 ⟨Nat.zero_le _, Nat.zero_le _⟩ (fun σ15 H locs hw hk => ?_)
          exact k_vret X hk hw dX6_statement_101
        · replace hw := hw.1 c14
          refine lv_aload_n hx hb dX6_statement_85 rfl (lv_at hl 1 rfl) ?_
          refine k_callVv (rest := []) X hk (c_X6_moveTold l G _  _ hw) (cwV 0 X.1.2.2.2.2 (gzV (aw_r17 _ (List.mem_of_getElem? (i := 22) rfl)) (aw_r17 _ (List.mem_of_getElem? (i := 23) rfl)) (aw_r18 _ (List.mem_of_getElem? (i := 0) rfl)) (aw_r1 _ (List.mem_of_getElem? (i := 5) rfl)) (aw_r18 _ (List.mem_of_getElem? (i := 1) rfl))) rfl rfl rfl hd_X6_moveTold ⟨(Nat.le_of_ble_eq_true rfl), (Nat.le_of_ble_eq_true rfl)⟩) (wg_30 G _) rfl rfl hl.1 rfl (Nat.le_of_ble_eq_true rfl) dX6_statement_86 ⟨Nat.zero_le _, Nat.zero_le _⟩ (fun σ17 H locs hw hk => ?_)
          refine lv_goto (tgt := 101) hx hb dX6_statement_89 (by decide) ?_
          exact k_vret X hk hw dX6_statement_101
      · replace hw := hw.1 c11
        refine lv_aload_n hx hb dX6_statement_63 rfl (lv_at hl 1 rfl) ?_
        refine k_callVv (rest := []) X hk (c_X6_turnTold l G _  _ hw) (cwV 0 X.1.2.2.2.2 (gzV (aw_r17 _ (List.mem_of_getElem? (i := 2) rfl)) (aw_r17 _ (List.mem_of_getElem? (i := 3) rfl)) (aw_r17 _ (List.mem_of_getElem? (i := 4) rfl)) (aw_r1 _ (List.mem_of_getElem? (i := 5) rfl)) (aw_r17 _ (List.mem_of_getElem? (i := 5) rfl))) rfl rfl rfl hd_X6_turnTold ⟨(Nat.le_of_ble_eq_true rfl), (Nat.le_of_ble_eq_true rfl)⟩) (wg_30 G _) rfl rfl hl.1 rfl (Nat.le_of_ble_eq_true rfl) dX6_statement_64 ⟨Nat.zero_le _, Nat.zero_le _⟩ (fun σ19 H locs hw hk => ?_)
        refine lv_goto (tgt := 101) hx hb dX6_statement_67 (by decide) ?_
        exact k_vret X hk hw dX6_statement_101
    · replace hw := hw.1 c8
      refine lv_aload_n hx hb dX6_statement_40 rfl (lv_at hl 1 rfl) ?_
      refine k_callVv (rest := []) X hk (c_X6_roadTold l G _  _ hw) (cwV 0 X.1.2.2.2.2 (gzV (aw_r16 _ (List.mem_of_getElem? (i := 14) rfl)) (aw_r16 _ (List.mem_of_getElem? (i := 15) rfl)) (aw_r16 _ (List.mem_of_getElem? (i := 16) rfl)) (aw_r1 _ (List.mem_of_getElem? (i := 5) rfl)) (aw_r16 _ (List.mem_of_getElem? (i := 17) rfl))) rfl rfl rfl hd_X6_roadTold ⟨(Nat.le_of_ble_eq_true rfl), (Nat.le_of_ble_eq_true rfl)⟩) (wg_30 G _) rfl rfl hl.1 rfl (Nat.le_of_ble_eq_true rfl) dX6_statement_41 ⟨Nat.zero_le _, Nat.zero_le _⟩ (fun σ21 H locs hw hk => ?_)
      refine lv_goto (tgt := 101) hx hb dX6_statement_44 (by decide) ?_
      exact k_vret X hk hw dX6_statement_101
  · replace hw := hw.1 c5
    refine lv_aload_n hx hb dX6_statement_19 rfl (lv_at hl 1 rfl) ?_
    refine k_callVv (rest := []) X hk (c_X6_placeTold l G _  _ hw) (cwV 0 X.1.2.2.2.2 (gzV (aw_r15 _ (List.mem_of_getElem? (i := 10) rfl)) (aw_r15 _ (List.mem_of_getElem? (i := 11) rfl)) (aw_r15 _ (List.mem_of_getElem? (i := 12) rfl)) (aw_r1 _ (List.mem_of_getElem? (i := 5) rfl)) (aw_r15 _ (List.mem_of_getElem? (i := 13) rfl))) rfl rfl rfl hd_X6_placeTold ⟨(Nat.le_of_ble_eq_true rfl), (Nat.le_of_ble_eq_true rfl)⟩) (wg_30 G _) rfl rfl hl.1 rfl (Nat.le_of_ble_eq_true rfl) dX6_statement_20 ⟨Nat.zero_le _, Nat.zero_le _⟩ (fun σ23 H locs hw hk => ?_)
    refine lv_goto (tgt := 101) hx hb dX6_statement_23 (by decide) ?_
    exact k_vret X hk hw dX6_statement_101
def rm_X6_comesBack : Room := { frames := 0, cells := 0, slots := 0, locals := 0 }
abbrev wz_X6_comesBack : List Cond := Cond.code yX6_comesBack cX6_comesBack 2 none :: wsA
theorem hd_X6_comesBack : yX6_comesBack.cls = RX6 ∧ yX6_comesBack.cls ≠ "java/lang/invoke/MethodHandle" ∧ yX6_comesBack.cls ≠ "java/lang/invoke/VarHandle" ∧ (parseMethodDescriptor yX6_comesBack.desc).map (fun d => d.parameters.length) = some 0 := by decide +kernel
def wp_X6_comesBack_2 (Q : Sg → Prop)  : Nat → Int32 → Sg → Prop
  | 0, _, _ => False
  | n + 1, x1, σ => ((256 : Int32) ≤ x1 → (Q σ)) ∧ (¬ ((256 : Int32) ≤ x1) → (vp_in x1 256 ∧ (vp_in x1 256 ∧ (∀ σ2 : Sg, σ2 = (put σ 31 (x1).toNatClampNeg (σ 32 (x1).toNatClampNeg)) → (∀ x1_3 : Int32, x1_3 = (x1 + (1 : Int32)) → (wp_X6_comesBack_2 Q  n x1_3 σ2))))))
set_option maxHeartbeats 4000000 in
set_option maxRecDepth 100000 in
theorem t_X6_comesBack_2 {p : Program} {l : Launch} {e : Env} {s : State} {m : MethodId} {args : Array Value} {below : List Frame} {meth : Method} {c : Code} {G : Gw} (X : KC p m meth c cX6_comesBack 2 s args wz_X6_comesBack RX6 none G) (Q : Sg → Prop)  : ∀ (n : Nat) (σ : Sg) (x1 : Int32) (H : Heap) (locs : List Loc) (ls : Array Slot), wp_X6_comesBack_2 Q  n x1 σ → WK G s H locs σ → lv_has ls 2 [(0, .ref (G.1 30)), (1, .int x1)] → W p l e rm_X6_comesBack s m args below meth c H locs 0 0 (ZV below args s G Q) (F0 m 2 ls []) := by
  have hx := X.1.1
  have hb := X.1.2.1
  intro n
  induction n with
  | zero =>
    intro σ x1 H locs ls hw hk hl
    exact False.elim hw
  | succ n ih =>
    intro σ x1 H locs ls hw hk hl
    rw [wp_X6_comesBack_2] at hw
    refine lv_iload_n hx hb dX6_comesBack_2 rfl (lv_at hl 1 rfl) ?_
    refine lv_sipush (v := (256 : Int32)) hx hb dX6_comesBack_3 (by decide) ?_
    refine lv_icmp_ge (tgt := 27) hx hb dX6_comesBack_6 (by decide) (fun c1 => ?_) (fun c1 => ?_)
    · replace hw := hw.1 c1
      exact k_vret X hk hw dX6_comesBack_27
    · replace hw := hw.2 c1
      refine lv_aload_n hx hb dX6_comesBack_9 rfl (lv_at hl 0 rfl) ?_
      refine k_get 1 X hk (wg_30 G _) rfl (hz_wsX60 _) (Nat.le_of_ble_eq_true rfl) (List.mem_cons_of_mem _ (aw_r4 _ (List.mem_of_getElem? (i := 16) rfl))) rfl dX6_comesBack_10 ?_
      refine lv_iload_n hx hb dX6_comesBack_13 rfl (lv_at hl 1 rfl) ?_
      refine lv_aload_n hx hb dX6_comesBack_14 rfl (lv_at hl 0 rfl) ?_
      refine k_get 2 X hk (wg_30 G _) rfl (hz_wsX60 _) (Nat.le_of_ble_eq_true rfl) (List.mem_cons_of_mem _ (aw_r4 _ (List.mem_of_getElem? (i := 17) rfl))) rfl dX6_comesBack_15 ?_
      refine lv_iload_n hx hb dX6_comesBack_18 rfl (lv_at hl 1 rfl) ?_
      refine k_iald X hk (wg_32 G _) hw.1 dX6_comesBack_19 ?_
      replace hw := hw.2
      refine k_iast X hk (wg_31 G _) (ws_31 G _) rfl hw.1 dX6_comesBack_20 (fun H locs hk => ?_)
      replace hw := hw.2
      obtain ⟨σ2, eσ2⟩ : ∃ y : Sg, y = (put σ 31 (x1).toNatClampNeg (σ 32 (x1).toNatClampNeg)) := ⟨_, rfl⟩
      rw [← eσ2] at hk
      replace hw := hw σ2 eσ2
      obtain ⟨x1_3, ex1_3⟩ : ∃ y : Int32, y = (x1 + (1 : Int32)) := ⟨_, rfl⟩
      replace hw := hw x1_3 ex1_3
      refine lv_iinc (v := x1_3) (lv' := [(1, .int x1_3), (0, .ref (G.1 30))]) hx hb dX6_comesBack_21 hl (k := 1) rfl (by rw [ex1_3]; rfl) (Nat.le_of_ble_eq_true rfl) rfl (fun ls hl => ?_)
      refine lv_goto (tgt := 2) hx hb dX6_comesBack_24 (by decide) ?_
      exact ih _ _ _ _ _ hw hk (lv_sub hl [1, 0] rfl)
def wp_X6_comesBack (σ : Sg) (Q : Sg → Prop) : Prop := ∃ n0, wp_X6_comesBack_2 Q  n0 (0 : Int32) σ
set_option maxHeartbeats 4000000 in
set_option maxRecDepth 100000 in
theorem c_X6_comesBack (l : Launch) (G : Gw) (σ : Sg) (Q : Sg → Prop) (hw : wp_X6_comesBack σ  Q) : MetV l yX6_comesBack wz_X6_comesBack rm_X6_comesBack G σ [.ref (G.1 30)] Q := by
  refine MetV.of cX6_comesBack 2 none (by decide) rfl (Nat.le_of_ble_eq_true rfl) ?_
  intro p e s m below meth c X hk ls hl
  have X : KC p m meth c cX6_comesBack 2 s _ wz_X6_comesBack RX6 none G := X
  have hl : lv_has ls 2 [(0, .ref (G.1 30))] := hl
  unfold wp_X6_comesBack at hw
  have hx := X.1.1
  have hb := X.1.2.1
  refine lv_iconst (v := (0 : Int32)) hx hb dX6_comesBack_0 (by decide) ?_
  refine lv_istore_n (lv' := [(1, .int (0 : Int32)), (0, .ref (G.1 30))]) hx hb dX6_comesBack_1 rfl hl (Nat.le_of_ble_eq_true rfl) rfl (fun ls hl => ?_)
  obtain ⟨n0, hw⟩ := hw
  exact t_X6_comesBack_2 X Q   n0 _ _ _ _ _ hw hk (lv_sub hl [1, 0] rfl)
def rm_X6_keeps : Room := { frames := 0, cells := 0, slots := 0, locals := 0 }
abbrev wz_X6_keeps : List Cond := Cond.code yX6_keeps cX6_keeps 2 none :: wsA
theorem hd_X6_keeps : yX6_keeps.cls = RX6 ∧ yX6_keeps.cls ≠ "java/lang/invoke/MethodHandle" ∧ yX6_keeps.cls ≠ "java/lang/invoke/VarHandle" ∧ (parseMethodDescriptor yX6_keeps.desc).map (fun d => d.parameters.length) = some 0 := by decide +kernel
def wp_X6_keeps_2 (Q : Sg → Prop)  : Nat → Int32 → Sg → Prop
  | 0, _, _ => False
  | n + 1, x1, σ => ((256 : Int32) ≤ x1 → (Q σ)) ∧ (¬ ((256 : Int32) ≤ x1) → (vp_in x1 256 ∧ (vp_in x1 256 ∧ (∀ σ2 : Sg, σ2 = (put σ 32 (x1).toNatClampNeg (σ 31 (x1).toNatClampNeg)) → (∀ x1_3 : Int32, x1_3 = (x1 + (1 : Int32)) → (wp_X6_keeps_2 Q  n x1_3 σ2))))))
set_option maxHeartbeats 4000000 in
set_option maxRecDepth 100000 in
theorem t_X6_keeps_2 {p : Program} {l : Launch} {e : Env} {s : State} {m : MethodId} {args : Array Value} {below : List Frame} {meth : Method} {c : Code} {G : Gw} (X : KC p m meth c cX6_keeps 2 s args wz_X6_keeps RX6 none G) (Q : Sg → Prop)  : ∀ (n : Nat) (σ : Sg) (x1 : Int32) (H : Heap) (locs : List Loc) (ls : Array Slot), wp_X6_keeps_2 Q  n x1 σ → WK G s H locs σ → lv_has ls 2 [(0, .ref (G.1 30)), (1, .int x1)] → W p l e rm_X6_keeps s m args below meth c H locs 0 0 (ZV below args s G Q) (F0 m 2 ls []) := by
  have hx := X.1.1
  have hb := X.1.2.1
  intro n
  induction n with
  | zero =>
    intro σ x1 H locs ls hw hk hl
    exact False.elim hw
  | succ n ih =>
    intro σ x1 H locs ls hw hk hl
    rw [wp_X6_keeps_2] at hw
    refine lv_iload_n hx hb dX6_keeps_2 rfl (lv_at hl 1 rfl) ?_
    refine lv_sipush (v := (256 : Int32)) hx hb dX6_keeps_3 (by decide) ?_
    refine lv_icmp_ge (tgt := 27) hx hb dX6_keeps_6 (by decide) (fun c1 => ?_) (fun c1 => ?_)
    · replace hw := hw.1 c1
      exact k_vret X hk hw dX6_keeps_27
    · replace hw := hw.2 c1
      refine lv_aload_n hx hb dX6_keeps_9 rfl (lv_at hl 0 rfl) ?_
      refine k_get 2 X hk (wg_30 G _) rfl (hz_wsX60 _) (Nat.le_of_ble_eq_true rfl) (List.mem_cons_of_mem _ (aw_r4 _ (List.mem_of_getElem? (i := 17) rfl))) rfl dX6_keeps_10 ?_
      refine lv_iload_n hx hb dX6_keeps_13 rfl (lv_at hl 1 rfl) ?_
      refine lv_aload_n hx hb dX6_keeps_14 rfl (lv_at hl 0 rfl) ?_
      refine k_get 1 X hk (wg_30 G _) rfl (hz_wsX60 _) (Nat.le_of_ble_eq_true rfl) (List.mem_cons_of_mem _ (aw_r4 _ (List.mem_of_getElem? (i := 16) rfl))) rfl dX6_keeps_15 ?_
      refine lv_iload_n hx hb dX6_keeps_18 rfl (lv_at hl 1 rfl) ?_
      refine k_iald X hk (wg_31 G _) hw.1 dX6_keeps_19 ?_
      replace hw := hw.2
      refine k_iast X hk (wg_32 G _) (ws_32 G _) rfl hw.1 dX6_keeps_20 (fun H locs hk => ?_)
      replace hw := hw.2
      obtain ⟨σ2, eσ2⟩ : ∃ y : Sg, y = (put σ 32 (x1).toNatClampNeg (σ 31 (x1).toNatClampNeg)) := ⟨_, rfl⟩
      rw [← eσ2] at hk
      replace hw := hw σ2 eσ2
      obtain ⟨x1_3, ex1_3⟩ : ∃ y : Int32, y = (x1 + (1 : Int32)) := ⟨_, rfl⟩
      replace hw := hw x1_3 ex1_3
      refine lv_iinc (v := x1_3) (lv' := [(1, .int x1_3), (0, .ref (G.1 30))]) hx hb dX6_keeps_21 hl (k := 1) rfl (by rw [ex1_3]; rfl) (Nat.le_of_ble_eq_true rfl) rfl (fun ls hl => ?_)
      refine lv_goto (tgt := 2) hx hb dX6_keeps_24 (by decide) ?_
      exact ih _ _ _ _ _ hw hk (lv_sub hl [1, 0] rfl)
def wp_X6_keeps (σ : Sg) (Q : Sg → Prop) : Prop := ∃ n0, wp_X6_keeps_2 Q  n0 (0 : Int32) σ
set_option maxHeartbeats 4000000 in
set_option maxRecDepth 100000 in
theorem c_X6_keeps (l : Launch) (G : Gw) (σ : Sg) (Q : Sg → Prop) (hw : wp_X6_keeps σ  Q) : MetV l yX6_keeps wz_X6_keeps rm_X6_keeps G σ [.ref (G.1 30)] Q := by
  refine MetV.of cX6_keeps 2 none (by decide) rfl (Nat.le_of_ble_eq_true rfl) ?_
  intro p e s m below meth c X hk ls hl
  have X : KC p m meth c cX6_keeps 2 s _ wz_X6_keeps RX6 none G := X
  have hl : lv_has ls 2 [(0, .ref (G.1 30))] := hl
  unfold wp_X6_keeps at hw
  have hx := X.1.1
  have hb := X.1.2.1
  refine lv_iconst (v := (0 : Int32)) hx hb dX6_keeps_0 (by decide) ?_
  refine lv_istore_n (lv' := [(1, .int (0 : Int32)), (0, .ref (G.1 30))]) hx hb dX6_keeps_1 rfl hl (Nat.le_of_ble_eq_true rfl) rfl (fun ls hl => ?_)
  obtain ⟨n0, hw⟩ := hw
  exact t_X6_keeps_2 X Q   n0 _ _ _ _ _ hw hk (lv_sub hl [1, 0] rfl)
def rm_X6_tell : Room := { frames := 6, cells := 0, slots := 0, locals := 135 }
abbrev wz_X6_tell : List Cond := Cond.code yX6_tell cX6_tell 2 (some .int) :: wsA
theorem hd_X6_tell : yX6_tell.cls = RX6 ∧ yX6_tell.cls ≠ "java/lang/invoke/MethodHandle" ∧ yX6_tell.cls ≠ "java/lang/invoke/VarHandle" ∧ (parseMethodDescriptor yX6_tell.desc).map (fun d => d.parameters.length) = some 0 := by decide +kernel
def wp_X6_tell_94 (Q : Int32 → Sg → Prop)  (x1 : Int32) (σ : Sg) : Prop := ((σ 30 5) = 0 → (Q x1 σ)) ∧ (¬ ((σ 30 5) = 0) → (wp_X6_comesBack σ  (fun σ10 => Q (-1 : Int32) σ10)))
set_option maxHeartbeats 4000000 in
set_option maxRecDepth 100000 in
theorem t_X6_tell_94 {p : Program} {l : Launch} {e : Env} {s : State} {m : MethodId} {args : Array Value} {below : List Frame} {meth : Method} {c : Code} {G : Gw} (X : KC p m meth c cX6_tell 2 s args wz_X6_tell RX6 (some .int) G) (Q : Int32 → Sg → Prop)  : ∀ (σ : Sg) (x1 : Int32) (H : Heap) (locs : List Loc) (ls : Array Slot), wp_X6_tell_94 Q  x1 σ → WK G s H locs σ → lv_has ls 2 [(0, .ref (G.1 30)), (1, .int x1)] → W p l e rm_X6_tell s m args below meth c H locs 0 0 (ZI below args s G Q) (F0 m 94 ls []) := by
  have hx := X.1.1
  have hb := X.1.2.1
  intro σ x1 H locs ls hw hk hl
  unfold wp_X6_tell_94 at hw
  refine lv_aload_n hx hb dX6_tell_94 rfl (lv_at hl 0 rfl) ?_
  refine k_get 5 X hk (wg_30 G _) rfl (hz_wsX60 _) (Nat.le_of_ble_eq_true rfl) (List.mem_cons_of_mem _ (aw_r14 _ (List.mem_of_getElem? (i := 12) rfl))) rfl dX6_tell_95 ?_
  refine lv_if_ne (tgt := 103) hx hb dX6_tell_98 (by decide) (fun c9 => ?_) (fun c9 => ?_)
  · replace hw := hw.2 c9
    refine lv_aload_n hx hb dX6_tell_103 rfl (lv_at hl 0 rfl) ?_
    refine k_callVv (rest := []) X hk (c_X6_comesBack l G _  _ hw) (cwV 0 X.1.2.2.2.2 (gzV (aw_r18 _ (List.mem_of_getElem? (i := 10) rfl)) (aw_r18 _ (List.mem_of_getElem? (i := 11) rfl)) (aw_r18 _ (List.mem_of_getElem? (i := 12) rfl)) (aw_r1 _ (List.mem_of_getElem? (i := 5) rfl)) (aw_r18 _ (List.mem_of_getElem? (i := 13) rfl))) rfl rfl rfl hd_X6_comesBack ⟨(Nat.le_of_ble_eq_true rfl), (Nat.le_of_ble_eq_true rfl)⟩) (wg_30 G _) rfl rfl hl.1 rfl (Nat.le_of_ble_eq_true rfl) dX6_tell_104 ⟨Nat.zero_le _, Nat.zero_le _⟩ (fun σ10 H locs hw hk => ?_)
    refine lv_iconst (v := (-1 : Int32)) hx hb dX6_tell_107 (by decide) ?_
    exact k_iret X hk hw dX6_tell_108
  · replace hw := hw.1 c9
    refine lv_iload_n hx hb dX6_tell_101 rfl (lv_at hl 1 rfl) ?_
    exact k_iret X hk hw dX6_tell_102
def wp_X6_tell_78 (Q : Int32 → Sg → Prop) (K34 : Int32 → Sg → Prop) (x1 : Int32) (σ : Sg) : Prop := ∀ σ18 : Sg, σ18 = (put σ 30 7 ((σ 30 7) + (1 : Int32))) → (∀ x1_19 : Int32, x1_19 = (x1 + (1 : Int32)) → (K34 x1_19 σ18))
set_option maxHeartbeats 4000000 in
set_option maxRecDepth 100000 in
theorem t_X6_tell_78 {p : Program} {l : Launch} {e : Env} {s : State} {m : MethodId} {args : Array Value} {below : List Frame} {meth : Method} {c : Code} {G : Gw} (X : KC p m meth c cX6_tell 2 s args wz_X6_tell RX6 (some .int) G) (Q : Int32 → Sg → Prop) (K34 : Int32 → Sg → Prop) (hK34 : ∀ (σ : Sg) (x1 : Int32) (H : Heap) (locs : List Loc) (ls : Array Slot), K34 x1 σ → WK G s H locs σ → lv_has ls 2 [(0, .ref (G.1 30)), (1, .int x1)] → W p l e rm_X6_tell s m args below meth c H locs 0 0 (ZI below args s G Q) (F0 m 34 ls [])) : ∀ (σ : Sg) (x1 : Int32) (H : Heap) (locs : List Loc) (ls : Array Slot), wp_X6_tell_78 Q K34 x1 σ → WK G s H locs σ → lv_has ls 2 [(0, .ref (G.1 30)), (1, .int x1)] → W p l e rm_X6_tell s m args below meth c H locs 0 0 (ZI below args s G Q) (F0 m 78 ls []) := by
  have hx := X.1.1
  have hb := X.1.2.1
  intro σ x1 H locs ls hw hk hl
  unfold wp_X6_tell_78 at hw
  refine lv_aload_n hx hb dX6_tell_78 rfl (lv_at hl 0 rfl) ?_
  refine lv_dup hx hb dX6_tell_79 rfl ?_
  refine k_get 7 X hk (wg_30 G _) rfl (hz_wsX60 _) (Nat.le_of_ble_eq_true rfl) (List.mem_cons_of_mem _ (aw_r14 _ (List.mem_of_getElem? (i := 13) rfl))) rfl dX6_tell_80 ?_
  refine lv_iconst (v := (1 : Int32)) hx hb dX6_tell_83 (by decide) ?_
  refine lv_iadd hx hb dX6_tell_84 ?_
  refine k_put 7 X hk (wg_30 G _) rfl (hz_wsX60 _) tyX6_ok nmX6 (Nat.le_of_ble_eq_true rfl) (List.mem_cons_of_mem _ (aw_r14 _ (List.mem_of_getElem? (i := 13) rfl))) rfl rfl (Nat.le_of_ble_eq_true rfl) (ws_30_7 G _ _) dX6_tell_85 (fun H locs hk => ?_)
  obtain ⟨σ18, eσ18⟩ : ∃ y : Sg, y = (put σ 30 7 ((σ 30 7) + (1 : Int32))) := ⟨_, rfl⟩
  rw [← eσ18] at hk
  replace hw := hw σ18 eσ18
  obtain ⟨x1_19, ex1_19⟩ : ∃ y : Int32, y = (x1 + (1 : Int32)) := ⟨_, rfl⟩
  replace hw := hw x1_19 ex1_19
  refine lv_iinc (v := x1_19) (lv' := [(1, .int x1_19), (0, .ref (G.1 30))]) hx hb dX6_tell_88 hl (k := 1) rfl (by rw [ex1_19]; rfl) (Nat.le_of_ble_eq_true rfl) rfl (fun ls hl => ?_)
  refine lv_goto (tgt := 34) hx hb dX6_tell_91 (by decide) ?_
  exact hK34 _ _ _ _ _ hw hk (lv_sub hl [1, 0] rfl)
def wp_X6_tell_34 (Q : Int32 → Sg → Prop)  : Nat → Int32 → Sg → Prop
  | 0, _, _ => False
  | n + 1, x1, σ => ((σ 30 5) = 0 → (wp_X6_here σ  (fun r13 σ12 => (r13 = (-1 : Int32) → (wp_X6_tell_94 Q  x1 σ12)) ∧ (¬ (r13 = (-1 : Int32)) → (wp_X6_statement σ12  (fun σ15 => ((σ15 30 5) = 0 → (wp_X6_here σ15  (fun r21 σ20 => (r21 = (59 : Int32) → (wp_X6_tell_78 Q (fun z1 σ => wp_X6_tell_34 Q  n z1 σ) x1 σ20)) ∧ (¬ (r21 = (59 : Int32)) → (wp_X6_fails σ20 (1 : Int32) (σ20 30 7) (fun σ23 => wp_X6_tell_78 Q (fun z1 σ => wp_X6_tell_34 Q  n z1 σ) x1 σ23)))))) ∧ (¬ ((σ15 30 5) = 0) → (wp_X6_tell_78 Q (fun z1 σ => wp_X6_tell_34 Q  n z1 σ) x1 σ15)))))))) ∧ (¬ ((σ 30 5) = 0) → (wp_X6_tell_94 Q  x1 σ))
set_option maxHeartbeats 4000000 in
set_option maxRecDepth 100000 in
theorem t_X6_tell_34 {p : Program} {l : Launch} {e : Env} {s : State} {m : MethodId} {args : Array Value} {below : List Frame} {meth : Method} {c : Code} {G : Gw} (X : KC p m meth c cX6_tell 2 s args wz_X6_tell RX6 (some .int) G) (Q : Int32 → Sg → Prop)  : ∀ (n : Nat) (σ : Sg) (x1 : Int32) (H : Heap) (locs : List Loc) (ls : Array Slot), wp_X6_tell_34 Q  n x1 σ → WK G s H locs σ → lv_has ls 2 [(0, .ref (G.1 30)), (1, .int x1)] → W p l e rm_X6_tell s m args below meth c H locs 0 0 (ZI below args s G Q) (F0 m 34 ls []) := by
  have hx := X.1.1
  have hb := X.1.2.1
  intro n
  induction n with
  | zero =>
    intro σ x1 H locs ls hw hk hl
    exact False.elim hw
  | succ n ih =>
    intro σ x1 H locs ls hw hk hl
    rw [wp_X6_tell_34] at hw
    refine lv_aload_n hx hb dX6_tell_34 rfl (lv_at hl 0 rfl) ?_
    refine k_get 5 X hk (wg_30 G _) rfl (hz_wsX60 _) (Nat.le_of_ble_eq_true rfl) (List.mem_cons_of_mem _ (aw_r14 _ (List.mem_of_getElem? (i := 12) rfl))) rfl dX6_tell_35 ?_
    refine lv_if_ne (tgt := 94) hx hb dX6_tell_38 (by decide) (fun c8 => ?_) (fun c8 => ?_)
    · replace hw := hw.2 c8
      exact t_X6_tell_94 X Q   _ _ _ _ _ hw hk hl
    · replace hw := hw.1 c8
      refine lv_aload_n hx hb dX6_tell_41 rfl (lv_at hl 0 rfl) ?_
      refine k_callVi (rest := []) X hk (c_X6_here l G _  _ hw) (cwV 0 X.1.2.2.2.2 (gzV (aw_r14 _ (List.mem_of_getElem? (i := 18) rfl)) (aw_r14 _ (List.mem_of_getElem? (i := 19) rfl)) (aw_r14 _ (List.mem_of_getElem? (i := 20) rfl)) (aw_r1 _ (List.mem_of_getElem? (i := 5) rfl)) (aw_r14 _ (List.mem_of_getElem? (i := 21) rfl))) rfl rfl rfl hd_X6_here ⟨(Nat.le_of_ble_eq_true rfl), (Nat.le_of_ble_eq_true rfl)⟩) (wg_30 G _) rfl rfl hl.1 rfl (Nat.le_of_ble_eq_true rfl) dX6_tell_42 ⟨Nat.zero_le _, Nat.zero_le _⟩ (fun r13 σ12 H locs hw hk => ?_)
      refine lv_iconst (v := (-1 : Int32)) hx hb dX6_tell_45 (by decide) ?_
      refine lv_icmp_eq (tgt := 94) hx hb dX6_tell_46 (by decide) (fun c14 => ?_) (fun c14 => ?_)
      · replace hw := hw.1 c14
        exact t_X6_tell_94 X Q   _ _ _ _ _ hw hk hl
      · replace hw := hw.2 c14
        refine lv_aload_n hx hb dX6_tell_49 rfl (lv_at hl 0 rfl) ?_
        refine k_callVv (rest := []) X hk (c_X6_statement l G _  _ hw) (cwV 0 X.1.2.2.2.2 (gzV (aw_r14 _ (List.mem_of_getElem? (i := 22) rfl)) (aw_r14 _ (List.mem_of_getElem? (i := 23) rfl)) (aw_r15 _ (List.mem_of_getElem? (i := 0) rfl)) (aw_r1 _ (List.mem_of_getElem? (i := 5) rfl)) (aw_r15 _ (List.mem_of_getElem? (i := 1) rfl))) rfl rfl rfl hd_X6_statement ⟨(Nat.le_of_ble_eq_true rfl), (Nat.le_of_ble_eq_true rfl)⟩) (wg_30 G _) rfl rfl hl.1 rfl (Nat.le_of_ble_eq_true rfl) dX6_tell_50 ⟨Nat.zero_le _, Nat.zero_le _⟩ (fun σ15 H locs hw hk => ?_)
        refine lv_aload_n hx hb dX6_tell_53 rfl (lv_at hl 0 rfl) ?_
        refine k_get 5 X hk (wg_30 G _) rfl (hz_wsX60 _) (Nat.le_of_ble_eq_true rfl) (List.mem_cons_of_mem _ (aw_r14 _ (List.mem_of_getElem? (i := 12) rfl))) rfl dX6_tell_54 ?_
        refine lv_if_ne (tgt := 78) hx hb dX6_tell_57 (by decide) (fun c17 => ?_) (fun c17 => ?_)
        · replace hw := hw.2 c17
          exact t_X6_tell_78 X Q _ ih _ _ _ _ _ hw hk hl
        · replace hw := hw.1 c17
          refine lv_aload_n hx hb dX6_tell_60 rfl (lv_at hl 0 rfl) ?_
          refine k_callVi (rest := []) X hk (c_X6_here l G _  _ hw) (cwV 0 X.1.2.2.2.2 (gzV (aw_r14 _ (List.mem_of_getElem? (i := 18) rfl)) (aw_r14 _ (List.mem_of_getElem? (i := 19) rfl)) (aw_r14 _ (List.mem_of_getElem? (i := 20) rfl)) (aw_r1 _ (List.mem_of_getElem? (i := 5) rfl)) (aw_r14 _ (List.mem_of_getElem? (i := 21) rfl))) rfl rfl rfl hd_X6_here ⟨(Nat.le_of_ble_eq_true rfl), (Nat.le_of_ble_eq_true rfl)⟩) (wg_30 G _) rfl rfl hl.1 rfl (Nat.le_of_ble_eq_true rfl) dX6_tell_61 ⟨Nat.zero_le _, Nat.zero_le _⟩ (fun r21 σ20 H locs hw hk => ?_)
          refine lv_bipush (v := (59 : Int32)) hx hb dX6_tell_64 (by decide) ?_
          refine lv_icmp_eq (tgt := 78) hx hb dX6_tell_66 (by decide) (fun c22 => ?_) (fun c22 => ?_)
          · replace hw := hw.1 c22
            exact t_X6_tell_78 X Q _ ih _ _ _ _ _ hw hk hl
          · replace hw := hw.2 c22
            refine lv_aload_n hx hb dX6_tell_69 rfl (lv_at hl 0 rfl) ?_
            refine lv_iconst (v := (1 : Int32)) hx hb dX6_tell_70 (by decide) ?_
            refine lv_aload_n hx hb dX6_tell_71 rfl (lv_at hl 0 rfl) ?_
            refine k_get 7 X hk (wg_30 G _) rfl (hz_wsX60 _) (Nat.le_of_ble_eq_true rfl) (List.mem_cons_of_mem _ (aw_r14 _ (List.mem_of_getElem? (i := 13) rfl))) rfl dX6_tell_72 ?_
            refine k_callVv (rest := []) X hk (c_X6_fails l G _ _ _ _ hw) (cwV 2 X.1.2.2.2.2 (gzV (aw_r15 _ (List.mem_of_getElem? (i := 18) rfl)) (aw_r15 _ (List.mem_of_getElem? (i := 19) rfl)) (aw_r15 _ (List.mem_of_getElem? (i := 20) rfl)) (aw_r1 _ (List.mem_of_getElem? (i := 5) rfl)) (aw_r15 _ (List.mem_of_getElem? (i := 21) rfl))) rfl rfl rfl hd_X6_fails ⟨(Nat.le_of_ble_eq_true rfl), (Nat.le_of_ble_eq_true rfl)⟩) (wg_30 G _) rfl rfl hl.1 rfl (Nat.le_of_ble_eq_true rfl) dX6_tell_75 ⟨Nat.zero_le _, Nat.zero_le _⟩ (fun σ23 H locs hw hk => ?_)
            exact t_X6_tell_78 X Q _ ih _ _ _ _ _ hw hk hl
def wp_X6_tell (σ : Sg) (Q : Int32 → Sg → Prop) : Prop := ∀ σ1 : Sg, σ1 = (put σ 30 0 (0 : Int32)) → (∀ σ2 : Sg, σ2 = (put σ1 30 6 (σ1 30 4)) → (∀ σ3 : Sg, σ3 = (put σ2 30 4 (0 : Int32)) → (∀ σ4 : Sg, σ4 = (put σ3 30 5 (0 : Int32)) → (∀ σ5 : Sg, σ5 = (put σ4 30 7 (0 : Int32)) → (wp_X6_keeps σ5  (fun σ6 => ∃ n0, wp_X6_tell_34 Q  n0 (0 : Int32) σ6))))))
set_option maxHeartbeats 4000000 in
set_option maxRecDepth 100000 in
theorem c_X6_tell (l : Launch) (G : Gw) (σ : Sg) (Q : Int32 → Sg → Prop) (hw : wp_X6_tell σ  Q) : MetI l yX6_tell wz_X6_tell rm_X6_tell G σ [.ref (G.1 30)] Q := by
  refine MetI.of cX6_tell 2 (some .int) (by decide) rfl (Nat.le_of_ble_eq_true rfl) ?_
  intro p e s m below meth c X hk ls hl
  have X : KC p m meth c cX6_tell 2 s _ wz_X6_tell RX6 (some .int) G := X
  have hl : lv_has ls 2 [(0, .ref (G.1 30))] := hl
  unfold wp_X6_tell at hw
  have hx := X.1.1
  have hb := X.1.2.1
  refine lv_aload_n hx hb dX6_tell_0 rfl (lv_at hl 0 rfl) ?_
  refine lv_iconst (v := (0 : Int32)) hx hb dX6_tell_1 (by decide) ?_
  refine k_put 0 X hk (wg_30 G _) rfl (hz_wsX60 _) tyX6_ok nmX6 (Nat.le_of_ble_eq_true rfl) (List.mem_cons_of_mem _ (aw_r6 _ (List.mem_of_getElem? (i := 3) rfl))) rfl rfl (Nat.le_of_ble_eq_true rfl) (ws_30_0 G _ _) dX6_tell_2 (fun H locs hk => ?_)
  obtain ⟨σ1, eσ1⟩ : ∃ y : Sg, y = (put σ 30 0 (0 : Int32)) := ⟨_, rfl⟩
  rw [← eσ1] at hk
  replace hw := hw σ1 eσ1
  refine lv_aload_n hx hb dX6_tell_5 rfl (lv_at hl 0 rfl) ?_
  refine lv_aload_n hx hb dX6_tell_6 rfl (lv_at hl 0 rfl) ?_
  refine k_get 4 X hk (wg_30 G _) rfl (hz_wsX60 _) (Nat.le_of_ble_eq_true rfl) (List.mem_cons_of_mem _ (aw_r6 _ (List.mem_of_getElem? (i := 4) rfl))) rfl dX6_tell_7 ?_
  refine k_put 6 X hk (wg_30 G _) rfl (hz_wsX60 _) tyX6_ok nmX6 (Nat.le_of_ble_eq_true rfl) (List.mem_cons_of_mem _ (aw_r14 _ (List.mem_of_getElem? (i := 11) rfl))) rfl rfl (Nat.le_of_ble_eq_true rfl) (ws_30_6 G _ _) dX6_tell_10 (fun H locs hk => ?_)
  obtain ⟨σ2, eσ2⟩ : ∃ y : Sg, y = (put σ1 30 6 (σ1 30 4)) := ⟨_, rfl⟩
  rw [← eσ2] at hk
  replace hw := hw σ2 eσ2
  refine lv_aload_n hx hb dX6_tell_13 rfl (lv_at hl 0 rfl) ?_
  refine lv_iconst (v := (0 : Int32)) hx hb dX6_tell_14 (by decide) ?_
  refine k_put 4 X hk (wg_30 G _) rfl (hz_wsX60 _) tyX6_ok nmX6 (Nat.le_of_ble_eq_true rfl) (List.mem_cons_of_mem _ (aw_r6 _ (List.mem_of_getElem? (i := 4) rfl))) rfl rfl (Nat.le_of_ble_eq_true rfl) (ws_30_4 G _ _) dX6_tell_15 (fun H locs hk => ?_)
  obtain ⟨σ3, eσ3⟩ : ∃ y : Sg, y = (put σ2 30 4 (0 : Int32)) := ⟨_, rfl⟩
  rw [← eσ3] at hk
  replace hw := hw σ3 eσ3
  refine lv_aload_n hx hb dX6_tell_18 rfl (lv_at hl 0 rfl) ?_
  refine lv_iconst (v := (0 : Int32)) hx hb dX6_tell_19 (by decide) ?_
  refine k_put 5 X hk (wg_30 G _) rfl (hz_wsX60 _) tyX6_ok nmX6 (Nat.le_of_ble_eq_true rfl) (List.mem_cons_of_mem _ (aw_r14 _ (List.mem_of_getElem? (i := 12) rfl))) rfl rfl (Nat.le_of_ble_eq_true rfl) (ws_30_5 G _ _) dX6_tell_20 (fun H locs hk => ?_)
  obtain ⟨σ4, eσ4⟩ : ∃ y : Sg, y = (put σ3 30 5 (0 : Int32)) := ⟨_, rfl⟩
  rw [← eσ4] at hk
  replace hw := hw σ4 eσ4
  refine lv_aload_n hx hb dX6_tell_23 rfl (lv_at hl 0 rfl) ?_
  refine lv_iconst (v := (0 : Int32)) hx hb dX6_tell_24 (by decide) ?_
  refine k_put 7 X hk (wg_30 G _) rfl (hz_wsX60 _) tyX6_ok nmX6 (Nat.le_of_ble_eq_true rfl) (List.mem_cons_of_mem _ (aw_r14 _ (List.mem_of_getElem? (i := 13) rfl))) rfl rfl (Nat.le_of_ble_eq_true rfl) (ws_30_7 G _ _) dX6_tell_25 (fun H locs hk => ?_)
  obtain ⟨σ5, eσ5⟩ : ∃ y : Sg, y = (put σ4 30 7 (0 : Int32)) := ⟨_, rfl⟩
  rw [← eσ5] at hk
  replace hw := hw σ5 eσ5
  refine lv_aload_n hx hb dX6_tell_28 rfl (lv_at hl 0 rfl) ?_
  refine k_callVv (rest := []) X hk (c_X6_keeps l G _  _ hw) (cwV 0 X.1.2.2.2.2 (gzV (aw_r14 _ (List.mem_of_getElem? (i := 14) rfl)) (aw_r14 _ (List.mem_of_getElem? (i := 15) rfl)) (aw_r14 _ (List.mem_of_getElem? (i := 16) rfl)) (aw_r1 _ (List.mem_of_getElem? (i := 5) rfl)) (aw_r14 _ (List.mem_of_getElem? (i := 17) rfl))) rfl rfl rfl hd_X6_keeps ⟨(Nat.le_of_ble_eq_true rfl), (Nat.le_of_ble_eq_true rfl)⟩) (wg_30 G _) rfl rfl hl.1 rfl (Nat.le_of_ble_eq_true rfl) dX6_tell_29 ⟨Nat.zero_le _, Nat.zero_le _⟩ (fun σ6 H locs hw hk => ?_)
  refine lv_iconst (v := (0 : Int32)) hx hb dX6_tell_32 (by decide) ?_
  refine lv_istore_n (lv' := [(1, .int (0 : Int32)), (0, .ref (G.1 30))]) hx hb dX6_tell_33 rfl hl (Nat.le_of_ble_eq_true rfl) rfl (fun ls hl => ?_)
  obtain ⟨n0, hw⟩ := hw
  exact t_X6_tell_34 X Q   n0 _ _ _ _ _ hw hk (lv_sub hl [1, 0] rfl)
def rm_X6_fault : Room := { frames := 0, cells := 0, slots := 0, locals := 0 }
abbrev wz_X6_fault : List Cond := Cond.code yX6_fault cX6_fault 1 (some .int) :: wsA
theorem hd_X6_fault : yX6_fault.cls = RX6 ∧ yX6_fault.cls ≠ "java/lang/invoke/MethodHandle" ∧ yX6_fault.cls ≠ "java/lang/invoke/VarHandle" ∧ (parseMethodDescriptor yX6_fault.desc).map (fun d => d.parameters.length) = some 0 := by decide +kernel
def wp_X6_fault (σ : Sg) (Q : Int32 → Sg → Prop) : Prop := ∀ σ1 : Sg, σ1 = (put σ 30 0 (0 : Int32)) → (Q (σ1 30 5) σ1)
set_option maxHeartbeats 4000000 in
set_option maxRecDepth 100000 in
theorem c_X6_fault (l : Launch) (G : Gw) (σ : Sg) (Q : Int32 → Sg → Prop) (hw : wp_X6_fault σ  Q) : MetI l yX6_fault wz_X6_fault rm_X6_fault G σ [.ref (G.1 30)] Q := by
  refine MetI.of cX6_fault 1 (some .int) (by decide) rfl (Nat.le_of_ble_eq_true rfl) ?_
  intro p e s m below meth c X hk ls hl
  have X : KC p m meth c cX6_fault 1 s _ wz_X6_fault RX6 (some .int) G := X
  have hl : lv_has ls 1 [(0, .ref (G.1 30))] := hl
  unfold wp_X6_fault at hw
  have hx := X.1.1
  have hb := X.1.2.1
  refine lv_aload_n hx hb dX6_fault_0 rfl (lv_at hl 0 rfl) ?_
  refine lv_iconst (v := (0 : Int32)) hx hb dX6_fault_1 (by decide) ?_
  refine k_put 0 X hk (wg_30 G _) rfl (hz_wsX60 _) tyX6_ok nmX6 (Nat.le_of_ble_eq_true rfl) (List.mem_cons_of_mem _ (aw_r6 _ (List.mem_of_getElem? (i := 3) rfl))) rfl rfl (Nat.le_of_ble_eq_true rfl) (ws_30_0 G _ _) dX6_fault_2 (fun H locs hk => ?_)
  obtain ⟨σ1, eσ1⟩ : ∃ y : Sg, y = (put σ 30 0 (0 : Int32)) := ⟨_, rfl⟩
  rw [← eσ1] at hk
  replace hw := hw σ1 eσ1
  refine lv_aload_n hx hb dX6_fault_5 rfl (lv_at hl 0 rfl) ?_
  refine k_get 5 X hk (wg_30 G _) rfl (hz_wsX60 _) (Nat.le_of_ble_eq_true rfl) (List.mem_cons_of_mem _ (aw_r14 _ (List.mem_of_getElem? (i := 12) rfl))) rfl dX6_fault_6 ?_
  exact k_iret X hk hw dX6_fault_9
