def rm_X0_leastThinkable : Room := { frames := 2, cells := 0, slots := 0, locals := 46 }
abbrev wz_X0_leastThinkable : List Cond := Cond.code yX0_leastThinkable cX0_leastThinkable 3 (some .int) :: wsA
theorem hd_X0_leastThinkable : yX0_leastThinkable.cls = RX0 ∧ yX0_leastThinkable.cls ≠ "java/lang/invoke/MethodHandle" ∧ yX0_leastThinkable.cls ≠ "java/lang/invoke/VarHandle" ∧ (parseMethodDescriptor yX0_leastThinkable.desc).map (fun d => d.parameters.length) = some 0 := by decide +kernel
def wp_X0_leastThinkable_74 (Q : Int32 → Sg → Prop) (K30 : Int32 → Int32 → Sg → Prop) (x1 x2 : Int32) (σ : Sg) : Prop := ∀ x2_12 : Int32, x2_12 = (x2 + (1 : Int32)) → (K30 x1 x2_12 σ)
set_option maxHeartbeats 4000000 in
set_option maxRecDepth 100000 in
theorem t_X0_leastThinkable_74 {p : Program} {l : Launch} {e : Env} {s : State} {m : MethodId} {args : Array Value} {below : List Frame} {meth : Method} {c : Code} {G : Gw} (X : KC p m meth c cX0_leastThinkable 3 s args wz_X0_leastThinkable RX0 (some .int) G) (Q : Int32 → Sg → Prop) (K30 : Int32 → Int32 → Sg → Prop) (hK30 : ∀ (σ : Sg) (x1 x2 : Int32) (H : Heap) (locs : List Loc) (ls : Array Slot), K30 x1 x2 σ → WK G s H locs σ → lv_has ls 3 [(0, .ref (G.1 4)), (1, .int x1), (2, .int x2)] → W p l e rm_X0_leastThinkable s m args below meth c H locs 0 0 (ZI below args s G Q) (F0 m 30 ls [])) : ∀ (σ : Sg) (x1 x2 : Int32) (H : Heap) (locs : List Loc) (ls : Array Slot), wp_X0_leastThinkable_74 Q K30 x1 x2 σ → WK G s H locs σ → lv_has ls 3 [(0, .ref (G.1 4)), (1, .int x1), (2, .int x2)] → W p l e rm_X0_leastThinkable s m args below meth c H locs 0 0 (ZI below args s G Q) (F0 m 74 ls []) := by
  have hx := X.1.1
  have hb := X.1.2.1
  intro σ x1 x2 H locs ls hw hk hl
  unfold wp_X0_leastThinkable_74 at hw
  obtain ⟨x2_12, ex2_12⟩ : ∃ y : Int32, y = (x2 + (1 : Int32)) := ⟨_, rfl⟩
  replace hw := hw x2_12 ex2_12
  refine lv_iinc (v := x2_12) (lv' := [(2, .int x2_12), (0, .ref (G.1 4)), (1, .int x1)]) hx hb dX0_leastThinkable_74 hl (k := 2) rfl (by rw [ex2_12]; rfl) (Nat.le_of_ble_eq_true rfl) rfl (fun ls hl => ?_)
  refine lv_goto (tgt := 30) hx hb dX0_leastThinkable_77 (by decide) ?_
  exact hK30 _ _ _ _ _ _ hw hk (lv_sub hl [1, 2, 0] rfl)
def wp_X0_leastThinkable_30 (Q : Int32 → Sg → Prop)  : Nat → Int32 → Int32 → Sg → Prop
  | 0, _, _, _ => False
  | n + 1, x1, x2, σ => ((σ 1 0) ≤ x2 → (Q (if (41 : Int32) < x1 then (41 : Int32) else x1) σ)) ∧ (¬ ((σ 1 0) ≤ x2) → (wp_X3_fact σ x2 (0 : Int32) (fun r10 σ9 => (r10 ≤ 0 → (wp_X0_leastThinkable_74 Q (fun z1 z2 σ => wp_X0_leastThinkable_30 Q  n z1 z2 σ) x1 x2 σ9)) ∧ (¬ (r10 ≤ 0) → (wp_X3_fact σ9 x2 (2 : Int32) (fun r14 σ13 => vp_in x2 8 ∧ (∀ x1_15 : Int32, x1_15 = (if x1 < (r14 + (σ13 27 (x2).toNatClampNeg)) then (r14 + (σ13 27 (x2).toNatClampNeg)) else x1) → (wp_X0_leastThinkable_74 Q (fun z1 z2 σ => wp_X0_leastThinkable_30 Q  n z1 z2 σ) x1_15 x2 σ13))))))))
set_option maxHeartbeats 4000000 in
set_option maxRecDepth 100000 in
theorem t_X0_leastThinkable_30 {p : Program} {l : Launch} {e : Env} {s : State} {m : MethodId} {args : Array Value} {below : List Frame} {meth : Method} {c : Code} {G : Gw} (X : KC p m meth c cX0_leastThinkable 3 s args wz_X0_leastThinkable RX0 (some .int) G) (Q : Int32 → Sg → Prop)  : ∀ (n : Nat) (σ : Sg) (x1 x2 : Int32) (H : Heap) (locs : List Loc) (ls : Array Slot), wp_X0_leastThinkable_30 Q  n x1 x2 σ → WK G s H locs σ → lv_has ls 3 [(0, .ref (G.1 4)), (1, .int x1), (2, .int x2)] → W p l e rm_X0_leastThinkable s m args below meth c H locs 0 0 (ZI below args s G Q) (F0 m 30 ls []) := by
  have hx := X.1.1
  have hb := X.1.2.1
  intro n
  induction n with
  | zero =>
    intro σ x1 x2 H locs ls hw hk hl
    exact False.elim hw
  | succ n ih =>
    intro σ x1 x2 H locs ls hw hk hl
    rw [wp_X0_leastThinkable_30] at hw
    refine lv_iload_n hx hb dX0_leastThinkable_30 rfl (lv_at hl 2 rfl) ?_
    refine lv_aload_n hx hb dX0_leastThinkable_31 rfl (lv_at hl 0 rfl) ?_
    refine k_get 0 X hk (wg_4 G _) rfl (hz_wsX00 _) (Nat.le_of_ble_eq_true rfl) (List.mem_cons_of_mem _ (aw_r4 _ (List.mem_of_getElem? (i := 3) rfl))) rfl dX0_leastThinkable_32 ?_
    refine k_get 0 X hk (wg_1 G _) rfl (hz_wsX30 _) (Nat.le_of_ble_eq_true rfl) (List.mem_cons_of_mem _ (aw_r26 _ (List.mem_of_getElem? (i := 14) rfl))) rfl dX0_leastThinkable_35 ?_
    refine lv_icmp_ge (tgt := 80) hx hb dX0_leastThinkable_38 (by decide) (fun c8 => ?_) (fun c8 => ?_)
    · replace hw := hw.1 c8
      refine lv_iload_n hx hb dX0_leastThinkable_80 rfl (lv_at hl 1 rfl) ?_
      refine lv_bipush (v := (41 : Int32)) hx hb dX0_leastThinkable_81 (by decide) ?_
      refine va_mmin hx hb (X.1.2.2.1.trans hl.1.symm) X.1.2.2.2.1 (X.1.2.2.2.2 _ (List.mem_cons_of_mem _ (aw_r30 _ (List.mem_of_getElem? (i := 15) rfl)))) (X.1.2.2.2.2 _ (List.mem_cons_of_mem _ (aw_r30 _ (List.mem_of_getElem? (i := 16) rfl)))) (X.1.2.2.2.2 _ (List.mem_cons_of_mem _ (aw_r30 _ (List.mem_of_getElem? (i := 9) rfl)))) (X.1.2.2.2.2 _ (List.mem_cons_of_mem _ (aw_r30 _ (List.mem_of_getElem? (i := 17) rfl)))) (Nat.le_of_ble_eq_true rfl) (Nat.le_of_ble_eq_true rfl) (Nat.zero_le _) (Nat.zero_le _) dX0_leastThinkable_83 ?_
      exact k_iret X hk hw dX0_leastThinkable_86
    · replace hw := hw.2 c8
      refine lv_aload_n hx hb dX0_leastThinkable_41 rfl (lv_at hl 0 rfl) ?_
      refine k_get 0 X hk (wg_4 G _) rfl (hz_wsX00 _) (Nat.le_of_ble_eq_true rfl) (List.mem_cons_of_mem _ (aw_r4 _ (List.mem_of_getElem? (i := 3) rfl))) rfl dX0_leastThinkable_42 ?_
      refine lv_iload_n hx hb dX0_leastThinkable_45 rfl (lv_at hl 2 rfl) ?_
      refine lv_iconst (v := (0 : Int32)) hx hb dX0_leastThinkable_46 (by decide) ?_
      refine k_callVi (rest := []) X hk (c_X3_fact l G _ _ _ _ hw) (cwV 2 X.1.2.2.2.2 (gzV (aw_r26 _ (List.mem_of_getElem? (i := 20) rfl)) (aw_r20 _ (List.mem_of_getElem? (i := 20) rfl)) (aw_r20 _ (List.mem_of_getElem? (i := 21) rfl)) (aw_r1 _ (List.mem_of_getElem? (i := 15) rfl)) (aw_r20 _ (List.mem_of_getElem? (i := 22) rfl))) rfl rfl rfl hd_X3_fact ⟨(Nat.le_of_ble_eq_true rfl), (Nat.le_of_ble_eq_true rfl)⟩) (wg_1 G _) rfl rfl hl.1 rfl (Nat.le_of_ble_eq_true rfl) dX0_leastThinkable_47 ⟨Nat.zero_le _, Nat.zero_le _⟩ (fun r10 σ9 H locs hw hk => ?_)
      refine lv_if_le (tgt := 74) hx hb dX0_leastThinkable_50 (by decide) (fun c11 => ?_) (fun c11 => ?_)
      · replace hw := hw.1 c11
        exact t_X0_leastThinkable_74 X Q _ ih _ _ _ _ _ _ hw hk hl
      · replace hw := hw.2 c11
        refine lv_iload_n hx hb dX0_leastThinkable_53 rfl (lv_at hl 1 rfl) ?_
        refine lv_aload_n hx hb dX0_leastThinkable_54 rfl (lv_at hl 0 rfl) ?_
        refine k_get 0 X hk (wg_4 G _) rfl (hz_wsX00 _) (Nat.le_of_ble_eq_true rfl) (List.mem_cons_of_mem _ (aw_r4 _ (List.mem_of_getElem? (i := 3) rfl))) rfl dX0_leastThinkable_55 ?_
        refine lv_iload_n hx hb dX0_leastThinkable_58 rfl (lv_at hl 2 rfl) ?_
        refine lv_iconst (v := (2 : Int32)) hx hb dX0_leastThinkable_59 (by decide) ?_
        refine k_callVi (rest := [.int x1]) X hk (c_X3_fact l G _ _ _ _ hw) (cwV 2 X.1.2.2.2.2 (gzV (aw_r26 _ (List.mem_of_getElem? (i := 20) rfl)) (aw_r20 _ (List.mem_of_getElem? (i := 20) rfl)) (aw_r20 _ (List.mem_of_getElem? (i := 21) rfl)) (aw_r1 _ (List.mem_of_getElem? (i := 15) rfl)) (aw_r20 _ (List.mem_of_getElem? (i := 22) rfl))) rfl rfl rfl hd_X3_fact ⟨(Nat.le_of_ble_eq_true rfl), (Nat.le_of_ble_eq_true rfl)⟩) (wg_1 G _) rfl rfl hl.1 rfl (Nat.le_of_ble_eq_true rfl) dX0_leastThinkable_60 ⟨Nat.zero_le _, Nat.zero_le _⟩ (fun r14 σ13 H locs hw hk => ?_)
        refine lv_aload_n hx hb dX0_leastThinkable_63 rfl (lv_at hl 0 rfl) ?_
        refine k_get 13 X hk (wg_4 G _) rfl (hz_wsX00 _) (Nat.le_of_ble_eq_true rfl) (List.mem_cons_of_mem _ (aw_r4 _ (List.mem_of_getElem? (i := 2) rfl))) rfl dX0_leastThinkable_64 ?_
        refine lv_iload_n hx hb dX0_leastThinkable_67 rfl (lv_at hl 2 rfl) ?_
        refine k_iald X hk (wg_27 G _) hw.1 dX0_leastThinkable_68 ?_
        replace hw := hw.2
        refine lv_iadd hx hb dX0_leastThinkable_69 ?_
        refine va_mmax hx hb (X.1.2.2.1.trans hl.1.symm) X.1.2.2.2.1 (X.1.2.2.2.2 _ (List.mem_cons_of_mem _ (aw_r30 _ (List.mem_of_getElem? (i := 7) rfl)))) (X.1.2.2.2.2 _ (List.mem_cons_of_mem _ (aw_r30 _ (List.mem_of_getElem? (i := 8) rfl)))) (X.1.2.2.2.2 _ (List.mem_cons_of_mem _ (aw_r30 _ (List.mem_of_getElem? (i := 9) rfl)))) (X.1.2.2.2.2 _ (List.mem_cons_of_mem _ (aw_r30 _ (List.mem_of_getElem? (i := 10) rfl)))) (Nat.le_of_ble_eq_true rfl) (Nat.le_of_ble_eq_true rfl) (Nat.zero_le _) (Nat.zero_le _) dX0_leastThinkable_70 ?_
        refine lv_topi (fun x1_15 ex1_15 => ?_)
        replace hw := hw x1_15 ex1_15
        refine lv_istore_n (lv' := [(1, .int x1_15), (0, .ref (G.1 4)), (2, .int x2)]) hx hb dX0_leastThinkable_73 rfl hl (Nat.le_of_ble_eq_true rfl) rfl (fun ls hl => ?_)
        exact t_X0_leastThinkable_74 X Q _ ih _ _ _ _ _ _ hw hk (lv_sub hl [1, 0, 2] rfl)
def wp_X0_leastThinkable (σ : Sg) (Q : Int32 → Sg → Prop) : Prop := wp_X3_total σ (0 : Int32) (fun r2 σ1 => wp_X3_total σ1 (1 : Int32) (fun r4 σ3 => (r2 ≤ r4 → (wp_X0_measureRoads σ3  (fun σ6 => ∃ n0, wp_X0_leastThinkable_30 Q  n0 (0 : Int32) (0 : Int32) σ6))) ∧ (¬ (r2 ≤ r4) → (Q (41 : Int32) σ3))))
set_option maxHeartbeats 4000000 in
set_option maxRecDepth 100000 in
theorem c_X0_leastThinkable (l : Launch) (G : Gw) (σ : Sg) (Q : Int32 → Sg → Prop) (hw : wp_X0_leastThinkable σ  Q) : MetI l yX0_leastThinkable wz_X0_leastThinkable rm_X0_leastThinkable G σ [.ref (G.1 4)] Q := by
  refine MetI.of cX0_leastThinkable 3 (some .int) (by decide) rfl (Nat.le_of_ble_eq_true rfl) ?_
  intro p e s m below meth c X hk ls hl
  have X : KC p m meth c cX0_leastThinkable 3 s _ wz_X0_leastThinkable RX0 (some .int) G := X
  have hl : lv_has ls 3 [(0, .ref (G.1 4))] := hl
  unfold wp_X0_leastThinkable at hw
  have hx := X.1.1
  have hb := X.1.2.1
  refine lv_aload_n hx hb dX0_leastThinkable_0 rfl (lv_at hl 0 rfl) ?_
  refine k_get 0 X hk (wg_4 G _) rfl (hz_wsX00 _) (Nat.le_of_ble_eq_true rfl) (List.mem_cons_of_mem _ (aw_r4 _ (List.mem_of_getElem? (i := 3) rfl))) rfl dX0_leastThinkable_1 ?_
  refine lv_iconst (v := (0 : Int32)) hx hb dX0_leastThinkable_4 (by decide) ?_
  refine k_callVi (rest := []) X hk (c_X3_total l G _ _ _ hw) (cwV 1 X.1.2.2.2.2 (gzV (aw_r26 _ (List.mem_of_getElem? (i := 19) rfl)) (aw_r23 _ (List.mem_of_getElem? (i := 16) rfl)) (aw_r23 _ (List.mem_of_getElem? (i := 17) rfl)) (aw_r1 _ (List.mem_of_getElem? (i := 15) rfl)) (aw_r23 _ (List.mem_of_getElem? (i := 18) rfl))) rfl rfl rfl hd_X3_total ⟨(Nat.le_of_ble_eq_true rfl), (Nat.le_of_ble_eq_true rfl)⟩) (wg_1 G _) rfl rfl hl.1 rfl (Nat.le_of_ble_eq_true rfl) dX0_leastThinkable_5 ⟨Nat.zero_le _, Nat.zero_le _⟩ (fun r2 σ1 H locs hw hk => ?_)
  refine lv_aload_n hx hb dX0_leastThinkable_8 rfl (lv_at hl 0 rfl) ?_
  refine k_get 0 X hk (wg_4 G _) rfl (hz_wsX00 _) (Nat.le_of_ble_eq_true rfl) (List.mem_cons_of_mem _ (aw_r4 _ (List.mem_of_getElem? (i := 3) rfl))) rfl dX0_leastThinkable_9 ?_
  refine lv_iconst (v := (1 : Int32)) hx hb dX0_leastThinkable_12 (by decide) ?_
  refine k_callVi (rest := [.int r2]) X hk (c_X3_total l G _ _ _ hw) (cwV 1 X.1.2.2.2.2 (gzV (aw_r26 _ (List.mem_of_getElem? (i := 19) rfl)) (aw_r23 _ (List.mem_of_getElem? (i := 16) rfl)) (aw_r23 _ (List.mem_of_getElem? (i := 17) rfl)) (aw_r1 _ (List.mem_of_getElem? (i := 15) rfl)) (aw_r23 _ (List.mem_of_getElem? (i := 18) rfl))) rfl rfl rfl hd_X3_total ⟨(Nat.le_of_ble_eq_true rfl), (Nat.le_of_ble_eq_true rfl)⟩) (wg_1 G _) rfl rfl hl.1 rfl (Nat.le_of_ble_eq_true rfl) dX0_leastThinkable_13 ⟨Nat.zero_le _, Nat.zero_le _⟩ (fun r4 σ3 H locs hw hk => ?_)
  refine lv_icmp_le (tgt := 22) hx hb dX0_leastThinkable_16 (by decide) (fun c5 => ?_) (fun c5 => ?_)
  · replace hw := hw.1 c5
    refine lv_aload_n hx hb dX0_leastThinkable_22 rfl (lv_at hl 0 rfl) ?_
    refine k_callVv (rest := []) X hk (c_X0_measureRoads l G _  _ hw) (cwV 0 X.1.2.2.2.2 (gzV (aw_r30 _ (List.mem_of_getElem? (i := 18) rfl)) (aw_r30 _ (List.mem_of_getElem? (i := 19) rfl)) (aw_r30 _ (List.mem_of_getElem? (i := 20) rfl)) (aw_r2 _ (List.mem_of_getElem? (i := 3) rfl)) (aw_r30 _ (List.mem_of_getElem? (i := 21) rfl))) rfl rfl rfl hd_X0_measureRoads ⟨(Nat.le_of_ble_eq_true rfl), (Nat.le_of_ble_eq_true rfl)⟩) (wg_4 G _) rfl rfl hl.1 rfl (Nat.le_of_ble_eq_true rfl) dX0_leastThinkable_23 ⟨Nat.zero_le _, Nat.zero_le _⟩ (fun σ6 H locs hw hk => ?_)
    refine lv_iconst (v := (0 : Int32)) hx hb dX0_leastThinkable_26 (by decide) ?_
    refine lv_istore_n (lv' := [(1, .int (0 : Int32)), (0, .ref (G.1 4))]) hx hb dX0_leastThinkable_27 rfl hl (Nat.le_of_ble_eq_true rfl) rfl (fun ls hl => ?_)
    refine lv_iconst (v := (0 : Int32)) hx hb dX0_leastThinkable_28 (by decide) ?_
    refine lv_istore_n (lv' := [(2, .int (0 : Int32)), (1, .int (0 : Int32)), (0, .ref (G.1 4))]) hx hb dX0_leastThinkable_29 rfl hl (Nat.le_of_ble_eq_true rfl) rfl (fun ls hl => ?_)
    obtain ⟨n0, hw⟩ := hw
    exact t_X0_leastThinkable_30 X Q   n0 _ _ _ _ _ _ hw hk (lv_sub hl [2, 1, 0] rfl)
  · replace hw := hw.2 c5
    refine lv_bipush (v := (41 : Int32)) hx hb dX0_leastThinkable_19 (by decide) ?_
    exact k_iret X hk hw dX0_leastThinkable_21
def rm_X0_allSafeBy : Room := { frames := 4, cells := 0, slots := 0, locals := 92 }
abbrev wz_X0_allSafeBy : List Cond := Cond.code yX0_allSafeBy cX0_allSafeBy 2 (some .boolean) :: wsA
theorem hd_X0_allSafeBy : yX0_allSafeBy.cls = RX0 ∧ yX0_allSafeBy.cls ≠ "java/lang/invoke/MethodHandle" ∧ yX0_allSafeBy.cls ≠ "java/lang/invoke/VarHandle" ∧ (parseMethodDescriptor yX0_allSafeBy.desc).map (fun d => d.parameters.length) = some 1 := by decide +kernel
def wp_X0_allSafeBy (σ : Sg) (p1 : Int32) (Q : Int32 → Sg → Prop) : Prop := wp_X0_leastThinkable σ  (fun r2 σ1 => (r2 ≤ p1 → (wp_X0_fillUpTo σ1 p1 (fun σ4 => ((σ4 4 4) = (σ4 4 3) → (bz (1 : Int32) ∧ Q (1 : Int32) σ4)) ∧ (¬ ((σ4 4 4) = (σ4 4 3)) → (bz (0 : Int32) ∧ Q (0 : Int32) σ4))))) ∧ (¬ (r2 ≤ p1) → (bz (0 : Int32) ∧ Q (0 : Int32) σ1)))
set_option maxHeartbeats 4000000 in
set_option maxRecDepth 100000 in
theorem c_X0_allSafeBy (l : Launch) (G : Gw) (σ : Sg) (p1 : Int32) (Q : Int32 → Sg → Prop) (hw : wp_X0_allSafeBy σ p1 Q) : MetI l yX0_allSafeBy wz_X0_allSafeBy rm_X0_allSafeBy G σ [.ref (G.1 4), .int p1] Q := by
  refine MetI.of cX0_allSafeBy 2 (some .boolean) (by decide) rfl (Nat.le_of_ble_eq_true rfl) ?_
  intro p e s m below meth c X hk ls hl
  have X : KC p m meth c cX0_allSafeBy 2 s _ wz_X0_allSafeBy RX0 (some .boolean) G := X
  have hl : lv_has ls 2 [(0, .ref (G.1 4)), (1, .int p1)] := hl
  unfold wp_X0_allSafeBy at hw
  have hx := X.1.1
  have hb := X.1.2.1
  refine lv_aload_n hx hb dX0_allSafeBy_0 rfl (lv_at hl 0 rfl) ?_
  refine k_callVi (rest := []) X hk (c_X0_leastThinkable l G _  _ hw) (cwV 0 X.1.2.2.2.2 (gzV (aw_r30 _ (List.mem_of_getElem? (i := 11) rfl)) (aw_r30 _ (List.mem_of_getElem? (i := 12) rfl)) (aw_r30 _ (List.mem_of_getElem? (i := 13) rfl)) (aw_r2 _ (List.mem_of_getElem? (i := 3) rfl)) (aw_r30 _ (List.mem_of_getElem? (i := 14) rfl))) rfl rfl rfl hd_X0_leastThinkable ⟨(Nat.le_of_ble_eq_true rfl), (Nat.le_of_ble_eq_true rfl)⟩) (wg_4 G _) rfl rfl hl.1 rfl (Nat.le_of_ble_eq_true rfl) dX0_allSafeBy_1 ⟨Nat.zero_le _, Nat.zero_le _⟩ (fun r2 σ1 H locs hw hk => ?_)
  refine lv_iload_n hx hb dX0_allSafeBy_4 rfl (lv_at hl 1 rfl) ?_
  refine lv_icmp_le (tgt := 10) hx hb dX0_allSafeBy_5 (by decide) (fun c3 => ?_) (fun c3 => ?_)
  · replace hw := hw.1 c3
    refine lv_aload_n hx hb dX0_allSafeBy_10 rfl (lv_at hl 0 rfl) ?_
    refine lv_iload_n hx hb dX0_allSafeBy_11 rfl (lv_at hl 1 rfl) ?_
    refine k_callVv (rest := []) X hk (c_X0_fillUpTo l G _ _ _ hw) (cwV 1 X.1.2.2.2.2 (gzV (aw_r26 _ (List.mem_of_getElem? (i := 3) rfl)) (aw_r26 _ (List.mem_of_getElem? (i := 4) rfl)) (aw_r26 _ (List.mem_of_getElem? (i := 5) rfl)) (aw_r2 _ (List.mem_of_getElem? (i := 3) rfl)) (aw_r26 _ (List.mem_of_getElem? (i := 6) rfl))) rfl rfl rfl hd_X0_fillUpTo ⟨(Nat.le_of_ble_eq_true rfl), (Nat.le_of_ble_eq_true rfl)⟩) (wg_4 G _) rfl rfl hl.1 rfl (Nat.le_of_ble_eq_true rfl) dX0_allSafeBy_12 ⟨Nat.zero_le _, Nat.zero_le _⟩ (fun σ4 H locs hw hk => ?_)
    refine lv_aload_n hx hb dX0_allSafeBy_15 rfl (lv_at hl 0 rfl) ?_
    refine k_get 4 X hk (wg_4 G _) rfl (hz_wsX00 _) (Nat.le_of_ble_eq_true rfl) (List.mem_cons_of_mem _ (aw_r26 _ (List.mem_of_getElem? (i := 2) rfl))) rfl dX0_allSafeBy_16 ?_
    refine lv_aload_n hx hb dX0_allSafeBy_19 rfl (lv_at hl 0 rfl) ?_
    refine k_get 3 X hk (wg_4 G _) rfl (hz_wsX00 _) (Nat.le_of_ble_eq_true rfl) (List.mem_cons_of_mem _ (aw_r26 _ (List.mem_of_getElem? (i := 13) rfl))) rfl dX0_allSafeBy_20 ?_
    refine lv_icmp_ne (tgt := 30) hx hb dX0_allSafeBy_23 (by decide) (fun c6 => ?_) (fun c6 => ?_)
    · replace hw := hw.2 c6
      refine lv_iconst (v := (0 : Int32)) hx hb dX0_allSafeBy_30 (by decide) ?_
      exact k_zret X hk hw dX0_allSafeBy_31
    · replace hw := hw.1 c6
      refine lv_iconst (v := (1 : Int32)) hx hb dX0_allSafeBy_26 (by decide) ?_
      refine lv_goto (tgt := 31) hx hb dX0_allSafeBy_27 (by decide) ?_
      exact k_zret X hk hw dX0_allSafeBy_31
  · replace hw := hw.2 c3
    refine lv_iconst (v := (0 : Int32)) hx hb dX0_allSafeBy_8 (by decide) ?_
    exact k_zret X hk hw dX0_allSafeBy_9
def rm_X0_soonestWithin : Room := { frames := 4, cells := 0, slots := 0, locals := 92 }
abbrev wz_X0_soonestWithin : List Cond := Cond.code yX0_soonestWithin cX0_soonestWithin 5 (some .int) :: wsA
theorem hd_X0_soonestWithin : yX0_soonestWithin.cls = RX0 ∧ yX0_soonestWithin.cls ≠ "java/lang/invoke/MethodHandle" ∧ yX0_soonestWithin.cls ≠ "java/lang/invoke/VarHandle" ∧ (parseMethodDescriptor yX0_soonestWithin.desc).map (fun d => d.parameters.length) = some 2 := by decide +kernel
def wp_X0_soonestWithin_57 (Q : Int32 → Sg → Prop)  (x2 : Int32) (σ : Sg) : Prop := ((σ 4 4) = (σ 4 3) → (Q (σ 4 2) σ)) ∧ (¬ ((σ 4 4) = (σ 4 3)) → (Q x2 σ))
set_option maxHeartbeats 4000000 in
set_option maxRecDepth 100000 in
theorem t_X0_soonestWithin_57 {p : Program} {l : Launch} {e : Env} {s : State} {m : MethodId} {args : Array Value} {below : List Frame} {meth : Method} {c : Code} {G : Gw} (X : KC p m meth c cX0_soonestWithin 5 s args wz_X0_soonestWithin RX0 (some .int) G) (Q : Int32 → Sg → Prop)  : ∀ (σ : Sg) (x2 : Int32) (H : Heap) (locs : List Loc) (ls : Array Slot), wp_X0_soonestWithin_57 Q  x2 σ → WK G s H locs σ → lv_has ls 5 [(0, .ref (G.1 4)), (2, .int x2)] → W p l e rm_X0_soonestWithin s m args below meth c H locs 0 0 (ZI below args s G Q) (F0 m 57 ls []) := by
  have hx := X.1.1
  have hb := X.1.2.1
  intro σ x2 H locs ls hw hk hl
  unfold wp_X0_soonestWithin_57 at hw
  refine lv_aload_n hx hb dX0_soonestWithin_57 rfl (lv_at hl 0 rfl) ?_
  refine k_get 4 X hk (wg_4 G _) rfl (hz_wsX00 _) (Nat.le_of_ble_eq_true rfl) (List.mem_cons_of_mem _ (aw_r26 _ (List.mem_of_getElem? (i := 2) rfl))) rfl dX0_soonestWithin_58 ?_
  refine lv_aload_n hx hb dX0_soonestWithin_61 rfl (lv_at hl 0 rfl) ?_
  refine k_get 3 X hk (wg_4 G _) rfl (hz_wsX00 _) (Nat.le_of_ble_eq_true rfl) (List.mem_cons_of_mem _ (aw_r26 _ (List.mem_of_getElem? (i := 13) rfl))) rfl dX0_soonestWithin_62 ?_
  refine lv_icmp_ne (tgt := 75) hx hb dX0_soonestWithin_65 (by decide) (fun c9 => ?_) (fun c9 => ?_)
  · replace hw := hw.2 c9
    refine lv_iload_n hx hb dX0_soonestWithin_75 rfl (lv_at hl 1 rfl) ?_
    exact k_iret X hk hw dX0_soonestWithin_76
  · replace hw := hw.1 c9
    refine lv_aload_n hx hb dX0_soonestWithin_68 rfl (lv_at hl 0 rfl) ?_
    refine k_get 2 X hk (wg_4 G _) rfl (hz_wsX00 _) (Nat.le_of_ble_eq_true rfl) (List.mem_cons_of_mem _ (aw_r26 _ (List.mem_of_getElem? (i := 12) rfl))) rfl dX0_soonestWithin_69 ?_
    refine lv_goto (tgt := 76) hx hb dX0_soonestWithin_72 (by decide) ?_
    exact k_iret X hk hw dX0_soonestWithin_76
def wp_X0_soonestWithin_26 (Q : Int32 → Sg → Prop)  : Nat → Int32 → Int32 → Sg → Prop
  | 0, _, _, _ => False
  | n + 1, x2, x4, σ => (x2 ≤ x4 → (wp_X0_soonestWithin_57 Q  x2 σ)) ∧ (¬ (x2 ≤ x4) → (((σ 4 3) ≤ (σ 4 4) → (wp_X0_soonestWithin_57 Q  x2 σ)) ∧ (¬ ((σ 4 3) ≤ (σ 4 4)) → (wp_X0_addMinute σ  (fun σ11 => wp_X0_push σ11  (fun σ13 => ∀ x4_15 : Int32, x4_15 = (x4 + (1 : Int32)) → (wp_X0_soonestWithin_26 Q  n x2 x4_15 σ13)))))))
set_option maxHeartbeats 4000000 in
set_option maxRecDepth 100000 in
theorem t_X0_soonestWithin_26 {p : Program} {l : Launch} {e : Env} {s : State} {m : MethodId} {args : Array Value} {below : List Frame} {meth : Method} {c : Code} {G : Gw} (X : KC p m meth c cX0_soonestWithin 5 s args wz_X0_soonestWithin RX0 (some .int) G) (Q : Int32 → Sg → Prop)  : ∀ (n : Nat) (σ : Sg) (x2 x4 : Int32) (H : Heap) (locs : List Loc) (ls : Array Slot), wp_X0_soonestWithin_26 Q  n x2 x4 σ → WK G s H locs σ → lv_has ls 5 [(0, .ref (G.1 4)), (2, .int x2), (4, .int x4)] → W p l e rm_X0_soonestWithin s m args below meth c H locs 0 0 (ZI below args s G Q) (F0 m 26 ls []) := by
  have hx := X.1.1
  have hb := X.1.2.1
  intro n
  induction n with
  | zero =>
    intro σ x2 x4 H locs ls hw hk hl
    exact False.elim hw
  | succ n ih =>
    intro σ x2 x4 H locs ls hw hk hl
    rw [wp_X0_soonestWithin_26] at hw
    refine lv_iload hx hb dX0_soonestWithin_26 (lv_at hl 2 rfl) ?_
    refine lv_iload_n hx hb dX0_soonestWithin_28 rfl (lv_at hl 1 rfl) ?_
    refine lv_icmp_ge (tgt := 57) hx hb dX0_soonestWithin_29 (by decide) (fun c8 => ?_) (fun c8 => ?_)
    · replace hw := hw.1 c8
      exact t_X0_soonestWithin_57 X Q   _ _ _ _ _ hw hk (lv_sub hl [0, 1] rfl)
    · replace hw := hw.2 c8
      refine lv_aload_n hx hb dX0_soonestWithin_32 rfl (lv_at hl 0 rfl) ?_
      refine k_get 4 X hk (wg_4 G _) rfl (hz_wsX00 _) (Nat.le_of_ble_eq_true rfl) (List.mem_cons_of_mem _ (aw_r26 _ (List.mem_of_getElem? (i := 2) rfl))) rfl dX0_soonestWithin_33 ?_
      refine lv_aload_n hx hb dX0_soonestWithin_36 rfl (lv_at hl 0 rfl) ?_
      refine k_get 3 X hk (wg_4 G _) rfl (hz_wsX00 _) (Nat.le_of_ble_eq_true rfl) (List.mem_cons_of_mem _ (aw_r26 _ (List.mem_of_getElem? (i := 13) rfl))) rfl dX0_soonestWithin_37 ?_
      refine lv_icmp_ge (tgt := 57) hx hb dX0_soonestWithin_40 (by decide) (fun c10 => ?_) (fun c10 => ?_)
      · replace hw := hw.1 c10
        exact t_X0_soonestWithin_57 X Q   _ _ _ _ _ hw hk (lv_sub hl [0, 1] rfl)
      · replace hw := hw.2 c10
        refine lv_aload_n hx hb dX0_soonestWithin_43 rfl (lv_at hl 0 rfl) ?_
        refine k_callVv (rest := []) X hk (c_X0_addMinute l G _  _ hw) (cwV 0 X.1.2.2.2.2 (gzV (aw_r27 _ (List.mem_of_getElem? (i := 5) rfl)) (aw_r27 _ (List.mem_of_getElem? (i := 6) rfl)) (aw_r27 _ (List.mem_of_getElem? (i := 7) rfl)) (aw_r2 _ (List.mem_of_getElem? (i := 3) rfl)) (aw_r27 _ (List.mem_of_getElem? (i := 8) rfl))) rfl rfl rfl hd_X0_addMinute ⟨(Nat.le_of_ble_eq_true rfl), (Nat.le_of_ble_eq_true rfl)⟩) (wg_4 G _) rfl rfl hl.1 rfl (Nat.le_of_ble_eq_true rfl) dX0_soonestWithin_44 ⟨Nat.zero_le _, Nat.zero_le _⟩ (fun σ11 H locs hw hk => ?_)
        refine lv_aload_n hx hb dX0_soonestWithin_47 rfl (lv_at hl 0 rfl) ?_
        refine k_callVv (rest := []) X hk (c_X0_push l G _  _ hw) (cwV 0 X.1.2.2.2.2 (gzV (aw_r27 _ (List.mem_of_getElem? (i := 13) rfl)) (aw_r27 _ (List.mem_of_getElem? (i := 14) rfl)) (aw_r27 _ (List.mem_of_getElem? (i := 15) rfl)) (aw_r2 _ (List.mem_of_getElem? (i := 3) rfl)) (aw_r27 _ (List.mem_of_getElem? (i := 16) rfl))) rfl rfl rfl hd_X0_push ⟨(Nat.le_of_ble_eq_true rfl), (Nat.le_of_ble_eq_true rfl)⟩) (wg_4 G _) rfl rfl hl.1 rfl (Nat.le_of_ble_eq_true rfl) dX0_soonestWithin_48 ⟨Nat.zero_le _, Nat.zero_le _⟩ (fun σ13 H locs hw hk => ?_)
        obtain ⟨x4_15, ex4_15⟩ : ∃ y : Int32, y = (x4 + (1 : Int32)) := ⟨_, rfl⟩
        replace hw := hw x4_15 ex4_15
        refine lv_iinc (v := x4_15) (lv' := [(4, .int x4_15), (0, .ref (G.1 4)), (2, .int x2)]) hx hb dX0_soonestWithin_51 hl (k := 2) rfl (by rw [ex4_15]; rfl) (Nat.le_of_ble_eq_true rfl) rfl (fun ls hl => ?_)
        refine lv_goto (tgt := 26) hx hb dX0_soonestWithin_54 (by decide) ?_
        exact ih _ _ _ _ _ _ hw hk (lv_sub hl [1, 2, 0] rfl)
def wp_X0_soonestWithin (σ : Sg) (p1 p2 : Int32) (Q : Int32 → Sg → Prop) : Prop := wp_X0_leastThinkable σ  (fun r2 σ1 => ∀ x3_3 : Int32, x3_3 = (if p1 < r2 then r2 else p1) → ((x3_3 < p2 → (wp_X0_fillUpTo σ1 x3_3 (fun σ5 => ∀ x4_7 : Int32, x4_7 = (x3_3 + (1 : Int32)) → (∃ n0, wp_X0_soonestWithin_26 Q  n0 p2 x4_7 σ5)))) ∧ (¬ (x3_3 < p2) → (Q p2 σ1))))
set_option maxHeartbeats 4000000 in
set_option maxRecDepth 100000 in
theorem c_X0_soonestWithin (l : Launch) (G : Gw) (σ : Sg) (p1 p2 : Int32) (Q : Int32 → Sg → Prop) (hw : wp_X0_soonestWithin σ p1 p2 Q) : MetI l yX0_soonestWithin wz_X0_soonestWithin rm_X0_soonestWithin G σ [.ref (G.1 4), .int p1, .int p2] Q := by
  refine MetI.of cX0_soonestWithin 5 (some .int) (by decide) rfl (Nat.le_of_ble_eq_true rfl) ?_
  intro p e s m below meth c X hk ls hl
  have X : KC p m meth c cX0_soonestWithin 5 s _ wz_X0_soonestWithin RX0 (some .int) G := X
  have hl : lv_has ls 5 [(0, .ref (G.1 4)), (1, .int p1), (2, .int p2)] := hl
  unfold wp_X0_soonestWithin at hw
  have hx := X.1.1
  have hb := X.1.2.1
  refine lv_iload_n hx hb dX0_soonestWithin_0 rfl (lv_at hl 1 rfl) ?_
  refine lv_aload_n hx hb dX0_soonestWithin_1 rfl (lv_at hl 0 rfl) ?_
  refine k_callVi (rest := [.int p1]) X hk (c_X0_leastThinkable l G _  _ hw) (cwV 0 X.1.2.2.2.2 (gzV (aw_r30 _ (List.mem_of_getElem? (i := 11) rfl)) (aw_r30 _ (List.mem_of_getElem? (i := 12) rfl)) (aw_r30 _ (List.mem_of_getElem? (i := 13) rfl)) (aw_r2 _ (List.mem_of_getElem? (i := 3) rfl)) (aw_r30 _ (List.mem_of_getElem? (i := 14) rfl))) rfl rfl rfl hd_X0_leastThinkable ⟨(Nat.le_of_ble_eq_true rfl), (Nat.le_of_ble_eq_true rfl)⟩) (wg_4 G _) rfl rfl hl.1 rfl (Nat.le_of_ble_eq_true rfl) dX0_soonestWithin_2 ⟨Nat.zero_le _, Nat.zero_le _⟩ (fun r2 σ1 H locs hw hk => ?_)
  refine va_mmax hx hb (X.1.2.2.1.trans hl.1.symm) X.1.2.2.2.1 (X.1.2.2.2.2 _ (List.mem_cons_of_mem _ (aw_r30 _ (List.mem_of_getElem? (i := 7) rfl)))) (X.1.2.2.2.2 _ (List.mem_cons_of_mem _ (aw_r30 _ (List.mem_of_getElem? (i := 8) rfl)))) (X.1.2.2.2.2 _ (List.mem_cons_of_mem _ (aw_r30 _ (List.mem_of_getElem? (i := 9) rfl)))) (X.1.2.2.2.2 _ (List.mem_cons_of_mem _ (aw_r30 _ (List.mem_of_getElem? (i := 10) rfl)))) (Nat.le_of_ble_eq_true rfl) (Nat.le_of_ble_eq_true rfl) (Nat.zero_le _) (Nat.zero_le _) dX0_soonestWithin_5 ?_
  refine lv_topi (fun x3_3 ex3_3 => ?_)
  replace hw := hw x3_3 ex3_3
  refine lv_istore_n (lv' := [(3, .int x3_3), (0, .ref (G.1 4)), (1, .int p1), (2, .int p2)]) hx hb dX0_soonestWithin_8 rfl hl (Nat.le_of_ble_eq_true rfl) rfl (fun ls hl => ?_)
  refine lv_iload_n hx hb dX0_soonestWithin_9 rfl (lv_at hl 0 rfl) ?_
  refine lv_iload_n hx hb dX0_soonestWithin_10 rfl (lv_at hl 3 rfl) ?_
  refine lv_icmp_lt (tgt := 16) hx hb dX0_soonestWithin_11 (by decide) (fun c4 => ?_) (fun c4 => ?_)
  · replace hw := hw.1 c4
    refine lv_aload_n hx hb dX0_soonestWithin_16 rfl (lv_at hl 1 rfl) ?_
    refine lv_iload_n hx hb dX0_soonestWithin_17 rfl (lv_at hl 0 rfl) ?_
    refine k_callVv (rest := []) X hk (c_X0_fillUpTo l G _ _ _ hw) (cwV 1 X.1.2.2.2.2 (gzV (aw_r26 _ (List.mem_of_getElem? (i := 3) rfl)) (aw_r26 _ (List.mem_of_getElem? (i := 4) rfl)) (aw_r26 _ (List.mem_of_getElem? (i := 5) rfl)) (aw_r2 _ (List.mem_of_getElem? (i := 3) rfl)) (aw_r26 _ (List.mem_of_getElem? (i := 6) rfl))) rfl rfl rfl hd_X0_fillUpTo ⟨(Nat.le_of_ble_eq_true rfl), (Nat.le_of_ble_eq_true rfl)⟩) (wg_4 G _) rfl rfl hl.1 rfl (Nat.le_of_ble_eq_true rfl) dX0_soonestWithin_18 ⟨Nat.zero_le _, Nat.zero_le _⟩ (fun σ5 H locs hw hk => ?_)
    refine lv_iload_n hx hb dX0_soonestWithin_21 rfl (lv_at hl 0 rfl) ?_
    refine lv_iconst (v := (1 : Int32)) hx hb dX0_soonestWithin_22 (by decide) ?_
    refine lv_iadd hx hb dX0_soonestWithin_23 ?_
    refine lv_topi (fun x4_7 ex4_7 => ?_)
    replace hw := hw x4_7 ex4_7
    refine lv_istore (lv' := [(4, .int x4_7), (3, .int x3_3), (0, .ref (G.1 4)), (1, .int p1), (2, .int p2)]) hx hb dX0_soonestWithin_24 hl (Nat.le_of_ble_eq_true rfl) rfl (fun ls hl => ?_)
    obtain ⟨n0, hw⟩ := hw
    exact t_X0_soonestWithin_26 X Q   n0 _ _ _ _ _ _ hw hk (lv_sub hl [2, 4, 0] rfl)
  · replace hw := hw.2 c4
    refine lv_iload_n hx hb dX0_soonestWithin_14 rfl (lv_at hl 3 rfl) ?_
    exact k_iret X hk hw dX0_soonestWithin_15
def rm_X0_soonest : Room := { frames := 5, cells := 0, slots := 0, locals := 116 }
abbrev wz_X0_soonest : List Cond := Cond.code yX0_soonest cX0_soonest 1 (some .int) :: wsA
theorem hd_X0_soonest : yX0_soonest.cls = RX0 ∧ yX0_soonest.cls ≠ "java/lang/invoke/MethodHandle" ∧ yX0_soonest.cls ≠ "java/lang/invoke/VarHandle" ∧ (parseMethodDescriptor yX0_soonest.desc).map (fun d => d.parameters.length) = some 0 := by decide +kernel
def wp_X0_soonest (σ : Sg) (Q : Int32 → Sg → Prop) : Prop := wp_X0_soonestWithin σ (0 : Int32) (41 : Int32) (fun r2 σ1 => Q r2 σ1)
set_option maxHeartbeats 4000000 in
set_option maxRecDepth 100000 in
theorem c_X0_soonest (l : Launch) (G : Gw) (σ : Sg) (Q : Int32 → Sg → Prop) (hw : wp_X0_soonest σ  Q) : MetI l yX0_soonest wz_X0_soonest rm_X0_soonest G σ [.ref (G.1 4)] Q := by
  refine MetI.of cX0_soonest 1 (some .int) (by decide) rfl (Nat.le_of_ble_eq_true rfl) ?_
  intro p e s m below meth c X hk ls hl
  have X : KC p m meth c cX0_soonest 1 s _ wz_X0_soonest RX0 (some .int) G := X
  have hl : lv_has ls 1 [(0, .ref (G.1 4))] := hl
  unfold wp_X0_soonest at hw
  have hx := X.1.1
  have hb := X.1.2.1
  refine lv_aload_n hx hb dX0_soonest_0 rfl (lv_at hl 0 rfl) ?_
  refine lv_iconst (v := (0 : Int32)) hx hb dX0_soonest_1 (by decide) ?_
  refine lv_bipush (v := (41 : Int32)) hx hb dX0_soonest_2 (by decide) ?_
  refine k_callVi (rest := []) X hk (c_X0_soonestWithin l G _ _ _ _ hw) (cwV 2 X.1.2.2.2.2 (gzV (aw_r30 _ (List.mem_of_getElem? (i := 3) rfl)) (aw_r30 _ (List.mem_of_getElem? (i := 4) rfl)) (aw_r30 _ (List.mem_of_getElem? (i := 5) rfl)) (aw_r2 _ (List.mem_of_getElem? (i := 3) rfl)) (aw_r30 _ (List.mem_of_getElem? (i := 6) rfl))) rfl rfl rfl hd_X0_soonestWithin ⟨(Nat.le_of_ble_eq_true rfl), (Nat.le_of_ble_eq_true rfl)⟩) (wg_4 G _) rfl rfl hl.1 rfl (Nat.le_of_ble_eq_true rfl) dX0_soonest_4 ⟨Nat.zero_le _, Nat.zero_le _⟩ (fun r2 σ1 H locs hw hk => ?_)
  exact k_iret X hk hw dX0_soonest_7
def rm_X0_findOpen : Room := { frames := 4, cells := 0, slots := 0, locals := 92 }
abbrev wz_X0_findOpen : List Cond := Cond.code yX0_findOpen cX0_findOpen 2 none :: wsA
theorem hd_X0_findOpen : yX0_findOpen.cls = RX0 ∧ yX0_findOpen.cls ≠ "java/lang/invoke/MethodHandle" ∧ yX0_findOpen.cls ≠ "java/lang/invoke/VarHandle" ∧ (parseMethodDescriptor yX0_findOpen.desc).map (fun d => d.parameters.length) = some 1 := by decide +kernel
def wp_X0_findOpen (σ : Sg) (p1 : Int32) (Q : Sg → Prop) : Prop := wp_X0_fillUpTo σ p1 (fun σ1 => wp_X0_reachSource σ1  (fun r4 σ3 => Q σ3))
set_option maxHeartbeats 4000000 in
set_option maxRecDepth 100000 in
theorem c_X0_findOpen (l : Launch) (G : Gw) (σ : Sg) (p1 : Int32) (Q : Sg → Prop) (hw : wp_X0_findOpen σ p1 Q) : MetV l yX0_findOpen wz_X0_findOpen rm_X0_findOpen G σ [.ref (G.1 4), .int p1] Q := by
  refine MetV.of cX0_findOpen 2 none (by decide) rfl (Nat.le_of_ble_eq_true rfl) ?_
  intro p e s m below meth c X hk ls hl
  have X : KC p m meth c cX0_findOpen 2 s _ wz_X0_findOpen RX0 none G := X
  have hl : lv_has ls 2 [(0, .ref (G.1 4)), (1, .int p1)] := hl
  unfold wp_X0_findOpen at hw
  have hx := X.1.1
  have hb := X.1.2.1
  refine lv_aload_n hx hb dX0_findOpen_0 rfl (lv_at hl 0 rfl) ?_
  refine lv_iload_n hx hb dX0_findOpen_1 rfl (lv_at hl 1 rfl) ?_
  refine k_callVv (rest := []) X hk (c_X0_fillUpTo l G _ _ _ hw) (cwV 1 X.1.2.2.2.2 (gzV (aw_r26 _ (List.mem_of_getElem? (i := 3) rfl)) (aw_r26 _ (List.mem_of_getElem? (i := 4) rfl)) (aw_r26 _ (List.mem_of_getElem? (i := 5) rfl)) (aw_r2 _ (List.mem_of_getElem? (i := 3) rfl)) (aw_r26 _ (List.mem_of_getElem? (i := 6) rfl))) rfl rfl rfl hd_X0_fillUpTo ⟨(Nat.le_of_ble_eq_true rfl), (Nat.le_of_ble_eq_true rfl)⟩) (wg_4 G _) rfl rfl hl.1 rfl (Nat.le_of_ble_eq_true rfl) dX0_findOpen_2 ⟨Nat.zero_le _, Nat.zero_le _⟩ (fun σ1 H locs hw hk => ?_)
  refine lv_aload_n hx hb dX0_findOpen_5 rfl (lv_at hl 0 rfl) ?_
  refine k_callVi (rest := []) X hk (c_X0_reachSource l G _  _ hw) (cwV 0 X.1.2.2.2.2 (gzV (aw_r27 _ (List.mem_of_getElem? (i := 18) rfl)) (aw_r27 _ (List.mem_of_getElem? (i := 19) rfl)) (aw_r27 _ (List.mem_of_getElem? (i := 20) rfl)) (aw_r2 _ (List.mem_of_getElem? (i := 3) rfl)) (aw_r27 _ (List.mem_of_getElem? (i := 21) rfl))) rfl rfl rfl hd_X0_reachSource ⟨(Nat.le_of_ble_eq_true rfl), (Nat.le_of_ble_eq_true rfl)⟩) (wg_4 G _) rfl rfl hl.1 rfl (Nat.le_of_ble_eq_true rfl) dX0_findOpen_6 ⟨Nat.zero_le _, Nat.zero_le _⟩ (fun r4 σ3 H locs hw hk => ?_)
  refine lv_pop hx hb dX0_findOpen_9 rfl ?_
  exact k_vret X hk hw dX0_findOpen_10
def rm_X0_isOpen : Room := { frames := 0, cells := 0, slots := 0, locals := 0 }
abbrev wz_X0_isOpen : List Cond := Cond.code yX0_isOpen cX0_isOpen 3 (some .boolean) :: wsA
theorem hd_X0_isOpen : yX0_isOpen.cls = RX0 ∧ yX0_isOpen.cls ≠ "java/lang/invoke/MethodHandle" ∧ yX0_isOpen.cls ≠ "java/lang/invoke/VarHandle" ∧ (parseMethodDescriptor yX0_isOpen.desc).map (fun d => d.parameters.length) = some 2 := by decide +kernel
def wp_X0_isOpen (σ : Sg) (p1 p2 : Int32) (Q : Int32 → Sg → Prop) : Prop := vp_in ((p2 * (8 : Int32)) + p1) 346 ∧ (((σ 23 (((p2 * (8 : Int32)) + p1)).toNatClampNeg) = (-1 : Int32) → (bz (0 : Int32) ∧ Q (0 : Int32) σ)) ∧ (¬ ((σ 23 (((p2 * (8 : Int32)) + p1)).toNatClampNeg) = (-1 : Int32)) → (bz (1 : Int32) ∧ Q (1 : Int32) σ)))
set_option maxHeartbeats 4000000 in
set_option maxRecDepth 100000 in
theorem c_X0_isOpen (l : Launch) (G : Gw) (σ : Sg) (p1 p2 : Int32) (Q : Int32 → Sg → Prop) (hw : wp_X0_isOpen σ p1 p2 Q) : MetI l yX0_isOpen wz_X0_isOpen rm_X0_isOpen G σ [.ref (G.1 4), .int p1, .int p2] Q := by
  refine MetI.of cX0_isOpen 3 (some .boolean) (by decide) rfl (Nat.le_of_ble_eq_true rfl) ?_
  intro p e s m below meth c X hk ls hl
  have X : KC p m meth c cX0_isOpen 3 s _ wz_X0_isOpen RX0 (some .boolean) G := X
  have hl : lv_has ls 3 [(0, .ref (G.1 4)), (1, .int p1), (2, .int p2)] := hl
  unfold wp_X0_isOpen at hw
  have hx := X.1.1
  have hb := X.1.2.1
  refine lv_aload_n hx hb dX0_isOpen_0 rfl (lv_at hl 0 rfl) ?_
  refine k_get 9 X hk (wg_4 G _) rfl (hz_wsX00 _) (Nat.le_of_ble_eq_true rfl) (List.mem_cons_of_mem _ (aw_r3 _ (List.mem_of_getElem? (i := 22) rfl))) rfl dX0_isOpen_1 ?_
  refine lv_iload_n hx hb dX0_isOpen_4 rfl (lv_at hl 2 rfl) ?_
  refine lv_bipush (v := (8 : Int32)) hx hb dX0_isOpen_5 (by decide) ?_
  refine lv_imul hx hb dX0_isOpen_7 ?_
  refine lv_iload_n hx hb dX0_isOpen_8 rfl (lv_at hl 1 rfl) ?_
  refine lv_iadd hx hb dX0_isOpen_9 ?_
  refine k_iald X hk (wg_23 G _) hw.1 dX0_isOpen_10 ?_
  replace hw := hw.2
  refine lv_iconst (v := (-1 : Int32)) hx hb dX0_isOpen_11 (by decide) ?_
  refine lv_icmp_eq (tgt := 19) hx hb dX0_isOpen_12 (by decide) (fun c1 => ?_) (fun c1 => ?_)
  · replace hw := hw.1 c1
    refine lv_iconst (v := (0 : Int32)) hx hb dX0_isOpen_19 (by decide) ?_
    exact k_zret X hk hw dX0_isOpen_20
  · replace hw := hw.2 c1
    refine lv_iconst (v := (1 : Int32)) hx hb dX0_isOpen_15 (by decide) ?_
    refine lv_goto (tgt := 20) hx hb dX0_isOpen_16 (by decide) ?_
    exact k_zret X hk hw dX0_isOpen_20
def rm_X0_countCrossing : Room := { frames := 1, cells := 0, slots := 0, locals := 22 }
abbrev wz_X0_countCrossing : List Cond := Cond.code yX0_countCrossing cX0_countCrossing 6 (some .int) :: wsA
theorem hd_X0_countCrossing : yX0_countCrossing.cls = RX0 ∧ yX0_countCrossing.cls ≠ "java/lang/invoke/MethodHandle" ∧ yX0_countCrossing.cls ≠ "java/lang/invoke/VarHandle" ∧ (parseMethodDescriptor yX0_countCrossing.desc).map (fun d => d.parameters.length) = some 2 := by decide +kernel
def wp_X0_countCrossing_71 (Q : Int32 → Sg → Prop) (K18 : Int32 → Int32 → Int32 → Int32 → Int32 → Sg → Prop) (x1 x2 x3 x4 x5 : Int32) (σ : Sg) : Prop := ∀ x5_6 : Int32, x5_6 = (x5 + (1 : Int32)) → (K18 x1 x2 x3 x4 x5_6 σ)
set_option maxHeartbeats 4000000 in
set_option maxRecDepth 100000 in
theorem t_X0_countCrossing_71 {p : Program} {l : Launch} {e : Env} {s : State} {m : MethodId} {args : Array Value} {below : List Frame} {meth : Method} {c : Code} {G : Gw} (X : KC p m meth c cX0_countCrossing 6 s args wz_X0_countCrossing RX0 (some .int) G) (Q : Int32 → Sg → Prop) (K18 : Int32 → Int32 → Int32 → Int32 → Int32 → Sg → Prop) (hK18 : ∀ (σ : Sg) (x1 x2 x3 x4 x5 : Int32) (H : Heap) (locs : List Loc) (ls : Array Slot), K18 x1 x2 x3 x4 x5 σ → WK G s H locs σ → lv_has ls 6 [(0, .ref (G.1 4)), (1, .int x1), (2, .int x2), (3, .int x3), (4, .int x4), (5, .int x5)] → W p l e rm_X0_countCrossing s m args below meth c H locs 0 0 (ZI below args s G Q) (F0 m 18 ls [])) : ∀ (σ : Sg) (x1 x2 x3 x4 x5 : Int32) (H : Heap) (locs : List Loc) (ls : Array Slot), wp_X0_countCrossing_71 Q K18 x1 x2 x3 x4 x5 σ → WK G s H locs σ → lv_has ls 6 [(0, .ref (G.1 4)), (1, .int x1), (2, .int x2), (3, .int x3), (4, .int x4), (5, .int x5)] → W p l e rm_X0_countCrossing s m args below meth c H locs 0 0 (ZI below args s G Q) (F0 m 71 ls []) := by
  have hx := X.1.1
  have hb := X.1.2.1
  intro σ x1 x2 x3 x4 x5 H locs ls hw hk hl
  unfold wp_X0_countCrossing_71 at hw
  obtain ⟨x5_6, ex5_6⟩ : ∃ y : Int32, y = (x5 + (1 : Int32)) := ⟨_, rfl⟩
  replace hw := hw x5_6 ex5_6
  refine lv_iinc (v := x5_6) (lv' := [(5, .int x5_6), (0, .ref (G.1 4)), (1, .int x1), (2, .int x2), (3, .int x3), (4, .int x4)]) hx hb dX0_countCrossing_71 hl (k := 5) rfl (by rw [ex5_6]; rfl) (Nat.le_of_ble_eq_true rfl) rfl (fun ls hl => ?_)
  refine lv_goto (tgt := 18) hx hb dX0_countCrossing_74 (by decide) ?_
  exact hK18 _ _ _ _ _ _ _ _ _ hw hk (lv_sub hl [1, 2, 3, 4, 5, 0] rfl)
def wp_X0_countCrossing_18 (Q : Int32 → Sg → Prop)  : Nat → Int32 → Int32 → Int32 → Int32 → Int32 → Sg → Prop
  | 0, _, _, _, _, _, _ => False
  | n + 1, x1, x2, x3, x4, x5, σ => (x2 < (x5 + x4) → (Q x3 σ)) ∧ (¬ (x2 < (x5 + x4)) → (vp_in x1 24 ∧ (wp_X0_isOpen σ (σ 7 (x1).toNatClampNeg) x5 (fun r4 σ3 => (r4 = 0 → (vp_in (x1 ^^^ (1 : Int32)) 24 ∧ (wp_X0_isOpen σ3 (σ3 7 ((x1 ^^^ (1 : Int32))).toNatClampNeg) (x5 + x4) (fun r8 σ7 => (r8 = 0 → (wp_X0_countCrossing_71 Q (fun z1 z2 z3 z4 z5 σ => wp_X0_countCrossing_18 Q  n z1 z2 z3 z4 z5 σ) x1 x2 x3 x4 x5 σ7)) ∧ (¬ (r8 = 0) → (∀ x3_10 : Int32, x3_10 = (x3 + (1 : Int32)) → (wp_X0_countCrossing_71 Q (fun z1 z2 z3 z4 z5 σ => wp_X0_countCrossing_18 Q  n z1 z2 z3 z4 z5 σ) x1 x2 x3_10 x4 x5 σ7))))))) ∧ (¬ (r4 = 0) → (wp_X0_countCrossing_71 Q (fun z1 z2 z3 z4 z5 σ => wp_X0_countCrossing_18 Q  n z1 z2 z3 z4 z5 σ) x1 x2 x3 x4 x5 σ3))))))
set_option maxHeartbeats 4000000 in
set_option maxRecDepth 100000 in
theorem t_X0_countCrossing_18 {p : Program} {l : Launch} {e : Env} {s : State} {m : MethodId} {args : Array Value} {below : List Frame} {meth : Method} {c : Code} {G : Gw} (X : KC p m meth c cX0_countCrossing 6 s args wz_X0_countCrossing RX0 (some .int) G) (Q : Int32 → Sg → Prop)  : ∀ (n : Nat) (σ : Sg) (x1 x2 x3 x4 x5 : Int32) (H : Heap) (locs : List Loc) (ls : Array Slot), wp_X0_countCrossing_18 Q  n x1 x2 x3 x4 x5 σ → WK G s H locs σ → lv_has ls 6 [(0, .ref (G.1 4)), (1, .int x1), (2, .int x2), (3, .int x3), (4, .int x4), (5, .int x5)] → W p l e rm_X0_countCrossing s m args below meth c H locs 0 0 (ZI below args s G Q) (F0 m 18 ls []) := by
  have hx := X.1.1
  have hb := X.1.2.1
  intro n
  induction n with
  | zero =>
    intro σ x1 x2 x3 x4 x5 H locs ls hw hk hl
    exact False.elim hw
  | succ n ih =>
    intro σ x1 x2 x3 x4 x5 H locs ls hw hk hl
    rw [wp_X0_countCrossing_18] at hw
    refine lv_iload hx hb dX0_countCrossing_18 (lv_at hl 5 rfl) ?_
    refine lv_iload hx hb dX0_countCrossing_20 (lv_at hl 4 rfl) ?_
    refine lv_iadd hx hb dX0_countCrossing_22 ?_
    refine lv_iload_n hx hb dX0_countCrossing_23 rfl (lv_at hl 2 rfl) ?_
    refine lv_icmp_gt (tgt := 77) hx hb dX0_countCrossing_24 (by decide) (fun c2 => ?_) (fun c2 => ?_)
    · replace hw := hw.1 c2
      refine lv_iload_n hx hb dX0_countCrossing_77 rfl (lv_at hl 3 rfl) ?_
      exact k_iret X hk hw dX0_countCrossing_78
    · replace hw := hw.2 c2
      refine lv_aload_n hx hb dX0_countCrossing_27 rfl (lv_at hl 0 rfl) ?_
      refine lv_aload_n hx hb dX0_countCrossing_28 rfl (lv_at hl 0 rfl) ?_
      refine k_get 0 X hk (wg_4 G _) rfl (hz_wsX00 _) (Nat.le_of_ble_eq_true rfl) (List.mem_cons_of_mem _ (aw_r4 _ (List.mem_of_getElem? (i := 3) rfl))) rfl dX0_countCrossing_29 ?_
      refine k_get 3 X hk (wg_1 G _) rfl (hz_wsX30 _) (Nat.le_of_ble_eq_true rfl) (List.mem_cons_of_mem _ (aw_r27 _ (List.mem_of_getElem? (i := 11) rfl))) rfl dX0_countCrossing_32 ?_
      refine lv_iload_n hx hb dX0_countCrossing_35 rfl (lv_at hl 1 rfl) ?_
      refine k_iald X hk (wg_7 G _) hw.1 dX0_countCrossing_36 ?_
      replace hw := hw.2
      refine lv_iload hx hb dX0_countCrossing_37 (lv_at hl 5 rfl) ?_
      refine k_callVi (rest := []) X hk (c_X0_isOpen l G _ _ _ _ hw) (cwV 2 X.1.2.2.2.2 (gzV (aw_r35 _ (List.mem_of_getElem? (i := 16) rfl)) (aw_r32 _ (List.mem_of_getElem? (i := 2) rfl)) (aw_r32 _ (List.mem_of_getElem? (i := 3) rfl)) (aw_r2 _ (List.mem_of_getElem? (i := 3) rfl)) (aw_r32 _ (List.mem_of_getElem? (i := 4) rfl))) rfl rfl rfl hd_X0_isOpen ⟨(Nat.le_of_ble_eq_true rfl), (Nat.le_of_ble_eq_true rfl)⟩) (wg_4 G _) rfl rfl hl.1 rfl (Nat.le_of_ble_eq_true rfl) dX0_countCrossing_39 ⟨Nat.zero_le _, Nat.zero_le _⟩ (fun r4 σ3 H locs hw hk => ?_)
      refine lv_if_ne (tgt := 71) hx hb dX0_countCrossing_42 (by decide) (fun c5 => ?_) (fun c5 => ?_)
      · replace hw := hw.2 c5
        exact t_X0_countCrossing_71 X Q _ ih _ _ _ _ _ _ _ _ _ hw hk hl
      · replace hw := hw.1 c5
        refine lv_aload_n hx hb dX0_countCrossing_45 rfl (lv_at hl 0 rfl) ?_
        refine lv_aload_n hx hb dX0_countCrossing_46 rfl (lv_at hl 0 rfl) ?_
        refine k_get 0 X hk (wg_4 G _) rfl (hz_wsX00 _) (Nat.le_of_ble_eq_true rfl) (List.mem_cons_of_mem _ (aw_r4 _ (List.mem_of_getElem? (i := 3) rfl))) rfl dX0_countCrossing_47 ?_
        refine k_get 3 X hk (wg_1 G _) rfl (hz_wsX30 _) (Nat.le_of_ble_eq_true rfl) (List.mem_cons_of_mem _ (aw_r27 _ (List.mem_of_getElem? (i := 11) rfl))) rfl dX0_countCrossing_50 ?_
        refine lv_iload_n hx hb dX0_countCrossing_53 rfl (lv_at hl 1 rfl) ?_
        refine lv_iconst (v := (1 : Int32)) hx hb dX0_countCrossing_54 (by decide) ?_
        refine lv_ixor hx hb dX0_countCrossing_55 ?_
        refine k_iald X hk (wg_7 G _) hw.1 dX0_countCrossing_56 ?_
        replace hw := hw.2
        refine lv_iload hx hb dX0_countCrossing_57 (lv_at hl 5 rfl) ?_
        refine lv_iload hx hb dX0_countCrossing_59 (lv_at hl 4 rfl) ?_
        refine lv_iadd hx hb dX0_countCrossing_61 ?_
        refine k_callVi (rest := []) X hk (c_X0_isOpen l G _ _ _ _ hw) (cwV 2 X.1.2.2.2.2 (gzV (aw_r35 _ (List.mem_of_getElem? (i := 16) rfl)) (aw_r32 _ (List.mem_of_getElem? (i := 2) rfl)) (aw_r32 _ (List.mem_of_getElem? (i := 3) rfl)) (aw_r2 _ (List.mem_of_getElem? (i := 3) rfl)) (aw_r32 _ (List.mem_of_getElem? (i := 4) rfl))) rfl rfl rfl hd_X0_isOpen ⟨(Nat.le_of_ble_eq_true rfl), (Nat.le_of_ble_eq_true rfl)⟩) (wg_4 G _) rfl rfl hl.1 rfl (Nat.le_of_ble_eq_true rfl) dX0_countCrossing_62 ⟨Nat.zero_le _, Nat.zero_le _⟩ (fun r8 σ7 H locs hw hk => ?_)
        refine lv_if_eq (tgt := 71) hx hb dX0_countCrossing_65 (by decide) (fun c9 => ?_) (fun c9 => ?_)
        · replace hw := hw.1 c9
          exact t_X0_countCrossing_71 X Q _ ih _ _ _ _ _ _ _ _ _ hw hk hl
        · replace hw := hw.2 c9
          obtain ⟨x3_10, ex3_10⟩ : ∃ y : Int32, y = (x3 + (1 : Int32)) := ⟨_, rfl⟩
          replace hw := hw x3_10 ex3_10
          refine lv_iinc (v := x3_10) (lv' := [(3, .int x3_10), (0, .ref (G.1 4)), (1, .int x1), (2, .int x2), (4, .int x4), (5, .int x5)]) hx hb dX0_countCrossing_68 hl (k := 3) rfl (by rw [ex3_10]; rfl) (Nat.le_of_ble_eq_true rfl) rfl (fun ls hl => ?_)
          exact t_X0_countCrossing_71 X Q _ ih _ _ _ _ _ _ _ _ _ hw hk (lv_sub hl [1, 2, 3, 0, 4, 5] rfl)
def wp_X0_countCrossing (σ : Sg) (p1 p2 : Int32) (Q : Int32 → Sg → Prop) : Prop := vp_in (p1 / (2 : Int32)) 12 ∧ (∀ x4_1 : Int32, x4_1 = (σ 6 ((p1 / (2 : Int32))).toNatClampNeg) → (∃ n0, wp_X0_countCrossing_18 Q  n0 p1 p2 (0 : Int32) x4_1 (0 : Int32) σ))
set_option maxHeartbeats 4000000 in
set_option maxRecDepth 100000 in
theorem c_X0_countCrossing (l : Launch) (G : Gw) (σ : Sg) (p1 p2 : Int32) (Q : Int32 → Sg → Prop) (hw : wp_X0_countCrossing σ p1 p2 Q) : MetI l yX0_countCrossing wz_X0_countCrossing rm_X0_countCrossing G σ [.ref (G.1 4), .int p1, .int p2] Q := by
  refine MetI.of cX0_countCrossing 6 (some .int) (by decide) rfl (Nat.le_of_ble_eq_true rfl) ?_
  intro p e s m below meth c X hk ls hl
  have X : KC p m meth c cX0_countCrossing 6 s _ wz_X0_countCrossing RX0 (some .int) G := X
  have hl : lv_has ls 6 [(0, .ref (G.1 4)), (1, .int p1), (2, .int p2)] := hl
  unfold wp_X0_countCrossing at hw
  have hx := X.1.1
  have hb := X.1.2.1
  refine lv_iconst (v := (0 : Int32)) hx hb dX0_countCrossing_0 (by decide) ?_
  refine lv_istore_n (lv' := [(3, .int (0 : Int32)), (0, .ref (G.1 4)), (1, .int p1), (2, .int p2)]) hx hb dX0_countCrossing_1 rfl hl (Nat.le_of_ble_eq_true rfl) rfl (fun ls hl => ?_)
  refine lv_aload_n hx hb dX0_countCrossing_2 rfl (lv_at hl 1 rfl) ?_
  refine k_get 0 X hk (wg_4 G _) rfl (hz_wsX00 _) (Nat.le_of_ble_eq_true rfl) (List.mem_cons_of_mem _ (aw_r4 _ (List.mem_of_getElem? (i := 3) rfl))) rfl dX0_countCrossing_3 ?_
  refine k_get 2 X hk (wg_1 G _) rfl (hz_wsX30 _) (Nat.le_of_ble_eq_true rfl) (List.mem_cons_of_mem _ (aw_r27 _ (List.mem_of_getElem? (i := 10) rfl))) rfl dX0_countCrossing_6 ?_
  refine lv_iload_n hx hb dX0_countCrossing_9 rfl (lv_at hl 2 rfl) ?_
  refine lv_iconst (v := (2 : Int32)) hx hb dX0_countCrossing_10 (by decide) ?_
  refine lv_idiv hx hb dX0_countCrossing_11 (by decide) ?_
  refine k_iald X hk (wg_6 G _) hw.1 dX0_countCrossing_12 ?_
  replace hw := hw.2
  refine lv_topi (fun x4_1 ex4_1 => ?_)
  replace hw := hw x4_1 ex4_1
  refine lv_istore (lv' := [(4, .int x4_1), (3, .int (0 : Int32)), (0, .ref (G.1 4)), (1, .int p1), (2, .int p2)]) hx hb dX0_countCrossing_13 hl (Nat.le_of_ble_eq_true rfl) rfl (fun ls hl => ?_)
  refine lv_iconst (v := (0 : Int32)) hx hb dX0_countCrossing_15 (by decide) ?_
  refine lv_istore (lv' := [(5, .int (0 : Int32)), (4, .int x4_1), (3, .int (0 : Int32)), (0, .ref (G.1 4)), (1, .int p1), (2, .int p2)]) hx hb dX0_countCrossing_16 hl (Nat.le_of_ble_eq_true rfl) rfl (fun ls hl => ?_)
  obtain ⟨n0, hw⟩ := hw
  exact t_X0_countCrossing_18 X Q   n0 _ _ _ _ _ _ _ _ _ hw hk (lv_sub hl [3, 4, 5, 2, 1, 0] rfl)
def rm_X0_squeeze : Room := { frames := 4, cells := 0, slots := 0, locals := 92 }
abbrev wz_X0_squeeze : List Cond := Cond.code yX0_squeeze cX0_squeeze 3 (some .int) :: wsA
theorem hd_X0_squeeze : yX0_squeeze.cls = RX0 ∧ yX0_squeeze.cls ≠ "java/lang/invoke/MethodHandle" ∧ yX0_squeeze.cls ≠ "java/lang/invoke/VarHandle" ∧ (parseMethodDescriptor yX0_squeeze.desc).map (fun d => d.parameters.length) = some 1 := by decide +kernel
def wp_X0_squeeze_7 (Q : Int32 → Sg → Prop)  : Nat → Int32 → Int32 → Sg → Prop
  | 0, _, _, _ => False
  | n + 1, x1, x2, σ => (((2 : Int32) * (σ 1 1)) ≤ x2 → (Q ((σ 4 3) - (σ 4 4)) σ)) ∧ (¬ (((2 : Int32) * (σ 1 1)) ≤ x2) → (wp_X0_countCrossing σ x2 x1 (fun r5 σ4 => vp_in x2 24 ∧ (∀ σ6 : Sg, σ6 = (put σ4 26 (x2).toNatClampNeg r5) → (∀ x2_7 : Int32, x2_7 = (x2 + (1 : Int32)) → (wp_X0_squeeze_7 Q  n x1 x2_7 σ6))))))
set_option maxHeartbeats 4000000 in
set_option maxRecDepth 100000 in
theorem t_X0_squeeze_7 {p : Program} {l : Launch} {e : Env} {s : State} {m : MethodId} {args : Array Value} {below : List Frame} {meth : Method} {c : Code} {G : Gw} (X : KC p m meth c cX0_squeeze 3 s args wz_X0_squeeze RX0 (some .int) G) (Q : Int32 → Sg → Prop)  : ∀ (n : Nat) (σ : Sg) (x1 x2 : Int32) (H : Heap) (locs : List Loc) (ls : Array Slot), wp_X0_squeeze_7 Q  n x1 x2 σ → WK G s H locs σ → lv_has ls 3 [(0, .ref (G.1 4)), (1, .int x1), (2, .int x2)] → W p l e rm_X0_squeeze s m args below meth c H locs 0 0 (ZI below args s G Q) (F0 m 7 ls []) := by
  have hx := X.1.1
  have hb := X.1.2.1
  intro n
  induction n with
  | zero =>
    intro σ x1 x2 H locs ls hw hk hl
    exact False.elim hw
  | succ n ih =>
    intro σ x1 x2 H locs ls hw hk hl
    rw [wp_X0_squeeze_7] at hw
    refine lv_iload_n hx hb dX0_squeeze_7 rfl (lv_at hl 2 rfl) ?_
    refine lv_iconst (v := (2 : Int32)) hx hb dX0_squeeze_8 (by decide) ?_
    refine lv_aload_n hx hb dX0_squeeze_9 rfl (lv_at hl 0 rfl) ?_
    refine k_get 0 X hk (wg_4 G _) rfl (hz_wsX00 _) (Nat.le_of_ble_eq_true rfl) (List.mem_cons_of_mem _ (aw_r4 _ (List.mem_of_getElem? (i := 3) rfl))) rfl dX0_squeeze_10 ?_
    refine k_get 1 X hk (wg_1 G _) rfl (hz_wsX30 _) (Nat.le_of_ble_eq_true rfl) (List.mem_cons_of_mem _ (aw_r27 _ (List.mem_of_getElem? (i := 9) rfl))) rfl dX0_squeeze_13 ?_
    refine lv_imul hx hb dX0_squeeze_16 ?_
    refine lv_icmp_ge (tgt := 38) hx hb dX0_squeeze_17 (by decide) (fun c3 => ?_) (fun c3 => ?_)
    · replace hw := hw.1 c3
      refine lv_aload_n hx hb dX0_squeeze_38 rfl (lv_at hl 0 rfl) ?_
      refine k_get 3 X hk (wg_4 G _) rfl (hz_wsX00 _) (Nat.le_of_ble_eq_true rfl) (List.mem_cons_of_mem _ (aw_r26 _ (List.mem_of_getElem? (i := 13) rfl))) rfl dX0_squeeze_39 ?_
      refine lv_aload_n hx hb dX0_squeeze_42 rfl (lv_at hl 0 rfl) ?_
      refine k_get 4 X hk (wg_4 G _) rfl (hz_wsX00 _) (Nat.le_of_ble_eq_true rfl) (List.mem_cons_of_mem _ (aw_r26 _ (List.mem_of_getElem? (i := 2) rfl))) rfl dX0_squeeze_43 ?_
      refine lv_isub hx hb dX0_squeeze_46 ?_
      exact k_iret X hk hw dX0_squeeze_47
    · replace hw := hw.2 c3
      refine lv_aload_n hx hb dX0_squeeze_20 rfl (lv_at hl 0 rfl) ?_
      refine k_get 12 X hk (wg_4 G _) rfl (hz_wsX00 _) (Nat.le_of_ble_eq_true rfl) (List.mem_cons_of_mem _ (aw_r4 _ (List.mem_of_getElem? (i := 1) rfl))) rfl dX0_squeeze_21 ?_
      refine lv_iload_n hx hb dX0_squeeze_24 rfl (lv_at hl 2 rfl) ?_
      refine lv_aload_n hx hb dX0_squeeze_25 rfl (lv_at hl 0 rfl) ?_
      refine lv_iload_n hx hb dX0_squeeze_26 rfl (lv_at hl 2 rfl) ?_
      refine lv_iload_n hx hb dX0_squeeze_27 rfl (lv_at hl 1 rfl) ?_
      refine k_callVi (rest := [.int x2, .ref (G.1 26)]) X hk (c_X0_countCrossing l G _ _ _ _ hw) (cwV 2 X.1.2.2.2.2 (gzV (aw_r35 _ (List.mem_of_getElem? (i := 12) rfl)) (aw_r35 _ (List.mem_of_getElem? (i := 13) rfl)) (aw_r35 _ (List.mem_of_getElem? (i := 14) rfl)) (aw_r2 _ (List.mem_of_getElem? (i := 3) rfl)) (aw_r35 _ (List.mem_of_getElem? (i := 15) rfl))) rfl rfl rfl hd_X0_countCrossing ⟨(Nat.le_of_ble_eq_true rfl), (Nat.le_of_ble_eq_true rfl)⟩) (wg_4 G _) rfl rfl hl.1 rfl (Nat.le_of_ble_eq_true rfl) dX0_squeeze_28 ⟨Nat.zero_le _, Nat.zero_le _⟩ (fun r5 σ4 H locs hw hk => ?_)
      refine k_iast X hk (wg_26 G _) (ws_26 G _) rfl hw.1 dX0_squeeze_31 (fun H locs hk => ?_)
      replace hw := hw.2
      obtain ⟨σ6, eσ6⟩ : ∃ y : Sg, y = (put σ4 26 (x2).toNatClampNeg r5) := ⟨_, rfl⟩
      rw [← eσ6] at hk
      replace hw := hw σ6 eσ6
      obtain ⟨x2_7, ex2_7⟩ : ∃ y : Int32, y = (x2 + (1 : Int32)) := ⟨_, rfl⟩
      replace hw := hw x2_7 ex2_7
      refine lv_iinc (v := x2_7) (lv' := [(2, .int x2_7), (0, .ref (G.1 4)), (1, .int x1)]) hx hb dX0_squeeze_32 hl (k := 2) rfl (by rw [ex2_7]; rfl) (Nat.le_of_ble_eq_true rfl) rfl (fun ls hl => ?_)
      refine lv_goto (tgt := 7) hx hb dX0_squeeze_35 (by decide) ?_
      exact ih _ _ _ _ _ _ hw hk (lv_sub hl [1, 2, 0] rfl)
def wp_X0_squeeze (σ : Sg) (p1 : Int32) (Q : Int32 → Sg → Prop) : Prop := wp_X0_fillUpTo σ p1 (fun σ1 => ∃ n0, wp_X0_squeeze_7 Q  n0 p1 (0 : Int32) σ1)
set_option maxHeartbeats 4000000 in
set_option maxRecDepth 100000 in
theorem c_X0_squeeze (l : Launch) (G : Gw) (σ : Sg) (p1 : Int32) (Q : Int32 → Sg → Prop) (hw : wp_X0_squeeze σ p1 Q) : MetI l yX0_squeeze wz_X0_squeeze rm_X0_squeeze G σ [.ref (G.1 4), .int p1] Q := by
  refine MetI.of cX0_squeeze 3 (some .int) (by decide) rfl (Nat.le_of_ble_eq_true rfl) ?_
  intro p e s m below meth c X hk ls hl
  have X : KC p m meth c cX0_squeeze 3 s _ wz_X0_squeeze RX0 (some .int) G := X
  have hl : lv_has ls 3 [(0, .ref (G.1 4)), (1, .int p1)] := hl
  unfold wp_X0_squeeze at hw
  have hx := X.1.1
  have hb := X.1.2.1
  refine lv_aload_n hx hb dX0_squeeze_0 rfl (lv_at hl 0 rfl) ?_
  refine lv_iload_n hx hb dX0_squeeze_1 rfl (lv_at hl 1 rfl) ?_
  refine k_callVv (rest := []) X hk (c_X0_fillUpTo l G _ _ _ hw) (cwV 1 X.1.2.2.2.2 (gzV (aw_r26 _ (List.mem_of_getElem? (i := 3) rfl)) (aw_r26 _ (List.mem_of_getElem? (i := 4) rfl)) (aw_r26 _ (List.mem_of_getElem? (i := 5) rfl)) (aw_r2 _ (List.mem_of_getElem? (i := 3) rfl)) (aw_r26 _ (List.mem_of_getElem? (i := 6) rfl))) rfl rfl rfl hd_X0_fillUpTo ⟨(Nat.le_of_ble_eq_true rfl), (Nat.le_of_ble_eq_true rfl)⟩) (wg_4 G _) rfl rfl hl.1 rfl (Nat.le_of_ble_eq_true rfl) dX0_squeeze_2 ⟨Nat.zero_le _, Nat.zero_le _⟩ (fun σ1 H locs hw hk => ?_)
  refine lv_iconst (v := (0 : Int32)) hx hb dX0_squeeze_5 (by decide) ?_
  refine lv_istore_n (lv' := [(2, .int (0 : Int32)), (0, .ref (G.1 4)), (1, .int p1)]) hx hb dX0_squeeze_6 rfl hl (Nat.le_of_ble_eq_true rfl) rfl (fun ls hl => ?_)
  obtain ⟨n0, hw⟩ := hw
  exact t_X0_squeeze_7 X Q   n0 _ _ _ _ _ _ hw hk (lv_sub hl [1, 2, 0] rfl)
def rm_X0_crossingMore : Room := { frames := 0, cells := 0, slots := 0, locals := 0 }
abbrev wz_X0_crossingMore : List Cond := Cond.code yX0_crossingMore cX0_crossingMore 3 (some .int) :: wsA
theorem hd_X0_crossingMore : yX0_crossingMore.cls = RX0 ∧ yX0_crossingMore.cls ≠ "java/lang/invoke/MethodHandle" ∧ yX0_crossingMore.cls ≠ "java/lang/invoke/VarHandle" ∧ (parseMethodDescriptor yX0_crossingMore.desc).map (fun d => d.parameters.length) = some 2 := by decide +kernel
def wp_X0_crossingMore (σ : Sg) (p1 p2 : Int32) (Q : Int32 → Sg → Prop) : Prop := vp_in ((2 : Int32) * p1) 24 ∧ (vp_in (((2 : Int32) * p1) + (1 : Int32)) 24 ∧ (Q (p2 * ((σ 26 (((2 : Int32) * p1)).toNatClampNeg) - (σ 26 ((((2 : Int32) * p1) + (1 : Int32))).toNatClampNeg))) σ))
set_option maxHeartbeats 4000000 in
set_option maxRecDepth 100000 in
theorem c_X0_crossingMore (l : Launch) (G : Gw) (σ : Sg) (p1 p2 : Int32) (Q : Int32 → Sg → Prop) (hw : wp_X0_crossingMore σ p1 p2 Q) : MetI l yX0_crossingMore wz_X0_crossingMore rm_X0_crossingMore G σ [.ref (G.1 4), .int p1, .int p2] Q := by
  refine MetI.of cX0_crossingMore 3 (some .int) (by decide) rfl (Nat.le_of_ble_eq_true rfl) ?_
  intro p e s m below meth c X hk ls hl
  have X : KC p m meth c cX0_crossingMore 3 s _ wz_X0_crossingMore RX0 (some .int) G := X
  have hl : lv_has ls 3 [(0, .ref (G.1 4)), (1, .int p1), (2, .int p2)] := hl
  unfold wp_X0_crossingMore at hw
  have hx := X.1.1
  have hb := X.1.2.1
  refine lv_iload_n hx hb dX0_crossingMore_0 rfl (lv_at hl 2 rfl) ?_
  refine lv_aload_n hx hb dX0_crossingMore_1 rfl (lv_at hl 0 rfl) ?_
  refine k_get 12 X hk (wg_4 G _) rfl (hz_wsX00 _) (Nat.le_of_ble_eq_true rfl) (List.mem_cons_of_mem _ (aw_r4 _ (List.mem_of_getElem? (i := 1) rfl))) rfl dX0_crossingMore_2 ?_
  refine lv_iconst (v := (2 : Int32)) hx hb dX0_crossingMore_5 (by decide) ?_
  refine lv_iload_n hx hb dX0_crossingMore_6 rfl (lv_at hl 1 rfl) ?_
  refine lv_imul hx hb dX0_crossingMore_7 ?_
  refine k_iald X hk (wg_26 G _) hw.1 dX0_crossingMore_8 ?_
  replace hw := hw.2
  refine lv_aload_n hx hb dX0_crossingMore_9 rfl (lv_at hl 0 rfl) ?_
  refine k_get 12 X hk (wg_4 G _) rfl (hz_wsX00 _) (Nat.le_of_ble_eq_true rfl) (List.mem_cons_of_mem _ (aw_r4 _ (List.mem_of_getElem? (i := 1) rfl))) rfl dX0_crossingMore_10 ?_
  refine lv_iconst (v := (2 : Int32)) hx hb dX0_crossingMore_13 (by decide) ?_
  refine lv_iload_n hx hb dX0_crossingMore_14 rfl (lv_at hl 1 rfl) ?_
  refine lv_imul hx hb dX0_crossingMore_15 ?_
  refine lv_iconst (v := (1 : Int32)) hx hb dX0_crossingMore_16 (by decide) ?_
  refine lv_iadd hx hb dX0_crossingMore_17 ?_
  refine k_iald X hk (wg_26 G _) hw.1 dX0_crossingMore_18 ?_
  replace hw := hw.2
  refine lv_isub hx hb dX0_crossingMore_19 ?_
  refine lv_imul hx hb dX0_crossingMore_20 ?_
  exact k_iret X hk hw dX0_crossingMore_21
