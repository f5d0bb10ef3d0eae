def rm_X5_best : Room := { frames := 5, cells := 0, slots := 0, locals := 116 }
abbrev wz_X5_best : List Cond := Cond.code yX5_best cX5_best 7 (some .int) :: wsA
theorem hd_X5_best : yX5_best.cls = RX5 ∧ yX5_best.cls ≠ "java/lang/invoke/MethodHandle" ∧ yX5_best.cls ≠ "java/lang/invoke/VarHandle" ∧ (parseMethodDescriptor yX5_best.desc).map (fun d => d.parameters.length) = some 1 := by decide +kernel
def wp_X5_best_133 (Q : Int32 → Sg → Prop) (K33 : Int32 → Int32 → Int32 → Int32 → Sg → Prop) (x1 x2 x3 x4 : Int32) (σ : Sg) : Prop := ∀ x4_16 : Int32, x4_16 = (x4 + (1 : Int32)) → (K33 x1 x2 x3 x4_16 σ)
set_option maxHeartbeats 4000000 in
set_option maxRecDepth 100000 in
theorem t_X5_best_133 {p : Program} {l : Launch} {e : Env} {s : State} {m : MethodId} {args : Array Value} {below : List Frame} {meth : Method} {c : Code} {G : Gw} (X : KC p m meth c cX5_best 7 s args wz_X5_best RX5 (some .int) G) (Q : Int32 → Sg → Prop) (K33 : Int32 → Int32 → Int32 → Int32 → Sg → Prop) (hK33 : ∀ (σ : Sg) (x1 x2 x3 x4 : Int32) (H : Heap) (locs : List Loc) (ls : Array Slot), K33 x1 x2 x3 x4 σ → WK G s H locs σ → lv_has ls 7 [(0, .ref (G.1 0)), (1, .int x1), (2, .int x2), (3, .int x3), (4, .int x4)] → W p l e rm_X5_best s m args below meth c H locs 0 0 (ZI below args s G Q) (F0 m 33 ls [])) : ∀ (σ : Sg) (x1 x2 x3 x4 : Int32) (H : Heap) (locs : List Loc) (ls : Array Slot), wp_X5_best_133 Q K33 x1 x2 x3 x4 σ → WK G s H locs σ → lv_has ls 7 [(0, .ref (G.1 0)), (1, .int x1), (2, .int x2), (3, .int x3), (4, .int x4)] → W p l e rm_X5_best s m args below meth c H locs 0 0 (ZI below args s G Q) (F0 m 133 ls []) := by
  have hx := X.1.1
  have hb := X.1.2.1
  intro σ x1 x2 x3 x4 H locs ls hw hk hl
  unfold wp_X5_best_133 at hw
  obtain ⟨x4_16, ex4_16⟩ : ∃ y : Int32, y = (x4 + (1 : Int32)) := ⟨_, rfl⟩
  replace hw := hw x4_16 ex4_16
  refine lv_iinc (v := x4_16) (lv' := [(4, .int x4_16), (0, .ref (G.1 0)), (1, .int x1), (2, .int x2), (3, .int x3)]) hx hb dX5_best_133 hl (k := 4) rfl (by rw [ex4_16]; rfl) (Nat.le_of_ble_eq_true rfl) rfl (fun ls hl => ?_)
  refine lv_goto (tgt := 33) hx hb dX5_best_136 (by decide) ?_
  exact hK33 _ _ _ _ _ _ _ _ hw hk (lv_sub hl [1, 2, 3, 4, 0] rfl)
def wp_X5_best_107 (Q : Int32 → Sg → Prop) (K33 : Int32 → Int32 → Int32 → Int32 → Sg → Prop) (x1 x2 x3 x4 x5 y0 : Int32) (σ : Sg) : Prop := wp_X3_change σ x4 (1 : Int32) x5 (fun σ13 => (x3 ≤ y0 → (wp_X5_best_133 Q K33 x1 x2 x3 x4 σ13)) ∧ (¬ (x3 ≤ y0) → (wp_X5_best_133 Q K33 x1 x4 y0 x4 σ13)))
set_option maxHeartbeats 4000000 in
set_option maxRecDepth 100000 in
theorem t_X5_best_107 {p : Program} {l : Launch} {e : Env} {s : State} {m : MethodId} {args : Array Value} {below : List Frame} {meth : Method} {c : Code} {G : Gw} (X : KC p m meth c cX5_best 7 s args wz_X5_best RX5 (some .int) G) (Q : Int32 → Sg → Prop) (K33 : Int32 → Int32 → Int32 → Int32 → Sg → Prop) (hK33 : ∀ (σ : Sg) (x1 x2 x3 x4 : Int32) (H : Heap) (locs : List Loc) (ls : Array Slot), K33 x1 x2 x3 x4 σ → WK G s H locs σ → lv_has ls 7 [(0, .ref (G.1 0)), (1, .int x1), (2, .int x2), (3, .int x3), (4, .int x4)] → W p l e rm_X5_best s m args below meth c H locs 0 0 (ZI below args s G Q) (F0 m 33 ls [])) : ∀ (σ : Sg) (x1 x2 x3 x4 x5 y0 : Int32) (H : Heap) (locs : List Loc) (ls : Array Slot), wp_X5_best_107 Q K33 x1 x2 x3 x4 x5 y0 σ → WK G s H locs σ → lv_has ls 7 [(0, .ref (G.1 0)), (1, .int x1), (2, .int x2), (3, .int x3), (4, .int x4), (5, .int x5)] → W p l e rm_X5_best s m args below meth c H locs 0 0 (ZI below args s G Q) (F0 m 107 ls [.int y0]) := by
  have hx := X.1.1
  have hb := X.1.2.1
  intro σ x1 x2 x3 x4 x5 y0 H locs ls hw hk hl
  unfold wp_X5_best_107 at hw
  refine lv_istore (lv' := [(6, .int y0), (0, .ref (G.1 0)), (1, .int x1), (2, .int x2), (3, .int x3), (4, .int x4), (5, .int x5)]) hx hb dX5_best_107 hl (Nat.le_of_ble_eq_true rfl) rfl (fun ls hl => ?_)
  refine lv_aload_n hx hb dX5_best_109 rfl (lv_at hl 1 rfl) ?_
  refine k_get 0 X hk (wg_0 G _) rfl (hz_wsX50 _) (Nat.le_of_ble_eq_true rfl) (List.mem_cons_of_mem _ (aw_r1 _ (List.mem_of_getElem? (i := 16) rfl))) rfl dX5_best_110 ?_
  refine lv_iload hx hb dX5_best_113 (lv_at hl 5 rfl) ?_
  refine lv_iconst (v := (1 : Int32)) hx hb dX5_best_115 (by decide) ?_
  refine lv_iload hx hb dX5_best_116 (lv_at hl 6 rfl) ?_
  refine k_callVv (rest := []) X hk (c_X3_change l G _ _ _ _ _ hw) (cwV 3 X.1.2.2.2.2 (gzV (aw_r20 _ (List.mem_of_getElem? (i := 23) rfl)) (aw_r13 _ (List.mem_of_getElem? (i := 15) rfl)) (aw_r13 _ (List.mem_of_getElem? (i := 16) rfl)) (aw_r1 _ (List.mem_of_getElem? (i := 15) rfl)) (aw_r13 _ (List.mem_of_getElem? (i := 17) rfl))) rfl rfl rfl hd_X3_change ⟨(Nat.le_of_ble_eq_true rfl), (Nat.le_of_ble_eq_true rfl)⟩) (wg_1 G _) rfl rfl hl.1 rfl (Nat.le_of_ble_eq_true rfl) dX5_best_118 ⟨Nat.zero_le _, Nat.zero_le _⟩ (fun σ13 H locs hw hk => ?_)
  refine lv_iload hx hb dX5_best_121 (lv_at hl 0 rfl) ?_
  refine lv_iload_n hx hb dX5_best_123 rfl (lv_at hl 4 rfl) ?_
  refine lv_icmp_ge (tgt := 133) hx hb dX5_best_124 (by decide) (fun c15 => ?_) (fun c15 => ?_)
  · replace hw := hw.1 c15
    exact t_X5_best_133 X Q _ hK33 _ _ _ _ _ _ _ _ hw hk (lv_sub hl [1, 2, 3, 4, 5] rfl)
  · replace hw := hw.2 c15
    refine lv_iload hx hb dX5_best_127 (lv_at hl 0 rfl) ?_
    refine lv_istore_n (lv' := [(3, .int y0), (6, .int y0), (0, .ref (G.1 0)), (1, .int x1), (2, .int x2), (4, .int x4), (5, .int x5)]) hx hb dX5_best_129 rfl hl (Nat.le_of_ble_eq_true rfl) rfl (fun ls hl => ?_)
    refine lv_iload hx hb dX5_best_130 (lv_at hl 5 rfl) ?_
    refine lv_istore_n (lv' := [(2, .int x4), (3, .int y0), (6, .int y0), (0, .ref (G.1 0)), (1, .int x1), (4, .int x4), (5, .int x5)]) hx hb dX5_best_132 rfl hl (Nat.le_of_ble_eq_true rfl) rfl (fun ls hl => ?_)
    exact t_X5_best_133 X Q _ hK33 _ _ _ _ _ _ _ _ hw hk (lv_sub hl [3, 4, 0, 1, 5] rfl)
def wp_X5_best_33 (Q : Int32 → Sg → Prop)  : Nat → Int32 → Int32 → Int32 → Int32 → Sg → Prop
  | 0, _, _, _, _, _ => False
  | n + 1, x1, x2, x3, x4, σ => ((σ 1 0) ≤ x4 → (Q x2 σ)) ∧ (¬ ((σ 1 0) ≤ x4) → ((x3 ≤ 0 → (Q x2 σ)) ∧ (¬ (x3 ≤ 0) → (wp_X3_fact σ x4 (1 : Int32) (fun r7 σ6 => wp_X3_change σ6 x4 (1 : Int32) (if (r7 + x1) < (300 : Int32) then (r7 + x1) else (300 : Int32)) (fun σ8 => wp_X0_allSafeBy σ8 (x3 - (1 : Int32)) (fun r11 σ10 => (r11 = 0 → (wp_X5_best_107 Q (fun z1 z2 z3 z4 σ => wp_X5_best_33 Q  n z1 z2 z3 z4 σ) x1 x2 x3 x4 r7 x3 σ10)) ∧ (¬ (r11 = 0) → (wp_X0_soonestWithin σ10 (0 : Int32) x3 (fun r18 σ17 => wp_X5_best_107 Q (fun z1 z2 z3 z4 σ => wp_X5_best_33 Q  n z1 z2 z3 z4 σ) x1 x2 x3 x4 r7 r18 σ17))))))))))
set_option maxHeartbeats 4000000 in
set_option maxRecDepth 100000 in
theorem t_X5_best_33 {p : Program} {l : Launch} {e : Env} {s : State} {m : MethodId} {args : Array Value} {below : List Frame} {meth : Method} {c : Code} {G : Gw} (X : KC p m meth c cX5_best 7 s args wz_X5_best RX5 (some .int) G) (Q : Int32 → Sg → Prop)  : ∀ (n : Nat) (σ : Sg) (x1 x2 x3 x4 : Int32) (H : Heap) (locs : List Loc) (ls : Array Slot), wp_X5_best_33 Q  n x1 x2 x3 x4 σ → WK G s H locs σ → lv_has ls 7 [(0, .ref (G.1 0)), (1, .int x1), (2, .int x2), (3, .int x3), (4, .int x4)] → W p l e rm_X5_best s m args below meth c H locs 0 0 (ZI below args s G Q) (F0 m 33 ls []) := by
  have hx := X.1.1
  have hb := X.1.2.1
  intro n
  induction n with
  | zero =>
    intro σ x1 x2 x3 x4 H locs ls hw hk hl
    exact False.elim hw
  | succ n ih =>
    intro σ x1 x2 x3 x4 H locs ls hw hk hl
    rw [wp_X5_best_33] at hw
    refine lv_iload hx hb dX5_best_33 (lv_at hl 4 rfl) ?_
    refine lv_aload_n hx hb dX5_best_35 rfl (lv_at hl 0 rfl) ?_
    refine k_get 0 X hk (wg_0 G _) rfl (hz_wsX50 _) (Nat.le_of_ble_eq_true rfl) (List.mem_cons_of_mem _ (aw_r1 _ (List.mem_of_getElem? (i := 16) rfl))) rfl dX5_best_36 ?_
    refine k_get 0 X hk (wg_1 G _) rfl (hz_wsX30 _) (Nat.le_of_ble_eq_true rfl) (List.mem_cons_of_mem _ (aw_r19 _ (List.mem_of_getElem? (i := 3) rfl))) rfl dX5_best_39 ?_
    refine lv_icmp_ge (tgt := 139) hx hb dX5_best_42 (by decide) (fun c4 => ?_) (fun c4 => ?_)
    · replace hw := hw.1 c4
      refine lv_iload_n hx hb dX5_best_139 rfl (lv_at hl 2 rfl) ?_
      exact k_iret X hk hw dX5_best_140
    · replace hw := hw.2 c4
      refine lv_iload_n hx hb dX5_best_45 rfl (lv_at hl 3 rfl) ?_
      refine lv_if_le (tgt := 139) hx hb dX5_best_46 (by decide) (fun c5 => ?_) (fun c5 => ?_)
      · replace hw := hw.1 c5
        refine lv_iload_n hx hb dX5_best_139 rfl (lv_at hl 2 rfl) ?_
        exact k_iret X hk hw dX5_best_140
      · replace hw := hw.2 c5
        refine lv_aload_n hx hb dX5_best_49 rfl (lv_at hl 0 rfl) ?_
        refine k_get 0 X hk (wg_0 G _) rfl (hz_wsX50 _) (Nat.le_of_ble_eq_true rfl) (List.mem_cons_of_mem _ (aw_r1 _ (List.mem_of_getElem? (i := 16) rfl))) rfl dX5_best_50 ?_
        refine lv_iload hx hb dX5_best_53 (lv_at hl 4 rfl) ?_
        refine lv_iconst (v := (1 : Int32)) hx hb dX5_best_55 (by decide) ?_
        refine k_callVi (rest := []) X hk (c_X3_fact l G _ _ _ _ hw) (cwV 2 X.1.2.2.2.2 (gzV (aw_r20 _ (List.mem_of_getElem? (i := 19) rfl)) (aw_r20 _ (List.mem_of_getElem? (i := 20) rfl)) (aw_r20 _ (List.mem_of_getElem? (i := 21) rfl)) (aw_r1 _ (List.mem_of_getElem? (i := 15) rfl)) (aw_r20 _ (List.mem_of_getElem? (i := 22) rfl))) rfl rfl rfl hd_X3_fact ⟨(Nat.le_of_ble_eq_true rfl), (Nat.le_of_ble_eq_true rfl)⟩) (wg_1 G _) rfl rfl hl.1 rfl (Nat.le_of_ble_eq_true rfl) dX5_best_56 ⟨Nat.zero_le _, Nat.zero_le _⟩ (fun r7 σ6 H locs hw hk => ?_)
        refine lv_istore (lv' := [(5, .int r7), (0, .ref (G.1 0)), (1, .int x1), (2, .int x2), (3, .int x3), (4, .int x4)]) hx hb dX5_best_59 hl (Nat.le_of_ble_eq_true rfl) rfl (fun ls hl => ?_)
        refine lv_aload_n hx hb dX5_best_61 rfl (lv_at hl 1 rfl) ?_
        refine k_get 0 X hk (wg_0 G _) rfl (hz_wsX50 _) (Nat.le_of_ble_eq_true rfl) (List.mem_cons_of_mem _ (aw_r1 _ (List.mem_of_getElem? (i := 16) rfl))) rfl dX5_best_62 ?_
        refine lv_iload hx hb dX5_best_65 (lv_at hl 5 rfl) ?_
        refine lv_iconst (v := (1 : Int32)) hx hb dX5_best_67 (by decide) ?_
        refine lv_sipush (v := (300 : Int32)) hx hb dX5_best_68 (by decide) ?_
        refine lv_iload hx hb dX5_best_71 (lv_at hl 0 rfl) ?_
        refine lv_iload_n hx hb dX5_best_73 rfl (lv_at hl 2 rfl) ?_
        refine lv_iadd hx hb dX5_best_74 ?_
        refine va_mmin hx hb (X.1.2.2.1.trans hl.1.symm) X.1.2.2.2.1 (X.1.2.2.2.2 _ (List.mem_cons_of_mem _ (aw_r39 _ (List.mem_of_getElem? (i := 4) rfl)))) (X.1.2.2.2.2 _ (List.mem_cons_of_mem _ (aw_r30 _ (List.mem_of_getElem? (i := 16) rfl)))) (X.1.2.2.2.2 _ (List.mem_cons_of_mem _ (aw_r30 _ (List.mem_of_getElem? (i := 9) rfl)))) (X.1.2.2.2.2 _ (List.mem_cons_of_mem _ (aw_r30 _ (List.mem_of_getElem? (i := 17) rfl)))) (Nat.le_of_ble_eq_true rfl) (Nat.le_of_ble_eq_true rfl) (Nat.zero_le _) (Nat.zero_le _) dX5_best_75 ?_
        refine k_callVv (rest := []) X hk (c_X3_change l G _ _ _ _ _ hw) (cwV 3 X.1.2.2.2.2 (gzV (aw_r20 _ (List.mem_of_getElem? (i := 23) rfl)) (aw_r13 _ (List.mem_of_getElem? (i := 15) rfl)) (aw_r13 _ (List.mem_of_getElem? (i := 16) rfl)) (aw_r1 _ (List.mem_of_getElem? (i := 15) rfl)) (aw_r13 _ (List.mem_of_getElem? (i := 17) rfl))) rfl rfl rfl hd_X3_change ⟨(Nat.le_of_ble_eq_true rfl), (Nat.le_of_ble_eq_true rfl)⟩) (wg_1 G _) rfl rfl hl.1 rfl (Nat.le_of_ble_eq_true rfl) dX5_best_78 ⟨Nat.zero_le _, Nat.zero_le _⟩ (fun σ8 H locs hw hk => ?_)
        refine lv_aload_n hx hb dX5_best_81 rfl (lv_at hl 1 rfl) ?_
        refine k_get 3 X hk (wg_0 G _) rfl (hz_wsX50 _) (Nat.le_of_ble_eq_true rfl) (List.mem_cons_of_mem _ (aw_r2 _ (List.mem_of_getElem? (i := 4) rfl))) rfl dX5_best_82 ?_
        refine lv_iload_n hx hb dX5_best_85 rfl (lv_at hl 4 rfl) ?_
        refine lv_iconst (v := (1 : Int32)) hx hb dX5_best_86 (by decide) ?_
        refine lv_isub hx hb dX5_best_87 ?_
        refine k_callVi (rest := []) X hk (c_X0_allSafeBy l G _ _ _ hw) (cwV 1 X.1.2.2.2.2 (gzV (aw_r39 _ (List.mem_of_getElem? (i := 5) rfl)) (aw_r36 _ (List.mem_of_getElem? (i := 6) rfl)) (aw_r36 _ (List.mem_of_getElem? (i := 7) rfl)) (aw_r2 _ (List.mem_of_getElem? (i := 3) rfl)) (aw_r36 _ (List.mem_of_getElem? (i := 8) rfl))) rfl rfl rfl hd_X0_allSafeBy ⟨(Nat.le_of_ble_eq_true rfl), (Nat.le_of_ble_eq_true rfl)⟩) (wg_4 G _) rfl rfl hl.1 rfl (Nat.le_of_ble_eq_true rfl) dX5_best_88 ⟨Nat.zero_le _, Nat.zero_le _⟩ (fun r11 σ10 H locs hw hk => ?_)
        refine lv_if_eq (tgt := 106) hx hb dX5_best_91 (by decide) (fun c12 => ?_) (fun c12 => ?_)
        · replace hw := hw.1 c12
          refine lv_iload_n hx hb dX5_best_106 rfl (lv_at hl 4 rfl) ?_
          exact t_X5_best_107 X Q _ ih _ _ _ _ _ _ _ _ _ _ hw hk (lv_sub hl [1, 2, 3, 4, 5, 0] rfl)
        · replace hw := hw.2 c12
          refine lv_aload_n hx hb dX5_best_94 rfl (lv_at hl 1 rfl) ?_
          refine k_get 3 X hk (wg_0 G _) rfl (hz_wsX50 _) (Nat.le_of_ble_eq_true rfl) (List.mem_cons_of_mem _ (aw_r2 _ (List.mem_of_getElem? (i := 4) rfl))) rfl dX5_best_95 ?_
          refine lv_iconst (v := (0 : Int32)) hx hb dX5_best_98 (by decide) ?_
          refine lv_iload_n hx hb dX5_best_99 rfl (lv_at hl 4 rfl) ?_
          refine k_callVi (rest := []) X hk (c_X0_soonestWithin l G _ _ _ _ hw) (cwV 2 X.1.2.2.2.2 (gzV (aw_r33 _ (List.mem_of_getElem? (i := 5) rfl)) (aw_r30 _ (List.mem_of_getElem? (i := 4) rfl)) (aw_r30 _ (List.mem_of_getElem? (i := 5) rfl)) (aw_r2 _ (List.mem_of_getElem? (i := 3) rfl)) (aw_r30 _ (List.mem_of_getElem? (i := 6) rfl))) rfl rfl rfl hd_X0_soonestWithin ⟨(Nat.le_of_ble_eq_true rfl), (Nat.le_of_ble_eq_true rfl)⟩) (wg_4 G _) rfl rfl hl.1 rfl (Nat.le_of_ble_eq_true rfl) dX5_best_100 ⟨Nat.zero_le _, Nat.zero_le _⟩ (fun r18 σ17 H locs hw hk => ?_)
          refine lv_goto (tgt := 107) hx hb dX5_best_103 (by decide) ?_
          exact t_X5_best_107 X Q _ ih _ _ _ _ _ _ _ _ _ _ hw hk (lv_sub hl [1, 2, 3, 4, 5, 0] rfl)
def wp_X5_best (σ : Sg) (p1 : Int32) (Q : Int32 → Sg → Prop) : Prop := ((σ 1 0) = 0 → (Q (-2 : Int32) σ)) ∧ (¬ ((σ 1 0) = 0) → ((p1 < (1 : Int32) → (Q (-2 : Int32) σ)) ∧ (¬ (p1 < (1 : Int32)) → ((p1 ≤ (300 : Int32) → (∃ n0, wp_X5_best_33 Q  n0 p1 (0 : Int32) (41 : Int32) (0 : Int32) σ)) ∧ (¬ (p1 ≤ (300 : Int32)) → (Q (-2 : Int32) σ))))))
set_option maxHeartbeats 4000000 in
set_option maxRecDepth 100000 in
theorem c_X5_best (l : Launch) (G : Gw) (σ : Sg) (p1 : Int32) (Q : Int32 → Sg → Prop) (hw : wp_X5_best σ p1 Q) : MetI l yX5_best wz_X5_best rm_X5_best G σ [.ref (G.1 0), .int p1] Q := by
  refine MetI.of cX5_best 7 (some .int) (by decide) rfl (Nat.le_of_ble_eq_true rfl) ?_
  intro p e s m below meth c X hk ls hl
  have X : KC p m meth c cX5_best 7 s _ wz_X5_best RX5 (some .int) G := X
  have hl : lv_has ls 7 [(0, .ref (G.1 0)), (1, .int p1)] := hl
  unfold wp_X5_best at hw
  have hx := X.1.1
  have hb := X.1.2.1
  refine lv_aload_n hx hb dX5_best_0 rfl (lv_at hl 0 rfl) ?_
  refine k_get 0 X hk (wg_0 G _) rfl (hz_wsX50 _) (Nat.le_of_ble_eq_true rfl) (List.mem_cons_of_mem _ (aw_r1 _ (List.mem_of_getElem? (i := 16) rfl))) rfl dX5_best_1 ?_
  refine k_get 0 X hk (wg_1 G _) rfl (hz_wsX30 _) (Nat.le_of_ble_eq_true rfl) (List.mem_cons_of_mem _ (aw_r19 _ (List.mem_of_getElem? (i := 3) rfl))) rfl dX5_best_4 ?_
  refine lv_if_eq (tgt := 22) hx hb dX5_best_7 (by decide) (fun c1 => ?_) (fun c1 => ?_)
  · replace hw := hw.1 c1
    refine lv_bipush (v := (-2 : Int32)) hx hb dX5_best_22 (by decide) ?_
    exact k_iret X hk hw dX5_best_24
  · replace hw := hw.2 c1
    refine lv_iload_n hx hb dX5_best_10 rfl (lv_at hl 1 rfl) ?_
    refine lv_iconst (v := (1 : Int32)) hx hb dX5_best_11 (by decide) ?_
    refine lv_icmp_lt (tgt := 22) hx hb dX5_best_12 (by decide) (fun c2 => ?_) (fun c2 => ?_)
    · replace hw := hw.1 c2
      refine lv_bipush (v := (-2 : Int32)) hx hb dX5_best_22 (by decide) ?_
      exact k_iret X hk hw dX5_best_24
    · replace hw := hw.2 c2
      refine lv_iload_n hx hb dX5_best_15 rfl (lv_at hl 1 rfl) ?_
      refine lv_sipush (v := (300 : Int32)) hx hb dX5_best_16 (by decide) ?_
      refine lv_icmp_le (tgt := 25) hx hb dX5_best_19 (by decide) (fun c3 => ?_) (fun c3 => ?_)
      · replace hw := hw.1 c3
        refine lv_iconst (v := (0 : Int32)) hx hb dX5_best_25 (by decide) ?_
        refine lv_istore_n (lv' := [(2, .int (0 : Int32)), (0, .ref (G.1 0)), (1, .int p1)]) hx hb dX5_best_26 rfl hl (Nat.le_of_ble_eq_true rfl) rfl (fun ls hl => ?_)
        refine lv_bipush (v := (41 : Int32)) hx hb dX5_best_27 (by decide) ?_
        refine lv_istore_n (lv' := [(3, .int (41 : Int32)), (2, .int (0 : Int32)), (0, .ref (G.1 0)), (1, .int p1)]) hx hb dX5_best_29 rfl hl (Nat.le_of_ble_eq_true rfl) rfl (fun ls hl => ?_)
        refine lv_iconst (v := (0 : Int32)) hx hb dX5_best_30 (by decide) ?_
        refine lv_istore (lv' := [(4, .int (0 : Int32)), (3, .int (41 : Int32)), (2, .int (0 : Int32)), (0, .ref (G.1 0)), (1, .int p1)]) hx hb dX5_best_31 hl (Nat.le_of_ble_eq_true rfl) rfl (fun ls hl => ?_)
        obtain ⟨n0, hw⟩ := hw
        exact t_X5_best_33 X Q   n0 _ _ _ _ _ _ _ _ hw hk (lv_sub hl [3, 4, 2, 1, 0] rfl)
      · replace hw := hw.2 c3
        refine lv_bipush (v := (-2 : Int32)) hx hb dX5_best_22 (by decide) ?_
        exact k_iret X hk hw dX5_best_24
def rm_X5_latest : Room := { frames := 6, cells := 0, slots := 0, locals := 136 }
abbrev wz_X5_latest : List Cond := Cond.code yX5_latest cX5_latest 8 (some .int) :: wsA
theorem hd_X5_latest : yX5_latest.cls = RX5 ∧ yX5_latest.cls ≠ "java/lang/invoke/MethodHandle" ∧ yX5_latest.cls ≠ "java/lang/invoke/VarHandle" ∧ (parseMethodDescriptor yX5_latest.desc).map (fun d => d.parameters.length) = some 1 := by decide +kernel
def wp_X5_latest_114 (Q : Int32 → Sg → Prop)  (x1 x3 x4 : Int32) (σ : Sg) : Prop := wp_X3_change σ x1 (2 : Int32) x3 (fun σ10 => Q x4 σ10)
set_option maxHeartbeats 4000000 in
set_option maxRecDepth 100000 in
theorem t_X5_latest_114 {p : Program} {l : Launch} {e : Env} {s : State} {m : MethodId} {args : Array Value} {below : List Frame} {meth : Method} {c : Code} {G : Gw} (X : KC p m meth c cX5_latest 8 s args wz_X5_latest RX5 (some .int) G) (Q : Int32 → Sg → Prop)  : ∀ (σ : Sg) (x1 x3 x4 : Int32) (H : Heap) (locs : List Loc) (ls : Array Slot), wp_X5_latest_114 Q  x1 x3 x4 σ → WK G s H locs σ → lv_has ls 8 [(0, .ref (G.1 0)), (1, .int x1), (3, .int x3), (4, .int x4)] → W p l e rm_X5_latest s m args below meth c H locs 0 0 (ZI below args s G Q) (F0 m 114 ls []) := by
  have hx := X.1.1
  have hb := X.1.2.1
  intro σ x1 x3 x4 H locs ls hw hk hl
  unfold wp_X5_latest_114 at hw
  refine lv_aload_n hx hb dX5_latest_114 rfl (lv_at hl 0 rfl) ?_
  refine k_get 0 X hk (wg_0 G _) rfl (hz_wsX50 _) (Nat.le_of_ble_eq_true rfl) (List.mem_cons_of_mem _ (aw_r1 _ (List.mem_of_getElem? (i := 16) rfl))) rfl dX5_latest_115 ?_
  refine lv_iload_n hx hb dX5_latest_118 rfl (lv_at hl 1 rfl) ?_
  refine lv_iconst (v := (2 : Int32)) hx hb dX5_latest_119 (by decide) ?_
  refine lv_iload_n hx hb dX5_latest_120 rfl (lv_at hl 2 rfl) ?_
  refine k_callVv (rest := []) X hk (c_X3_change l G _ _ _ _ _ hw) (cwV 3 X.1.2.2.2.2 (gzV (aw_r20 _ (List.mem_of_getElem? (i := 23) rfl)) (aw_r13 _ (List.mem_of_getElem? (i := 15) rfl)) (aw_r13 _ (List.mem_of_getElem? (i := 16) rfl)) (aw_r1 _ (List.mem_of_getElem? (i := 15) rfl)) (aw_r13 _ (List.mem_of_getElem? (i := 17) rfl))) rfl rfl rfl hd_X3_change ⟨(Nat.le_of_ble_eq_true rfl), (Nat.le_of_ble_eq_true rfl)⟩) (wg_1 G _) rfl rfl hl.1 rfl (Nat.le_of_ble_eq_true rfl) dX5_latest_121 ⟨Nat.zero_le _, Nat.zero_le _⟩ (fun σ10 H locs hw hk => ?_)
  refine lv_iload hx hb dX5_latest_124 (lv_at hl 3 rfl) ?_
  exact k_iret X hk hw dX5_latest_126
def wp_X5_latest_108 (Q : Int32 → Sg → Prop) (K50 : Int32 → Int32 → Int32 → Int32 → Int32 → Int32 → Sg → Prop) (x1 x2 x3 x4 x5 x6 : Int32) (σ : Sg) : Prop := ∀ x6_19 : Int32, x6_19 = (x6 + (1 : Int32)) → (K50 x1 x2 x3 x4 x5 x6_19 σ)
set_option maxHeartbeats 4000000 in
set_option maxRecDepth 100000 in
theorem t_X5_latest_108 {p : Program} {l : Launch} {e : Env} {s : State} {m : MethodId} {args : Array Value} {below : List Frame} {meth : Method} {c : Code} {G : Gw} (X : KC p m meth c cX5_latest 8 s args wz_X5_latest RX5 (some .int) G) (Q : Int32 → Sg → Prop) (K50 : Int32 → Int32 → Int32 → Int32 → Int32 → Int32 → Sg → Prop) (hK50 : ∀ (σ : Sg) (x1 x2 x3 x4 x5 x6 : Int32) (H : Heap) (locs : List Loc) (ls : Array Slot), K50 x1 x2 x3 x4 x5 x6 σ → WK G s H locs σ → lv_has ls 8 [(0, .ref (G.1 0)), (1, .int x1), (2, .int x2), (3, .int x3), (4, .int x4), (5, .int x5), (6, .int x6)] → W p l e rm_X5_latest s m args below meth c H locs 0 0 (ZI below args s G Q) (F0 m 50 ls [])) : ∀ (σ : Sg) (x1 x2 x3 x4 x5 x6 : Int32) (H : Heap) (locs : List Loc) (ls : Array Slot), wp_X5_latest_108 Q K50 x1 x2 x3 x4 x5 x6 σ → WK G s H locs σ → lv_has ls 8 [(0, .ref (G.1 0)), (1, .int x1), (2, .int x2), (3, .int x3), (4, .int x4), (5, .int x5), (6, .int x6)] → W p l e rm_X5_latest s m args below meth c H locs 0 0 (ZI below args s G Q) (F0 m 108 ls []) := by
  have hx := X.1.1
  have hb := X.1.2.1
  intro σ x1 x2 x3 x4 x5 x6 H locs ls hw hk hl
  unfold wp_X5_latest_108 at hw
  obtain ⟨x6_19, ex6_19⟩ : ∃ y : Int32, y = (x6 + (1 : Int32)) := ⟨_, rfl⟩
  replace hw := hw x6_19 ex6_19
  refine lv_iinc (v := x6_19) (lv' := [(6, .int x6_19), (0, .ref (G.1 0)), (1, .int x1), (2, .int x2), (3, .int x3), (4, .int x4), (5, .int x5)]) hx hb dX5_latest_108 hl (k := 6) rfl (by rw [ex6_19]; rfl) (Nat.le_of_ble_eq_true rfl) rfl (fun ls hl => ?_)
  refine lv_goto (tgt := 50) hx hb dX5_latest_111 (by decide) ?_
  exact hK50 _ _ _ _ _ _ _ _ _ _ hw hk (lv_sub hl [1, 2, 3, 4, 5, 6, 0] rfl)
def wp_X5_latest_50 (Q : Int32 → Sg → Prop)  : Nat → Int32 → Int32 → Int32 → Int32 → Int32 → Int32 → Sg → Prop
  | 0, _, _, _, _, _, _, _ => False
  | n + 1, x1, x2, x3, x4, x5, x6, σ => ((20 : Int32) ≤ x6 → (wp_X5_latest_114 Q  x1 x3 x4 σ)) ∧ (¬ ((20 : Int32) ≤ x6) → (((x5 - x4) ≤ (1 : Int32) → (wp_X5_latest_114 Q  x1 x3 x4 σ)) ∧ (¬ ((x5 - x4) ≤ (1 : Int32)) → (∀ x7_13 : Int32, x7_13 = ((x4 + x5) / (2 : Int32)) → (wp_X3_change σ x1 (2 : Int32) x7_13 (fun σ14 => wp_X0_allSafeBy σ14 x2 (fun r17 σ16 => (r17 = 0 → (wp_X5_latest_108 Q (fun z1 z2 z3 z4 z5 z6 σ => wp_X5_latest_50 Q  n z1 z2 z3 z4 z5 z6 σ) x1 x2 x3 x4 x7_13 x6 σ16)) ∧ (¬ (r17 = 0) → (wp_X5_latest_108 Q (fun z1 z2 z3 z4 z5 z6 σ => wp_X5_latest_50 Q  n z1 z2 z3 z4 z5 z6 σ) x1 x2 x3 x7_13 x5 x6 σ16)))))))))
set_option maxHeartbeats 4000000 in
set_option maxRecDepth 100000 in
theorem t_X5_latest_50 {p : Program} {l : Launch} {e : Env} {s : State} {m : MethodId} {args : Array Value} {below : List Frame} {meth : Method} {c : Code} {G : Gw} (X : KC p m meth c cX5_latest 8 s args wz_X5_latest RX5 (some .int) G) (Q : Int32 → Sg → Prop)  : ∀ (n : Nat) (σ : Sg) (x1 x2 x3 x4 x5 x6 : Int32) (H : Heap) (locs : List Loc) (ls : Array Slot), wp_X5_latest_50 Q  n x1 x2 x3 x4 x5 x6 σ → WK G s H locs σ → lv_has ls 8 [(0, .ref (G.1 0)), (1, .int x1), (2, .int x2), (3, .int x3), (4, .int x4), (5, .int x5), (6, .int x6)] → W p l e rm_X5_latest s m args below meth c H locs 0 0 (ZI below args s G Q) (F0 m 50 ls []) := by
  have hx := X.1.1
  have hb := X.1.2.1
  intro n
  induction n with
  | zero =>
    intro σ x1 x2 x3 x4 x5 x6 H locs ls hw hk hl
    exact False.elim hw
  | succ n ih =>
    intro σ x1 x2 x3 x4 x5 x6 H locs ls hw hk hl
    rw [wp_X5_latest_50] at hw
    refine lv_iload hx hb dX5_latest_50 (lv_at hl 6 rfl) ?_
    refine lv_bipush (v := (20 : Int32)) hx hb dX5_latest_52 (by decide) ?_
    refine lv_icmp_ge (tgt := 114) hx hb dX5_latest_54 (by decide) (fun c9 => ?_) (fun c9 => ?_)
    · replace hw := hw.1 c9
      exact t_X5_latest_114 X Q   _ _ _ _ _ _ _ hw hk (lv_sub hl [0, 1, 3, 4] rfl)
    · replace hw := hw.2 c9
      refine lv_iload hx hb dX5_latest_57 (lv_at hl 5 rfl) ?_
      refine lv_iload hx hb dX5_latest_59 (lv_at hl 4 rfl) ?_
      refine lv_isub hx hb dX5_latest_61 ?_
      refine lv_iconst (v := (1 : Int32)) hx hb dX5_latest_62 (by decide) ?_
      refine lv_icmp_le (tgt := 114) hx hb dX5_latest_63 (by decide) (fun c12 => ?_) (fun c12 => ?_)
      · replace hw := hw.1 c12
        exact t_X5_latest_114 X Q   _ _ _ _ _ _ _ hw hk (lv_sub hl [0, 1, 3, 4] rfl)
      · replace hw := hw.2 c12
        refine lv_iload hx hb dX5_latest_66 (lv_at hl 4 rfl) ?_
        refine lv_iload hx hb dX5_latest_68 (lv_at hl 5 rfl) ?_
        refine lv_iadd hx hb dX5_latest_70 ?_
        refine lv_iconst (v := (2 : Int32)) hx hb dX5_latest_71 (by decide) ?_
        refine lv_idiv hx hb dX5_latest_72 (by decide) ?_
        refine lv_topi (fun x7_13 ex7_13 => ?_)
        replace hw := hw x7_13 ex7_13
        refine lv_istore (lv' := [(7, .int x7_13), (0, .ref (G.1 0)), (1, .int x1), (2, .int x2), (3, .int x3), (4, .int x4), (5, .int x5), (6, .int x6)]) hx hb dX5_latest_73 hl (Nat.le_of_ble_eq_true rfl) rfl (fun ls hl => ?_)
        refine lv_aload_n hx hb dX5_latest_75 rfl (lv_at hl 1 rfl) ?_
        refine k_get 0 X hk (wg_0 G _) rfl (hz_wsX50 _) (Nat.le_of_ble_eq_true rfl) (List.mem_cons_of_mem _ (aw_r1 _ (List.mem_of_getElem? (i := 16) rfl))) rfl dX5_latest_76 ?_
        refine lv_iload_n hx hb dX5_latest_79 rfl (lv_at hl 2 rfl) ?_
        refine lv_iconst (v := (2 : Int32)) hx hb dX5_latest_80 (by decide) ?_
        refine lv_iload hx hb dX5_latest_81 (lv_at hl 0 rfl) ?_
        refine k_callVv (rest := []) X hk (c_X3_change l G _ _ _ _ _ hw) (cwV 3 X.1.2.2.2.2 (gzV (aw_r20 _ (List.mem_of_getElem? (i := 23) rfl)) (aw_r13 _ (List.mem_of_getElem? (i := 15) rfl)) (aw_r13 _ (List.mem_of_getElem? (i := 16) rfl)) (aw_r1 _ (List.mem_of_getElem? (i := 15) rfl)) (aw_r13 _ (List.mem_of_getElem? (i := 17) rfl))) rfl rfl rfl hd_X3_change ⟨(Nat.le_of_ble_eq_true rfl), (Nat.le_of_ble_eq_true rfl)⟩) (wg_1 G _) rfl rfl hl.1 rfl (Nat.le_of_ble_eq_true rfl) dX5_latest_83 ⟨Nat.zero_le _, Nat.zero_le _⟩ (fun σ14 H locs hw hk => ?_)
        refine lv_aload_n hx hb dX5_latest_86 rfl (lv_at hl 1 rfl) ?_
        refine k_get 3 X hk (wg_0 G _) rfl (hz_wsX50 _) (Nat.le_of_ble_eq_true rfl) (List.mem_cons_of_mem _ (aw_r2 _ (List.mem_of_getElem? (i := 4) rfl))) rfl dX5_latest_87 ?_
        refine lv_iload_n hx hb dX5_latest_90 rfl (lv_at hl 3 rfl) ?_
        refine k_callVi (rest := []) X hk (c_X0_allSafeBy l G _ _ _ hw) (cwV 1 X.1.2.2.2.2 (gzV (aw_r39 _ (List.mem_of_getElem? (i := 5) rfl)) (aw_r36 _ (List.mem_of_getElem? (i := 6) rfl)) (aw_r36 _ (List.mem_of_getElem? (i := 7) rfl)) (aw_r2 _ (List.mem_of_getElem? (i := 3) rfl)) (aw_r36 _ (List.mem_of_getElem? (i := 8) rfl))) rfl rfl rfl hd_X0_allSafeBy ⟨(Nat.le_of_ble_eq_true rfl), (Nat.le_of_ble_eq_true rfl)⟩) (wg_4 G _) rfl rfl hl.1 rfl (Nat.le_of_ble_eq_true rfl) dX5_latest_91 ⟨Nat.zero_le _, Nat.zero_le _⟩ (fun r17 σ16 H locs hw hk => ?_)
        refine lv_if_eq (tgt := 104) hx hb dX5_latest_94 (by decide) (fun c18 => ?_) (fun c18 => ?_)
        · replace hw := hw.1 c18
          refine lv_iload hx hb dX5_latest_104 (lv_at hl 0 rfl) ?_
          refine lv_istore (lv' := [(5, .int x7_13), (7, .int x7_13), (0, .ref (G.1 0)), (1, .int x1), (2, .int x2), (3, .int x3), (4, .int x4), (6, .int x6)]) hx hb dX5_latest_106 hl (Nat.le_of_ble_eq_true rfl) rfl (fun ls hl => ?_)
          exact t_X5_latest_108 X Q _ ih _ _ _ _ _ _ _ _ _ _ hw hk (lv_sub hl [2, 3, 4, 5, 6, 0, 7] rfl)
        · replace hw := hw.2 c18
          refine lv_iload hx hb dX5_latest_97 (lv_at hl 0 rfl) ?_
          refine lv_istore (lv' := [(4, .int x7_13), (7, .int x7_13), (0, .ref (G.1 0)), (1, .int x1), (2, .int x2), (3, .int x3), (5, .int x5), (6, .int x6)]) hx hb dX5_latest_99 hl (Nat.le_of_ble_eq_true rfl) rfl (fun ls hl => ?_)
          refine lv_goto (tgt := 108) hx hb dX5_latest_101 (by decide) ?_
          exact t_X5_latest_108 X Q _ ih _ _ _ _ _ _ _ _ _ _ hw hk (lv_sub hl [2, 3, 4, 5, 0, 6, 7] rfl)
def wp_X5_latest (σ : Sg) (p1 : Int32) (Q : Int32 → Sg → Prop) : Prop := wp_X3_hasPlace σ p1 (fun r2 σ1 => (r2 = 0 → (Q (-2 : Int32) σ1)) ∧ (¬ (r2 = 0) → (wp_X0_soonest σ1  (fun r5 σ4 => (r5 = (41 : Int32) → (Q (-1 : Int32) σ4)) ∧ (¬ (r5 = (41 : Int32)) → (wp_X3_fact σ4 p1 (2 : Int32) (fun r8 σ7 => ∃ n0, wp_X5_latest_50 Q  n0 p1 r5 r8 r8 (21 : Int32) (0 : Int32) σ7)))))))
set_option maxHeartbeats 4000000 in
set_option maxRecDepth 100000 in
theorem c_X5_latest (l : Launch) (G : Gw) (σ : Sg) (p1 : Int32) (Q : Int32 → Sg → Prop) (hw : wp_X5_latest σ p1 Q) : MetI l yX5_latest wz_X5_latest rm_X5_latest G σ [.ref (G.1 0), .int p1] Q := by
  refine MetI.of cX5_latest 8 (some .int) (by decide) rfl (Nat.le_of_ble_eq_true rfl) ?_
  intro p e s m below meth c X hk ls hl
  have X : KC p m meth c cX5_latest 8 s _ wz_X5_latest RX5 (some .int) G := X
  have hl : lv_has ls 8 [(0, .ref (G.1 0)), (1, .int p1)] := hl
  unfold wp_X5_latest at hw
  have hx := X.1.1
  have hb := X.1.2.1
  refine lv_aload_n hx hb dX5_latest_0 rfl (lv_at hl 0 rfl) ?_
  refine k_get 0 X hk (wg_0 G _) rfl (hz_wsX50 _) (Nat.le_of_ble_eq_true rfl) (List.mem_cons_of_mem _ (aw_r1 _ (List.mem_of_getElem? (i := 16) rfl))) rfl dX5_latest_1 ?_
  refine lv_iload_n hx hb dX5_latest_4 rfl (lv_at hl 1 rfl) ?_
  refine k_callVi (rest := []) X hk (c_X3_hasPlace l G _ _ _ hw) (cwV 1 X.1.2.2.2.2 (gzV (aw_r20 _ (List.mem_of_getElem? (i := 18) rfl)) (aw_r12 _ (List.mem_of_getElem? (i := 11) rfl)) (aw_r12 _ (List.mem_of_getElem? (i := 12) rfl)) (aw_r1 _ (List.mem_of_getElem? (i := 15) rfl)) (aw_r12 _ (List.mem_of_getElem? (i := 13) rfl))) rfl rfl rfl hd_X3_hasPlace ⟨(Nat.le_of_ble_eq_true rfl), (Nat.le_of_ble_eq_true rfl)⟩) (wg_1 G _) rfl rfl hl.1 rfl (Nat.le_of_ble_eq_true rfl) dX5_latest_5 ⟨Nat.zero_le _, Nat.zero_le _⟩ (fun r2 σ1 H locs hw hk => ?_)
  refine lv_if_ne (tgt := 14) hx hb dX5_latest_8 (by decide) (fun c3 => ?_) (fun c3 => ?_)
  · replace hw := hw.2 c3
    refine lv_aload_n hx hb dX5_latest_14 rfl (lv_at hl 0 rfl) ?_
    refine k_get 3 X hk (wg_0 G _) rfl (hz_wsX50 _) (Nat.le_of_ble_eq_true rfl) (List.mem_cons_of_mem _ (aw_r2 _ (List.mem_of_getElem? (i := 4) rfl))) rfl dX5_latest_15 ?_
    refine k_callVi (rest := []) X hk (c_X0_soonest l G _  _ hw) (cwV 0 X.1.2.2.2.2 (gzV (aw_r29 _ (List.mem_of_getElem? (i := 23) rfl)) (aw_r30 _ (List.mem_of_getElem? (i := 0) rfl)) (aw_r30 _ (List.mem_of_getElem? (i := 1) rfl)) (aw_r2 _ (List.mem_of_getElem? (i := 3) rfl)) (aw_r30 _ (List.mem_of_getElem? (i := 2) rfl))) rfl rfl rfl hd_X0_soonest ⟨(Nat.le_of_ble_eq_true rfl), (Nat.le_of_ble_eq_true rfl)⟩) (wg_4 G _) rfl rfl hl.1 rfl (Nat.le_of_ble_eq_true rfl) dX5_latest_18 ⟨Nat.zero_le _, Nat.zero_le _⟩ (fun r5 σ4 H locs hw hk => ?_)
    refine lv_istore_n (lv' := [(2, .int r5), (0, .ref (G.1 0)), (1, .int p1)]) hx hb dX5_latest_21 rfl hl (Nat.le_of_ble_eq_true rfl) rfl (fun ls hl => ?_)
    refine lv_iload_n hx hb dX5_latest_22 rfl (lv_at hl 0 rfl) ?_
    refine lv_bipush (v := (41 : Int32)) hx hb dX5_latest_23 (by decide) ?_
    refine lv_icmp_ne (tgt := 30) hx hb dX5_latest_25 (by decide) (fun c6 => ?_) (fun c6 => ?_)
    · replace hw := hw.2 c6
      refine lv_aload_n hx hb dX5_latest_30 rfl (lv_at hl 1 rfl) ?_
      refine k_get 0 X hk (wg_0 G _) rfl (hz_wsX50 _) (Nat.le_of_ble_eq_true rfl) (List.mem_cons_of_mem _ (aw_r1 _ (List.mem_of_getElem? (i := 16) rfl))) rfl dX5_latest_31 ?_
      refine lv_iload_n hx hb dX5_latest_34 rfl (lv_at hl 2 rfl) ?_
      refine lv_iconst (v := (2 : Int32)) hx hb dX5_latest_35 (by decide) ?_
      refine k_callVi (rest := []) X hk (c_X3_fact l G _ _ _ _ hw) (cwV 2 X.1.2.2.2.2 (gzV (aw_r20 _ (List.mem_of_getElem? (i := 19) rfl)) (aw_r20 _ (List.mem_of_getElem? (i := 20) rfl)) (aw_r20 _ (List.mem_of_getElem? (i := 21) rfl)) (aw_r1 _ (List.mem_of_getElem? (i := 15) rfl)) (aw_r20 _ (List.mem_of_getElem? (i := 22) rfl))) rfl rfl rfl hd_X3_fact ⟨(Nat.le_of_ble_eq_true rfl), (Nat.le_of_ble_eq_true rfl)⟩) (wg_1 G _) rfl rfl hl.1 rfl (Nat.le_of_ble_eq_true rfl) dX5_latest_36 ⟨Nat.zero_le _, Nat.zero_le _⟩ (fun r8 σ7 H locs hw hk => ?_)
      refine lv_istore_n (lv' := [(3, .int r8), (2, .int r5), (0, .ref (G.1 0)), (1, .int p1)]) hx hb dX5_latest_39 rfl hl (Nat.le_of_ble_eq_true rfl) rfl (fun ls hl => ?_)
      refine lv_iload_n hx hb dX5_latest_40 rfl (lv_at hl 0 rfl) ?_
      refine lv_istore (lv' := [(4, .int r8), (3, .int r8), (2, .int r5), (0, .ref (G.1 0)), (1, .int p1)]) hx hb dX5_latest_41 hl (Nat.le_of_ble_eq_true rfl) rfl (fun ls hl => ?_)
      refine lv_bipush (v := (21 : Int32)) hx hb dX5_latest_43 (by decide) ?_
      refine lv_istore (lv' := [(5, .int (21 : Int32)), (4, .int r8), (3, .int r8), (2, .int r5), (0, .ref (G.1 0)), (1, .int p1)]) hx hb dX5_latest_45 hl (Nat.le_of_ble_eq_true rfl) rfl (fun ls hl => ?_)
      refine lv_iconst (v := (0 : Int32)) hx hb dX5_latest_47 (by decide) ?_
      refine lv_istore (lv' := [(6, .int (0 : Int32)), (5, .int (21 : Int32)), (4, .int r8), (3, .int r8), (2, .int r5), (0, .ref (G.1 0)), (1, .int p1)]) hx hb dX5_latest_48 hl (Nat.le_of_ble_eq_true rfl) rfl (fun ls hl => ?_)
      obtain ⟨n0, hw⟩ := hw
      exact t_X5_latest_50 X Q   n0 _ _ _ _ _ _ _ _ _ _ hw hk (lv_sub hl [5, 6, 4, 3, 2, 1, 0] rfl)
    · replace hw := hw.1 c6
      refine lv_iconst (v := (-1 : Int32)) hx hb dX5_latest_28 (by decide) ?_
      exact k_iret X hk hw dX5_latest_29
  · replace hw := hw.1 c3
    refine lv_bipush (v := (-2 : Int32)) hx hb dX5_latest_11 (by decide) ?_
    exact k_iret X hk hw dX5_latest_13
def rm_X5_worst : Room := { frames := 6, cells := 0, slots := 0, locals := 141 }
abbrev wz_X5_worst : List Cond := Cond.code yX5_worst cX5_worst 5 (some .int) :: wsA
theorem hd_X5_worst : yX5_worst.cls = RX5 ∧ yX5_worst.cls ≠ "java/lang/invoke/MethodHandle" ∧ yX5_worst.cls ≠ "java/lang/invoke/VarHandle" ∧ (parseMethodDescriptor yX5_worst.desc).map (fun d => d.parameters.length) = some 0 := by decide +kernel
def wp_X5_worst_61 (Q : Int32 → Sg → Prop) (K25 : Int32 → Int32 → Int32 → Sg → Prop) (x1 x2 x3 : Int32) (σ : Sg) : Prop := ∀ x3_9 : Int32, x3_9 = (x3 + (1 : Int32)) → (K25 x1 x2 x3_9 σ)
set_option maxHeartbeats 4000000 in
set_option maxRecDepth 100000 in
theorem t_X5_worst_61 {p : Program} {l : Launch} {e : Env} {s : State} {m : MethodId} {args : Array Value} {below : List Frame} {meth : Method} {c : Code} {G : Gw} (X : KC p m meth c cX5_worst 5 s args wz_X5_worst RX5 (some .int) G) (Q : Int32 → Sg → Prop) (K25 : Int32 → Int32 → Int32 → Sg → Prop) (hK25 : ∀ (σ : Sg) (x1 x2 x3 : Int32) (H : Heap) (locs : List Loc) (ls : Array Slot), K25 x1 x2 x3 σ → WK G s H locs σ → lv_has ls 5 [(0, .ref (G.1 0)), (1, .int x1), (2, .int x2), (3, .int x3)] → W p l e rm_X5_worst s m args below meth c H locs 0 0 (ZI below args s G Q) (F0 m 25 ls [])) : ∀ (σ : Sg) (x1 x2 x3 : Int32) (H : Heap) (locs : List Loc) (ls : Array Slot), wp_X5_worst_61 Q K25 x1 x2 x3 σ → WK G s H locs σ → lv_has ls 5 [(0, .ref (G.1 0)), (1, .int x1), (2, .int x2), (3, .int x3)] → W p l e rm_X5_worst s m args below meth c H locs 0 0 (ZI below args s G Q) (F0 m 61 ls []) := by
  have hx := X.1.1
  have hb := X.1.2.1
  intro σ x1 x2 x3 H locs ls hw hk hl
  unfold wp_X5_worst_61 at hw
  obtain ⟨x3_9, ex3_9⟩ : ∃ y : Int32, y = (x3 + (1 : Int32)) := ⟨_, rfl⟩
  replace hw := hw x3_9 ex3_9
  refine lv_iinc (v := x3_9) (lv' := [(3, .int x3_9), (0, .ref (G.1 0)), (1, .int x1), (2, .int x2)]) hx hb dX5_worst_61 hl (k := 3) rfl (by rw [ex3_9]; rfl) (Nat.le_of_ble_eq_true rfl) rfl (fun ls hl => ?_)
  refine lv_goto (tgt := 25) hx hb dX5_worst_64 (by decide) ?_
  exact hK25 _ _ _ _ _ _ _ hw hk (lv_sub hl [1, 2, 3, 0] rfl)
def wp_X5_worst_25 (Q : Int32 → Sg → Prop)  : Nat → Int32 → Int32 → Int32 → Sg → Prop
  | 0, _, _, _, _ => False
  | n + 1, x1, x2, x3, σ => ((σ 1 1) ≤ x3 → (Q x1 σ)) ∧ (¬ ((σ 1 1) ≤ x3) → (((41 : Int32) ≤ x2 → (Q x1 σ)) ∧ (¬ ((41 : Int32) ≤ x2) → (wp_X5_soonestWithout σ x3 x2 (fun r7 σ6 => (r7 ≤ x2 → (wp_X5_worst_61 Q (fun z1 z2 z3 σ => wp_X5_worst_25 Q  n z1 z2 z3 σ) x1 x2 x3 σ6)) ∧ (¬ (r7 ≤ x2) → (wp_X5_worst_61 Q (fun z1 z2 z3 σ => wp_X5_worst_25 Q  n z1 z2 z3 σ) x3 r7 x3 σ6)))))))
set_option maxHeartbeats 4000000 in
set_option maxRecDepth 100000 in
theorem t_X5_worst_25 {p : Program} {l : Launch} {e : Env} {s : State} {m : MethodId} {args : Array Value} {below : List Frame} {meth : Method} {c : Code} {G : Gw} (X : KC p m meth c cX5_worst 5 s args wz_X5_worst RX5 (some .int) G) (Q : Int32 → Sg → Prop)  : ∀ (n : Nat) (σ : Sg) (x1 x2 x3 : Int32) (H : Heap) (locs : List Loc) (ls : Array Slot), wp_X5_worst_25 Q  n x1 x2 x3 σ → WK G s H locs σ → lv_has ls 5 [(0, .ref (G.1 0)), (1, .int x1), (2, .int x2), (3, .int x3)] → W p l e rm_X5_worst s m args below meth c H locs 0 0 (ZI below args s G Q) (F0 m 25 ls []) := by
  have hx := X.1.1
  have hb := X.1.2.1
  intro n
  induction n with
  | zero =>
    intro σ x1 x2 x3 H locs ls hw hk hl
    exact False.elim hw
  | succ n ih =>
    intro σ x1 x2 x3 H locs ls hw hk hl
    rw [wp_X5_worst_25] at hw
    refine lv_iload_n hx hb dX5_worst_25 rfl (lv_at hl 3 rfl) ?_
    refine lv_aload_n hx hb dX5_worst_26 rfl (lv_at hl 0 rfl) ?_
    refine k_get 0 X hk (wg_0 G _) rfl (hz_wsX50 _) (Nat.le_of_ble_eq_true rfl) (List.mem_cons_of_mem _ (aw_r1 _ (List.mem_of_getElem? (i := 16) rfl))) rfl dX5_worst_27 ?_
    refine k_get 1 X hk (wg_1 G _) rfl (hz_wsX30 _) (Nat.le_of_ble_eq_true rfl) (List.mem_cons_of_mem _ (aw_r19 _ (List.mem_of_getElem? (i := 17) rfl))) rfl dX5_worst_30 ?_
    refine lv_icmp_ge (tgt := 67) hx hb dX5_worst_33 (by decide) (fun c4 => ?_) (fun c4 => ?_)
    · replace hw := hw.1 c4
      refine lv_iload_n hx hb dX5_worst_67 rfl (lv_at hl 1 rfl) ?_
      exact k_iret X hk hw dX5_worst_68
    · replace hw := hw.2 c4
      refine lv_iload_n hx hb dX5_worst_36 rfl (lv_at hl 2 rfl) ?_
      refine lv_bipush (v := (41 : Int32)) hx hb dX5_worst_37 (by decide) ?_
      refine lv_icmp_ge (tgt := 67) hx hb dX5_worst_39 (by decide) (fun c5 => ?_) (fun c5 => ?_)
      · replace hw := hw.1 c5
        refine lv_iload_n hx hb dX5_worst_67 rfl (lv_at hl 1 rfl) ?_
        exact k_iret X hk hw dX5_worst_68
      · replace hw := hw.2 c5
        refine lv_aload_n hx hb dX5_worst_42 rfl (lv_at hl 0 rfl) ?_
        refine lv_iload_n hx hb dX5_worst_43 rfl (lv_at hl 3 rfl) ?_
        refine lv_iload_n hx hb dX5_worst_44 rfl (lv_at hl 2 rfl) ?_
        refine k_callVi (rest := []) X hk (c_X5_soonestWithout l G _ _ _ _ hw) (cwV 2 X.1.2.2.2.2 (gzV (aw_r33 _ (List.mem_of_getElem? (i := 1) rfl)) (aw_r33 _ (List.mem_of_getElem? (i := 2) rfl)) (aw_r33 _ (List.mem_of_getElem? (i := 3) rfl)) (aw_r1 _ (List.mem_of_getElem? (i := 2) rfl)) (aw_r33 _ (List.mem_of_getElem? (i := 4) rfl))) rfl rfl rfl hd_X5_soonestWithout ⟨(Nat.le_of_ble_eq_true rfl), (Nat.le_of_ble_eq_true rfl)⟩) (wg_0 G _) rfl rfl hl.1 rfl (Nat.le_of_ble_eq_true rfl) dX5_worst_45 ⟨Nat.zero_le _, Nat.zero_le _⟩ (fun r7 σ6 H locs hw hk => ?_)
        refine lv_istore (lv' := [(4, .int r7), (0, .ref (G.1 0)), (1, .int x1), (2, .int x2), (3, .int x3)]) hx hb dX5_worst_48 hl (Nat.le_of_ble_eq_true rfl) rfl (fun ls hl => ?_)
        refine lv_iload hx hb dX5_worst_50 (lv_at hl 0 rfl) ?_
        refine lv_iload_n hx hb dX5_worst_52 rfl (lv_at hl 3 rfl) ?_
        refine lv_icmp_le (tgt := 61) hx hb dX5_worst_53 (by decide) (fun c8 => ?_) (fun c8 => ?_)
        · replace hw := hw.1 c8
          exact t_X5_worst_61 X Q _ ih _ _ _ _ _ _ _ hw hk (lv_sub hl [1, 2, 3, 4] rfl)
        · replace hw := hw.2 c8
          refine lv_iload hx hb dX5_worst_56 (lv_at hl 0 rfl) ?_
          refine lv_istore_n (lv' := [(2, .int r7), (4, .int r7), (0, .ref (G.1 0)), (1, .int x1), (3, .int x3)]) hx hb dX5_worst_58 rfl hl (Nat.le_of_ble_eq_true rfl) rfl (fun ls hl => ?_)
          refine lv_iload_n hx hb dX5_worst_59 rfl (lv_at hl 4 rfl) ?_
          refine lv_istore_n (lv' := [(1, .int x3), (2, .int r7), (4, .int r7), (0, .ref (G.1 0)), (3, .int x3)]) hx hb dX5_worst_60 rfl hl (Nat.le_of_ble_eq_true rfl) rfl (fun ls hl => ?_)
          exact t_X5_worst_61 X Q _ ih _ _ _ _ _ _ _ hw hk (lv_sub hl [3, 0, 1, 4] rfl)
def wp_X5_worst (σ : Sg) (Q : Int32 → Sg → Prop) : Prop := ((σ 1 1) = 0 → (Q (-2 : Int32) σ)) ∧ (¬ ((σ 1 1) = 0) → (wp_X0_soonest σ  (fun r3 σ2 => ∃ n0, wp_X5_worst_25 Q  n0 (0 : Int32) r3 (0 : Int32) σ2)))
set_option maxHeartbeats 4000000 in
set_option maxRecDepth 100000 in
theorem c_X5_worst (l : Launch) (G : Gw) (σ : Sg) (Q : Int32 → Sg → Prop) (hw : wp_X5_worst σ  Q) : MetI l yX5_worst wz_X5_worst rm_X5_worst G σ [.ref (G.1 0)] Q := by
  refine MetI.of cX5_worst 5 (some .int) (by decide) rfl (Nat.le_of_ble_eq_true rfl) ?_
  intro p e s m below meth c X hk ls hl
  have X : KC p m meth c cX5_worst 5 s _ wz_X5_worst RX5 (some .int) G := X
  have hl : lv_has ls 5 [(0, .ref (G.1 0))] := hl
  unfold wp_X5_worst at hw
  have hx := X.1.1
  have hb := X.1.2.1
  refine lv_aload_n hx hb dX5_worst_0 rfl (lv_at hl 0 rfl) ?_
  refine k_get 0 X hk (wg_0 G _) rfl (hz_wsX50 _) (Nat.le_of_ble_eq_true rfl) (List.mem_cons_of_mem _ (aw_r1 _ (List.mem_of_getElem? (i := 16) rfl))) rfl dX5_worst_1 ?_
  refine k_get 1 X hk (wg_1 G _) rfl (hz_wsX30 _) (Nat.le_of_ble_eq_true rfl) (List.mem_cons_of_mem _ (aw_r19 _ (List.mem_of_getElem? (i := 17) rfl))) rfl dX5_worst_4 ?_
  refine lv_if_ne (tgt := 13) hx hb dX5_worst_7 (by decide) (fun c1 => ?_) (fun c1 => ?_)
  · replace hw := hw.2 c1
    refine lv_iconst (v := (0 : Int32)) hx hb dX5_worst_13 (by decide) ?_
    refine lv_istore_n (lv' := [(1, .int (0 : Int32)), (0, .ref (G.1 0))]) hx hb dX5_worst_14 rfl hl (Nat.le_of_ble_eq_true rfl) rfl (fun ls hl => ?_)
    refine lv_aload_n hx hb dX5_worst_15 rfl (lv_at hl 1 rfl) ?_
    refine k_get 3 X hk (wg_0 G _) rfl (hz_wsX50 _) (Nat.le_of_ble_eq_true rfl) (List.mem_cons_of_mem _ (aw_r2 _ (List.mem_of_getElem? (i := 4) rfl))) rfl dX5_worst_16 ?_
    refine k_callVi (rest := []) X hk (c_X0_soonest l G _  _ hw) (cwV 0 X.1.2.2.2.2 (gzV (aw_r29 _ (List.mem_of_getElem? (i := 23) rfl)) (aw_r30 _ (List.mem_of_getElem? (i := 0) rfl)) (aw_r30 _ (List.mem_of_getElem? (i := 1) rfl)) (aw_r2 _ (List.mem_of_getElem? (i := 3) rfl)) (aw_r30 _ (List.mem_of_getElem? (i := 2) rfl))) rfl rfl rfl hd_X0_soonest ⟨(Nat.le_of_ble_eq_true rfl), (Nat.le_of_ble_eq_true rfl)⟩) (wg_4 G _) rfl rfl hl.1 rfl (Nat.le_of_ble_eq_true rfl) dX5_worst_19 ⟨Nat.zero_le _, Nat.zero_le _⟩ (fun r3 σ2 H locs hw hk => ?_)
    refine lv_istore_n (lv' := [(2, .int r3), (1, .int (0 : Int32)), (0, .ref (G.1 0))]) hx hb dX5_worst_22 rfl hl (Nat.le_of_ble_eq_true rfl) rfl (fun ls hl => ?_)
    refine lv_iconst (v := (0 : Int32)) hx hb dX5_worst_23 (by decide) ?_
    refine lv_istore_n (lv' := [(3, .int (0 : Int32)), (2, .int r3), (1, .int (0 : Int32)), (0, .ref (G.1 0))]) hx hb dX5_worst_24 rfl hl (Nat.le_of_ble_eq_true rfl) rfl (fun ls hl => ?_)
    obtain ⟨n0, hw⟩ := hw
    exact t_X5_worst_25 X Q   n0 _ _ _ _ _ _ _ hw hk (lv_sub hl [3, 2, 1, 0] rfl)
  · replace hw := hw.1 c1
    refine lv_bipush (v := (-2 : Int32)) hx hb dX5_worst_10 (by decide) ?_
    exact k_iret X hk hw dX5_worst_12
def rm_X5_allSafeWith : Room := { frames := 5, cells := 0, slots := 0, locals := 113 }
abbrev wz_X5_allSafeWith : List Cond := Cond.code yX5_allSafeWith cX5_allSafeWith 5 (some .boolean) :: wsA
theorem hd_X5_allSafeWith : yX5_allSafeWith.cls = RX5 ∧ yX5_allSafeWith.cls ≠ "java/lang/invoke/MethodHandle" ∧ yX5_allSafeWith.cls ≠ "java/lang/invoke/VarHandle" ∧ (parseMethodDescriptor yX5_allSafeWith.desc).map (fun d => d.parameters.length) = some 3 := by decide +kernel
def wp_X5_allSafeWith (σ : Sg) (p1 p2 p3 : Int32) (Q : Int32 → Sg → Prop) : Prop := vp_in p1 24 ∧ (vp_in p1 24 ∧ (∀ σ1 : Sg, σ1 = (put σ 8 (p1).toNatClampNeg ((σ 8 (p1).toNatClampNeg) + p2)) → (wp_X0_allSafeBy σ1 p3 (fun r3 σ2 => vp_in p1 24 ∧ (vp_in p1 24 ∧ (∀ σ4 : Sg, σ4 = (put σ2 8 (p1).toNatClampNeg ((σ2 8 (p1).toNatClampNeg) - p2)) → (bz r3 ∧ Q r3 σ4)))))))
set_option maxHeartbeats 4000000 in
set_option maxRecDepth 100000 in
theorem c_X5_allSafeWith (l : Launch) (G : Gw) (σ : Sg) (p1 p2 p3 : Int32) (Q : Int32 → Sg → Prop) (hw : wp_X5_allSafeWith σ p1 p2 p3 Q) : MetI l yX5_allSafeWith wz_X5_allSafeWith rm_X5_allSafeWith G σ [.ref (G.1 0), .int p1, .int p2, .int p3] Q := by
  refine MetI.of cX5_allSafeWith 5 (some .boolean) (by decide) rfl (Nat.le_of_ble_eq_true rfl) ?_
  intro p e s m below meth c X hk ls hl
  have X : KC p m meth c cX5_allSafeWith 5 s _ wz_X5_allSafeWith RX5 (some .boolean) G := X
  have hl : lv_has ls 5 [(0, .ref (G.1 0)), (1, .int p1), (2, .int p2), (3, .int p3)] := hl
  unfold wp_X5_allSafeWith at hw
  have hx := X.1.1
  have hb := X.1.2.1
  refine lv_aload_n hx hb dX5_allSafeWith_0 rfl (lv_at hl 0 rfl) ?_
  refine k_get 0 X hk (wg_0 G _) rfl (hz_wsX50 _) (Nat.le_of_ble_eq_true rfl) (List.mem_cons_of_mem _ (aw_r1 _ (List.mem_of_getElem? (i := 16) rfl))) rfl dX5_allSafeWith_1 ?_
  refine k_get 4 X hk (wg_1 G _) rfl (hz_wsX30 _) (Nat.le_of_ble_eq_true rfl) (List.mem_cons_of_mem _ (aw_r25 _ (List.mem_of_getElem? (i := 5) rfl))) rfl dX5_allSafeWith_4 ?_
  refine lv_iload_n hx hb dX5_allSafeWith_7 rfl (lv_at hl 1 rfl) ?_
  refine lv_dup2_11 hx hb dX5_allSafeWith_8 rfl rfl ?_
  refine k_iald X hk (wg_8 G _) hw.1 dX5_allSafeWith_9 ?_
  replace hw := hw.2
  refine lv_iload_n hx hb dX5_allSafeWith_10 rfl (lv_at hl 2 rfl) ?_
  refine lv_iadd hx hb dX5_allSafeWith_11 ?_
  refine k_iast X hk (wg_8 G _) (ws_8 G _) rfl hw.1 dX5_allSafeWith_12 (fun H locs hk => ?_)
  replace hw := hw.2
  obtain ⟨σ1, eσ1⟩ : ∃ y : Sg, y = (put σ 8 (p1).toNatClampNeg ((σ 8 (p1).toNatClampNeg) + p2)) := ⟨_, rfl⟩
  rw [← eσ1] at hk
  replace hw := hw σ1 eσ1
  refine lv_aload_n hx hb dX5_allSafeWith_13 rfl (lv_at hl 0 rfl) ?_
  refine k_get 3 X hk (wg_0 G _) rfl (hz_wsX50 _) (Nat.le_of_ble_eq_true rfl) (List.mem_cons_of_mem _ (aw_r2 _ (List.mem_of_getElem? (i := 4) rfl))) rfl dX5_allSafeWith_14 ?_
  refine lv_iload_n hx hb dX5_allSafeWith_17 rfl (lv_at hl 3 rfl) ?_
  refine k_callVi (rest := []) X hk (c_X0_allSafeBy l G _ _ _ hw) (cwV 1 X.1.2.2.2.2 (gzV (aw_r39 _ (List.mem_of_getElem? (i := 5) rfl)) (aw_r36 _ (List.mem_of_getElem? (i := 6) rfl)) (aw_r36 _ (List.mem_of_getElem? (i := 7) rfl)) (aw_r2 _ (List.mem_of_getElem? (i := 3) rfl)) (aw_r36 _ (List.mem_of_getElem? (i := 8) rfl))) rfl rfl rfl hd_X0_allSafeBy ⟨(Nat.le_of_ble_eq_true rfl), (Nat.le_of_ble_eq_true rfl)⟩) (wg_4 G _) rfl rfl hl.1 rfl (Nat.le_of_ble_eq_true rfl) dX5_allSafeWith_18 ⟨Nat.zero_le _, Nat.zero_le _⟩ (fun r3 σ2 H locs hw hk => ?_)
  refine lv_istore (lv' := [(4, .int r3), (0, .ref (G.1 0)), (1, .int p1), (2, .int p2), (3, .int p3)]) hx hb dX5_allSafeWith_21 hl (Nat.le_of_ble_eq_true rfl) rfl (fun ls hl => ?_)
  refine lv_aload_n hx hb dX5_allSafeWith_23 rfl (lv_at hl 1 rfl) ?_
  refine k_get 0 X hk (wg_0 G _) rfl (hz_wsX50 _) (Nat.le_of_ble_eq_true rfl) (List.mem_cons_of_mem _ (aw_r1 _ (List.mem_of_getElem? (i := 16) rfl))) rfl dX5_allSafeWith_24 ?_
  refine k_get 4 X hk (wg_1 G _) rfl (hz_wsX30 _) (Nat.le_of_ble_eq_true rfl) (List.mem_cons_of_mem _ (aw_r25 _ (List.mem_of_getElem? (i := 5) rfl))) rfl dX5_allSafeWith_27 ?_
  refine lv_iload_n hx hb dX5_allSafeWith_30 rfl (lv_at hl 2 rfl) ?_
  refine lv_dup2_11 hx hb dX5_allSafeWith_31 rfl rfl ?_
  refine k_iald X hk (wg_8 G _) hw.1 dX5_allSafeWith_32 ?_
  replace hw := hw.2
  refine lv_iload_n hx hb dX5_allSafeWith_33 rfl (lv_at hl 3 rfl) ?_
  refine lv_isub hx hb dX5_allSafeWith_34 ?_
  refine k_iast X hk (wg_8 G _) (ws_8 G _) rfl hw.1 dX5_allSafeWith_35 (fun H locs hk => ?_)
  replace hw := hw.2
  obtain ⟨σ4, eσ4⟩ : ∃ y : Sg, y = (put σ2 8 (p1).toNatClampNeg ((σ2 8 (p1).toNatClampNeg) - p2)) := ⟨_, rfl⟩
  rw [← eσ4] at hk
  replace hw := hw σ4 eσ4
  refine lv_iload hx hb dX5_allSafeWith_36 (lv_at hl 0 rfl) ?_
  exact k_zret X hk hw dX5_allSafeWith_38
def rm_X5_lacks : Room := { frames := 6, cells := 0, slots := 0, locals := 137 }
abbrev wz_X5_lacks : List Cond := Cond.code yX5_lacks cX5_lacks 9 (some .int) :: wsA
theorem hd_X5_lacks : yX5_lacks.cls = RX5 ∧ yX5_lacks.cls ≠ "java/lang/invoke/MethodHandle" ∧ yX5_lacks.cls ≠ "java/lang/invoke/VarHandle" ∧ (parseMethodDescriptor yX5_lacks.desc).map (fun d => d.parameters.length) = some 3 := by decide +kernel
def wp_X5_lacks_113 (Q : Int32 → Sg → Prop) (K65 : Int32 → Int32 → Int32 → Int32 → Int32 → Sg → Prop) (x1 x4 x5 x6 x7 : Int32) (σ : Sg) : Prop := ∀ x7_21 : Int32, x7_21 = (x7 + (1 : Int32)) → (K65 x1 x4 x5 x6 x7_21 σ)
set_option maxHeartbeats 4000000 in
set_option maxRecDepth 100000 in
theorem t_X5_lacks_113 {p : Program} {l : Launch} {e : Env} {s : State} {m : MethodId} {args : Array Value} {below : List Frame} {meth : Method} {c : Code} {G : Gw} (X : KC p m meth c cX5_lacks 9 s args wz_X5_lacks RX5 (some .int) G) (Q : Int32 → Sg → Prop) (K65 : Int32 → Int32 → Int32 → Int32 → Int32 → Sg → Prop) (hK65 : ∀ (σ : Sg) (x1 x4 x5 x6 x7 : Int32) (H : Heap) (locs : List Loc) (ls : Array Slot), K65 x1 x4 x5 x6 x7 σ → WK G s H locs σ → lv_has ls 9 [(0, .ref (G.1 0)), (1, .int x1), (4, .int x4), (5, .int x5), (6, .int x6), (7, .int x7)] → W p l e rm_X5_lacks s m args below meth c H locs 0 0 (ZI below args s G Q) (F0 m 65 ls [])) : ∀ (σ : Sg) (x1 x4 x5 x6 x7 : Int32) (H : Heap) (locs : List Loc) (ls : Array Slot), wp_X5_lacks_113 Q K65 x1 x4 x5 x6 x7 σ → WK G s H locs σ → lv_has ls 9 [(0, .ref (G.1 0)), (1, .int x1), (4, .int x4), (5, .int x5), (6, .int x6), (7, .int x7)] → W p l e rm_X5_lacks s m args below meth c H locs 0 0 (ZI below args s G Q) (F0 m 113 ls []) := by
  have hx := X.1.1
  have hb := X.1.2.1
  intro σ x1 x4 x5 x6 x7 H locs ls hw hk hl
  unfold wp_X5_lacks_113 at hw
  obtain ⟨x7_21, ex7_21⟩ : ∃ y : Int32, y = (x7 + (1 : Int32)) := ⟨_, rfl⟩
  replace hw := hw x7_21 ex7_21
  refine lv_iinc (v := x7_21) (lv' := [(7, .int x7_21), (0, .ref (G.1 0)), (1, .int x1), (4, .int x4), (5, .int x5), (6, .int x6)]) hx hb dX5_lacks_113 hl (k := 5) rfl (by rw [ex7_21]; rfl) (Nat.le_of_ble_eq_true rfl) rfl (fun ls hl => ?_)
  refine lv_goto (tgt := 65) hx hb dX5_lacks_116 (by decide) ?_
  exact hK65 _ _ _ _ _ _ _ _ _ hw hk (lv_sub hl [1, 2, 3, 4, 5, 0] rfl)
def wp_X5_lacks_65 (Q : Int32 → Sg → Prop)  : Nat → Int32 → Int32 → Int32 → Int32 → Int32 → Sg → Prop
  | 0, _, _, _, _, _, _ => False
  | n + 1, x1, x4, x5, x6, x7, σ => ((30 : Int32) ≤ x7 → (Q x6 σ)) ∧ (¬ ((30 : Int32) ≤ x7) → (((x6 - x5) ≤ (1 : Int32) → (Q x6 σ)) ∧ (¬ ((x6 - x5) ≤ (1 : Int32)) → (∀ x8_17 : Int32, x8_17 = ((x6 + x5) / (2 : Int32)) → (wp_X5_allSafeWith σ x4 x8_17 x1 (fun r19 σ18 => (r19 = 0 → (wp_X5_lacks_113 Q (fun z1 z4 z5 z6 z7 σ => wp_X5_lacks_65 Q  n z1 z4 z5 z6 z7 σ) x1 x4 x8_17 x6 x7 σ18)) ∧ (¬ (r19 = 0) → (wp_X5_lacks_113 Q (fun z1 z4 z5 z6 z7 σ => wp_X5_lacks_65 Q  n z1 z4 z5 z6 z7 σ) x1 x4 x5 x8_17 x7 σ18))))))))
set_option maxHeartbeats 4000000 in
set_option maxRecDepth 100000 in
theorem t_X5_lacks_65 {p : Program} {l : Launch} {e : Env} {s : State} {m : MethodId} {args : Array Value} {below : List Frame} {meth : Method} {c : Code} {G : Gw} (X : KC p m meth c cX5_lacks 9 s args wz_X5_lacks RX5 (some .int) G) (Q : Int32 → Sg → Prop)  : ∀ (n : Nat) (σ : Sg) (x1 x4 x5 x6 x7 : Int32) (H : Heap) (locs : List Loc) (ls : Array Slot), wp_X5_lacks_65 Q  n x1 x4 x5 x6 x7 σ → WK G s H locs σ → lv_has ls 9 [(0, .ref (G.1 0)), (1, .int x1), (4, .int x4), (5, .int x5), (6, .int x6), (7, .int x7)] → W p l e rm_X5_lacks s m args below meth c H locs 0 0 (ZI below args s G Q) (F0 m 65 ls []) := by
  have hx := X.1.1
  have hb := X.1.2.1
  intro n
  induction n with
  | zero =>
    intro σ x1 x4 x5 x6 x7 H locs ls hw hk hl
    exact False.elim hw
  | succ n ih =>
    intro σ x1 x4 x5 x6 x7 H locs ls hw hk hl
    rw [wp_X5_lacks_65] at hw
    refine lv_iload hx hb dX5_lacks_65 (lv_at hl 5 rfl) ?_
    refine lv_bipush (v := (30 : Int32)) hx hb dX5_lacks_67 (by decide) ?_
    refine lv_icmp_ge (tgt := 119) hx hb dX5_lacks_69 (by decide) (fun c15 => ?_) (fun c15 => ?_)
    · replace hw := hw.1 c15
      refine lv_iload hx hb dX5_lacks_119 (lv_at hl 4 rfl) ?_
      exact k_iret X hk hw dX5_lacks_121
    · replace hw := hw.2 c15
      refine lv_iload hx hb dX5_lacks_72 (lv_at hl 4 rfl) ?_
      refine lv_iload hx hb dX5_lacks_74 (lv_at hl 3 rfl) ?_
      refine lv_isub hx hb dX5_lacks_76 ?_
      refine lv_iconst (v := (1 : Int32)) hx hb dX5_lacks_77 (by decide) ?_
      refine lv_icmp_le (tgt := 119) hx hb dX5_lacks_78 (by decide) (fun c16 => ?_) (fun c16 => ?_)
      · replace hw := hw.1 c16
        refine lv_iload hx hb dX5_lacks_119 (lv_at hl 4 rfl) ?_
        exact k_iret X hk hw dX5_lacks_121
      · replace hw := hw.2 c16
        refine lv_iload hx hb dX5_lacks_81 (lv_at hl 4 rfl) ?_
        refine lv_iload hx hb dX5_lacks_83 (lv_at hl 3 rfl) ?_
        refine lv_iadd hx hb dX5_lacks_85 ?_
        refine lv_iconst (v := (2 : Int32)) hx hb dX5_lacks_86 (by decide) ?_
        refine lv_idiv hx hb dX5_lacks_87 (by decide) ?_
        refine lv_topi (fun x8_17 ex8_17 => ?_)
        replace hw := hw x8_17 ex8_17
        refine lv_istore (lv' := [(8, .int x8_17), (0, .ref (G.1 0)), (1, .int x1), (4, .int x4), (5, .int x5), (6, .int x6), (7, .int x7)]) hx hb dX5_lacks_88 hl (Nat.le_of_ble_eq_true rfl) rfl (fun ls hl => ?_)
        refine lv_aload_n hx hb dX5_lacks_90 rfl (lv_at hl 1 rfl) ?_
        refine lv_iload hx hb dX5_lacks_91 (lv_at hl 3 rfl) ?_
        refine lv_iload hx hb dX5_lacks_93 (lv_at hl 0 rfl) ?_
        refine lv_iload_n hx hb dX5_lacks_95 rfl (lv_at hl 2 rfl) ?_
        refine k_callVi (rest := []) X hk (c_X5_allSafeWith l G _ _ _ _ _ hw) (cwV 3 X.1.2.2.2.2 (gzV (aw_r40 _ (List.mem_of_getElem? (i := 7) rfl)) (aw_r40 _ (List.mem_of_getElem? (i := 8) rfl)) (aw_r40 _ (List.mem_of_getElem? (i := 9) rfl)) (aw_r1 _ (List.mem_of_getElem? (i := 2) rfl)) (aw_r40 _ (List.mem_of_getElem? (i := 10) rfl))) rfl rfl rfl hd_X5_allSafeWith ⟨(Nat.le_of_ble_eq_true rfl), (Nat.le_of_ble_eq_true rfl)⟩) (wg_0 G _) rfl rfl hl.1 rfl (Nat.le_of_ble_eq_true rfl) dX5_lacks_96 ⟨Nat.zero_le _, Nat.zero_le _⟩ (fun r19 σ18 H locs hw hk => ?_)
        refine lv_if_eq (tgt := 109) hx hb dX5_lacks_99 (by decide) (fun c20 => ?_) (fun c20 => ?_)
        · replace hw := hw.1 c20
          refine lv_iload hx hb dX5_lacks_109 (lv_at hl 0 rfl) ?_
          refine lv_istore (lv' := [(5, .int x8_17), (8, .int x8_17), (0, .ref (G.1 0)), (1, .int x1), (4, .int x4), (6, .int x6), (7, .int x7)]) hx hb dX5_lacks_111 hl (Nat.le_of_ble_eq_true rfl) rfl (fun ls hl => ?_)
          exact t_X5_lacks_113 X Q _ ih _ _ _ _ _ _ _ _ _ hw hk (lv_sub hl [2, 3, 4, 0, 5, 6] rfl)
        · replace hw := hw.2 c20
          refine lv_iload hx hb dX5_lacks_102 (lv_at hl 0 rfl) ?_
          refine lv_istore (lv' := [(6, .int x8_17), (8, .int x8_17), (0, .ref (G.1 0)), (1, .int x1), (4, .int x4), (5, .int x5), (7, .int x7)]) hx hb dX5_lacks_104 hl (Nat.le_of_ble_eq_true rfl) rfl (fun ls hl => ?_)
          refine lv_goto (tgt := 113) hx hb dX5_lacks_106 (by decide) ?_
          exact t_X5_lacks_113 X Q _ ih _ _ _ _ _ _ _ _ _ hw hk (lv_sub hl [2, 3, 4, 5, 0, 6] rfl)
def wp_X5_lacks (σ : Sg) (p1 p2 p3 : Int32) (Q : Int32 → Sg → Prop) : Prop := wp_X5_isT σ p1 (fun r2 σ1 => (r2 = 0 → (Q (-2 : Int32) σ1)) ∧ (¬ (r2 = 0) → (wp_X3_hasRoad σ1 p2 (fun r5 σ4 => (r5 = 0 → (Q (-2 : Int32) σ4)) ∧ (¬ (r5 = 0) → (wp_X5_way σ4 p2 p3 (fun r8 σ7 => wp_X0_allSafeBy σ7 p1 (fun r10 σ9 => (r10 = 0 → (wp_X5_allSafeWith σ9 r8 (30 : Int32) p1 (fun r13 σ12 => (r13 = 0 → (Q (-1 : Int32) σ12)) ∧ (¬ (r13 = 0) → (∃ n0, wp_X5_lacks_65 Q  n0 p1 r8 (0 : Int32) (30 : Int32) (0 : Int32) σ12))))) ∧ (¬ (r10 = 0) → (Q (0 : Int32) σ9))))))))))
set_option maxHeartbeats 4000000 in
set_option maxRecDepth 100000 in
theorem c_X5_lacks (l : Launch) (G : Gw) (σ : Sg) (p1 p2 p3 : Int32) (Q : Int32 → Sg → Prop) (hw : wp_X5_lacks σ p1 p2 p3 Q) : MetI l yX5_lacks wz_X5_lacks rm_X5_lacks G σ [.ref (G.1 0), .int p1, .int p2, .int p3] Q := by
  refine MetI.of cX5_lacks 9 (some .int) (by decide) rfl (Nat.le_of_ble_eq_true rfl) ?_
  intro p e s m below meth c X hk ls hl
  have X : KC p m meth c cX5_lacks 9 s _ wz_X5_lacks RX5 (some .int) G := X
  have hl : lv_has ls 9 [(0, .ref (G.1 0)), (1, .int p1), (2, .int p2), (3, .int p3)] := hl
  unfold wp_X5_lacks at hw
  have hx := X.1.1
  have hb := X.1.2.1
  refine lv_iload_n hx hb dX5_lacks_0 rfl (lv_at hl 1 rfl) ?_
  refine k_callSi (rest := []) X hk (c_X5_isT l G _ _ _ hw) (va_cwS 1 X.1.2.2.2.2 (gzS (aw_r25 _ (List.mem_of_getElem? (i := 19) rfl)) (aw_r25 _ (List.mem_of_getElem? (i := 20) rfl)) (aw_r1 _ (List.mem_of_getElem? (i := 2) rfl)) (aw_r25 _ (List.mem_of_getElem? (i := 21) rfl))) rfl rfl rfl hds_X5_isT ⟨(Nat.le_of_ble_eq_true rfl), (Nat.le_of_ble_eq_true rfl)⟩) rfl hl.1 rfl (Nat.le_of_ble_eq_true rfl) dX5_lacks_1 ⟨Nat.zero_le _, Nat.zero_le _⟩ (fun r2 σ1 H locs hw hk => ?_)
  refine lv_if_eq (tgt := 18) hx hb dX5_lacks_4 (by decide) (fun c3 => ?_) (fun c3 => ?_)
  · replace hw := hw.1 c3
    refine lv_bipush (v := (-2 : Int32)) hx hb dX5_lacks_18 (by decide) ?_
    exact k_iret X hk hw dX5_lacks_20
  · replace hw := hw.2 c3
    refine lv_aload_n hx hb dX5_lacks_7 rfl (lv_at hl 0 rfl) ?_
    refine k_get 0 X hk (wg_0 G _) rfl (hz_wsX50 _) (Nat.le_of_ble_eq_true rfl) (List.mem_cons_of_mem _ (aw_r1 _ (List.mem_of_getElem? (i := 16) rfl))) rfl dX5_lacks_8 ?_
    refine lv_iload_n hx hb dX5_lacks_11 rfl (lv_at hl 2 rfl) ?_
    refine k_callVi (rest := []) X hk (c_X3_hasRoad l G _ _ _ hw) (cwV 1 X.1.2.2.2.2 (gzV (aw_r25 _ (List.mem_of_getElem? (i := 6) rfl)) (aw_r12 _ (List.mem_of_getElem? (i := 16) rfl)) (aw_r12 _ (List.mem_of_getElem? (i := 17) rfl)) (aw_r1 _ (List.mem_of_getElem? (i := 15) rfl)) (aw_r12 _ (List.mem_of_getElem? (i := 18) rfl))) rfl rfl rfl hd_X3_hasRoad ⟨(Nat.le_of_ble_eq_true rfl), (Nat.le_of_ble_eq_true rfl)⟩) (wg_1 G _) rfl rfl hl.1 rfl (Nat.le_of_ble_eq_true rfl) dX5_lacks_12 ⟨Nat.zero_le _, Nat.zero_le _⟩ (fun r5 σ4 H locs hw hk => ?_)
    refine lv_if_ne (tgt := 21) hx hb dX5_lacks_15 (by decide) (fun c6 => ?_) (fun c6 => ?_)
    · replace hw := hw.2 c6
      refine lv_iload_n hx hb dX5_lacks_21 rfl (lv_at hl 2 rfl) ?_
      refine lv_iload_n hx hb dX5_lacks_22 rfl (lv_at hl 3 rfl) ?_
      refine k_callSi (rest := []) X hk (c_X5_way l G _ _ _ _ hw) (va_cwS 2 X.1.2.2.2.2 (gzS (aw_r33 _ (List.mem_of_getElem? (i := 18) rfl)) (aw_r33 _ (List.mem_of_getElem? (i := 19) rfl)) (aw_r1 _ (List.mem_of_getElem? (i := 2) rfl)) (aw_r33 _ (List.mem_of_getElem? (i := 20) rfl))) rfl rfl rfl hds_X5_way ⟨(Nat.le_of_ble_eq_true rfl), (Nat.le_of_ble_eq_true rfl)⟩) rfl hl.1 rfl (Nat.le_of_ble_eq_true rfl) dX5_lacks_23 ⟨Nat.zero_le _, Nat.zero_le _⟩ (fun r8 σ7 H locs hw hk => ?_)
      refine lv_istore (lv' := [(4, .int r8), (0, .ref (G.1 0)), (1, .int p1), (2, .int p2), (3, .int p3)]) hx hb dX5_lacks_26 hl (Nat.le_of_ble_eq_true rfl) rfl (fun ls hl => ?_)
      refine lv_aload_n hx hb dX5_lacks_28 rfl (lv_at hl 1 rfl) ?_
      refine k_get 3 X hk (wg_0 G _) rfl (hz_wsX50 _) (Nat.le_of_ble_eq_true rfl) (List.mem_cons_of_mem _ (aw_r2 _ (List.mem_of_getElem? (i := 4) rfl))) rfl dX5_lacks_29 ?_
      refine lv_iload_n hx hb dX5_lacks_32 rfl (lv_at hl 2 rfl) ?_
      refine k_callVi (rest := []) X hk (c_X0_allSafeBy l G _ _ _ hw) (cwV 1 X.1.2.2.2.2 (gzV (aw_r39 _ (List.mem_of_getElem? (i := 5) rfl)) (aw_r36 _ (List.mem_of_getElem? (i := 6) rfl)) (aw_r36 _ (List.mem_of_getElem? (i := 7) rfl)) (aw_r2 _ (List.mem_of_getElem? (i := 3) rfl)) (aw_r36 _ (List.mem_of_getElem? (i := 8) rfl))) rfl rfl rfl hd_X0_allSafeBy ⟨(Nat.le_of_ble_eq_true rfl), (Nat.le_of_ble_eq_true rfl)⟩) (wg_4 G _) rfl rfl hl.1 rfl (Nat.le_of_ble_eq_true rfl) dX5_lacks_33 ⟨Nat.zero_le _, Nat.zero_le _⟩ (fun r10 σ9 H locs hw hk => ?_)
      refine lv_if_eq (tgt := 41) hx hb dX5_lacks_36 (by decide) (fun c11 => ?_) (fun c11 => ?_)
      · replace hw := hw.1 c11
        refine lv_aload_n hx hb dX5_lacks_41 rfl (lv_at hl 1 rfl) ?_
        refine lv_iload hx hb dX5_lacks_42 (lv_at hl 0 rfl) ?_
        refine lv_bipush (v := (30 : Int32)) hx hb dX5_lacks_44 (by decide) ?_
        refine lv_iload_n hx hb dX5_lacks_46 rfl (lv_at hl 2 rfl) ?_
        refine k_callVi (rest := []) X hk (c_X5_allSafeWith l G _ _ _ _ _ hw) (cwV 3 X.1.2.2.2.2 (gzV (aw_r40 _ (List.mem_of_getElem? (i := 7) rfl)) (aw_r40 _ (List.mem_of_getElem? (i := 8) rfl)) (aw_r40 _ (List.mem_of_getElem? (i := 9) rfl)) (aw_r1 _ (List.mem_of_getElem? (i := 2) rfl)) (aw_r40 _ (List.mem_of_getElem? (i := 10) rfl))) rfl rfl rfl hd_X5_allSafeWith ⟨(Nat.le_of_ble_eq_true rfl), (Nat.le_of_ble_eq_true rfl)⟩) (wg_0 G _) rfl rfl hl.1 rfl (Nat.le_of_ble_eq_true rfl) dX5_lacks_47 ⟨Nat.zero_le _, Nat.zero_le _⟩ (fun r13 σ12 H locs hw hk => ?_)
        refine lv_if_ne (tgt := 55) hx hb dX5_lacks_50 (by decide) (fun c14 => ?_) (fun c14 => ?_)
        · replace hw := hw.2 c14
          refine lv_iconst (v := (0 : Int32)) hx hb dX5_lacks_55 (by decide) ?_
          refine lv_istore (lv' := [(5, .int (0 : Int32)), (4, .int r8), (0, .ref (G.1 0)), (1, .int p1), (2, .int p2), (3, .int p3)]) hx hb dX5_lacks_56 hl (Nat.le_of_ble_eq_true rfl) rfl (fun ls hl => ?_)
          refine lv_bipush (v := (30 : Int32)) hx hb dX5_lacks_58 (by decide) ?_
          refine lv_istore (lv' := [(6, .int (30 : Int32)), (5, .int (0 : Int32)), (4, .int r8), (0, .ref (G.1 0)), (1, .int p1), (2, .int p2), (3, .int p3)]) hx hb dX5_lacks_60 hl (Nat.le_of_ble_eq_true rfl) rfl (fun ls hl => ?_)
          refine lv_iconst (v := (0 : Int32)) hx hb dX5_lacks_62 (by decide) ?_
          refine lv_istore (lv' := [(7, .int (0 : Int32)), (6, .int (30 : Int32)), (5, .int (0 : Int32)), (4, .int r8), (0, .ref (G.1 0)), (1, .int p1), (2, .int p2), (3, .int p3)]) hx hb dX5_lacks_63 hl (Nat.le_of_ble_eq_true rfl) rfl (fun ls hl => ?_)
          obtain ⟨n0, hw⟩ := hw
          exact t_X5_lacks_65 X Q   n0 _ _ _ _ _ _ _ _ _ hw hk (lv_sub hl [4, 5, 3, 2, 1, 0] rfl)
        · replace hw := hw.1 c14
          refine lv_iconst (v := (-1 : Int32)) hx hb dX5_lacks_53 (by decide) ?_
          exact k_iret X hk hw dX5_lacks_54
      · replace hw := hw.2 c11
        refine lv_iconst (v := (0 : Int32)) hx hb dX5_lacks_39 (by decide) ?_
        exact k_iret X hk hw dX5_lacks_40
    · replace hw := hw.1 c6
      refine lv_bipush (v := (-2 : Int32)) hx hb dX5_lacks_18 (by decide) ?_
      exact k_iret X hk hw dX5_lacks_20
def rm_X5_moved : Room := { frames := 1, cells := 0, slots := 0, locals := 22 }
abbrev wz_X5_moved : List Cond := Cond.code yX5_moved cX5_moved 3 (some .int) :: wsA
theorem hd_X5_moved : yX5_moved.cls = RX5 ∧ yX5_moved.cls ≠ "java/lang/invoke/MethodHandle" ∧ yX5_moved.cls ≠ "java/lang/invoke/VarHandle" ∧ (parseMethodDescriptor yX5_moved.desc).map (fun d => d.parameters.length) = some 2 := by decide +kernel
def wp_X5_moved (σ : Sg) (p1 p2 : Int32) (Q : Int32 → Sg → Prop) : Prop := (p1 < 0 → (Q (-1 : Int32) σ)) ∧ (¬ (p1 < 0) → (((σ 2 0) ≤ p1 → (Q (-1 : Int32) σ)) ∧ (¬ ((σ 2 0) ≤ p1) → ((p2 < 0 → (Q (-1 : Int32) σ)) ∧ (¬ (p2 < 0) → (((4 : Int32) ≤ p2 → (Q (-1 : Int32) σ)) ∧ (¬ ((4 : Int32) ≤ p2) → (wp_X1_part σ p1 p2 (fun r6 σ5 => Q r6 σ5)))))))))
set_option maxHeartbeats 4000000 in
set_option maxRecDepth 100000 in
theorem c_X5_moved (l : Launch) (G : Gw) (σ : Sg) (p1 p2 : Int32) (Q : Int32 → Sg → Prop) (hw : wp_X5_moved σ p1 p2 Q) : MetI l yX5_moved wz_X5_moved rm_X5_moved G σ [.ref (G.1 0), .int p1, .int p2] Q := by
  refine MetI.of cX5_moved 3 (some .int) (by decide) rfl (Nat.le_of_ble_eq_true rfl) ?_
  intro p e s m below meth c X hk ls hl
  have X : KC p m meth c cX5_moved 3 s _ wz_X5_moved RX5 (some .int) G := X
  have hl : lv_has ls 3 [(0, .ref (G.1 0)), (1, .int p1), (2, .int p2)] := hl
  unfold wp_X5_moved at hw
  have hx := X.1.1
  have hb := X.1.2.1
  refine lv_iload_n hx hb dX5_moved_0 rfl (lv_at hl 1 rfl) ?_
  refine lv_if_lt (tgt := 36) hx hb dX5_moved_1 (by decide) (fun c1 => ?_) (fun c1 => ?_)
  · replace hw := hw.1 c1
    refine lv_iconst (v := (-1 : Int32)) hx hb dX5_moved_36 (by decide) ?_
    exact k_iret X hk hw dX5_moved_37
  · replace hw := hw.2 c1
    refine lv_iload_n hx hb dX5_moved_4 rfl (lv_at hl 1 rfl) ?_
    refine lv_aload_n hx hb dX5_moved_5 rfl (lv_at hl 0 rfl) ?_
    refine k_get 1 X hk (wg_0 G _) rfl (hz_wsX50 _) (Nat.le_of_ble_eq_true rfl) (List.mem_cons_of_mem _ (aw_r1 _ (List.mem_of_getElem? (i := 20) rfl))) rfl dX5_moved_6 ?_
    refine k_get 0 X hk (wg_2 G _) rfl (hz_wsX10 _) (Nat.le_of_ble_eq_true rfl) (List.mem_cons_of_mem _ (aw_r22 _ (List.mem_of_getElem? (i := 13) rfl))) rfl dX5_moved_9 ?_
    refine lv_icmp_ge (tgt := 36) hx hb dX5_moved_12 (by decide) (fun c2 => ?_) (fun c2 => ?_)
    · replace hw := hw.1 c2
      refine lv_iconst (v := (-1 : Int32)) hx hb dX5_moved_36 (by decide) ?_
      exact k_iret X hk hw dX5_moved_37
    · replace hw := hw.2 c2
      refine lv_iload_n hx hb dX5_moved_15 rfl (lv_at hl 2 rfl) ?_
      refine lv_if_lt (tgt := 36) hx hb dX5_moved_16 (by decide) (fun c3 => ?_) (fun c3 => ?_)
      · replace hw := hw.1 c3
        refine lv_iconst (v := (-1 : Int32)) hx hb dX5_moved_36 (by decide) ?_
        exact k_iret X hk hw dX5_moved_37
      · replace hw := hw.2 c3
        refine lv_iload_n hx hb dX5_moved_19 rfl (lv_at hl 2 rfl) ?_
        refine lv_iconst (v := (4 : Int32)) hx hb dX5_moved_20 (by decide) ?_
        refine lv_icmp_ge (tgt := 36) hx hb dX5_moved_21 (by decide) (fun c4 => ?_) (fun c4 => ?_)
        · replace hw := hw.1 c4
          refine lv_iconst (v := (-1 : Int32)) hx hb dX5_moved_36 (by decide) ?_
          exact k_iret X hk hw dX5_moved_37
        · replace hw := hw.2 c4
          refine lv_aload_n hx hb dX5_moved_24 rfl (lv_at hl 0 rfl) ?_
          refine k_get 1 X hk (wg_0 G _) rfl (hz_wsX50 _) (Nat.le_of_ble_eq_true rfl) (List.mem_cons_of_mem _ (aw_r1 _ (List.mem_of_getElem? (i := 20) rfl))) rfl dX5_moved_25 ?_
          refine lv_iload_n hx hb dX5_moved_28 rfl (lv_at hl 1 rfl) ?_
          refine lv_iload_n hx hb dX5_moved_29 rfl (lv_at hl 2 rfl) ?_
          refine k_callVi (rest := []) X hk (c_X1_part l G _ _ _ _ hw) (cwV 2 X.1.2.2.2.2 (gzV (aw_r40 _ (List.mem_of_getElem? (i := 19) rfl)) (aw_r21 _ (List.mem_of_getElem? (i := 18) rfl)) (aw_r21 _ (List.mem_of_getElem? (i := 19) rfl)) (aw_r1 _ (List.mem_of_getElem? (i := 19) rfl)) (aw_r21 _ (List.mem_of_getElem? (i := 20) rfl))) rfl rfl rfl hd_X1_part ⟨(Nat.le_of_ble_eq_true rfl), (Nat.le_of_ble_eq_true rfl)⟩) (wg_2 G _) rfl rfl hl.1 rfl (Nat.le_of_ble_eq_true rfl) dX5_moved_30 ⟨Nat.zero_le _, Nat.zero_le _⟩ (fun r6 σ5 H locs hw hk => ?_)
          refine lv_goto (tgt := 37) hx hb dX5_moved_33 (by decide) ?_
          exact k_iret X hk hw dX5_moved_37
def rm_X5_wrong : Room := { frames := 6, cells := 0, slots := 0, locals := 137 }
abbrev wz_X5_wrong : List Cond := Cond.code yX5_wrong cX5_wrong 1 (some .int) :: wsA
theorem hd_X5_wrong : yX5_wrong.cls = RX5 ∧ yX5_wrong.cls ≠ "java/lang/invoke/MethodHandle" ∧ yX5_wrong.cls ≠ "java/lang/invoke/VarHandle" ∧ (parseMethodDescriptor yX5_wrong.desc).map (fun d => d.parameters.length) = some 0 := by decide +kernel
def wp_X5_wrong (σ : Sg) (Q : Int32 → Sg → Prop) : Prop := wp_X1_judge σ  (fun σ1 => Q (σ1 2 1) σ1)
set_option maxHeartbeats 4000000 in
set_option maxRecDepth 100000 in
theorem c_X5_wrong (l : Launch) (G : Gw) (σ : Sg) (Q : Int32 → Sg → Prop) (hw : wp_X5_wrong σ  Q) : MetI l yX5_wrong wz_X5_wrong rm_X5_wrong G σ [.ref (G.1 0)] Q := by
  refine MetI.of cX5_wrong 1 (some .int) (by decide) rfl (Nat.le_of_ble_eq_true rfl) ?_
  intro p e s m below meth c X hk ls hl
  have X : KC p m meth c cX5_wrong 1 s _ wz_X5_wrong RX5 (some .int) G := X
  have hl : lv_has ls 1 [(0, .ref (G.1 0))] := hl
  unfold wp_X5_wrong at hw
  have hx := X.1.1
  have hb := X.1.2.1
  refine lv_aload_n hx hb dX5_wrong_0 rfl (lv_at hl 0 rfl) ?_
  refine k_get 1 X hk (wg_0 G _) rfl (hz_wsX50 _) (Nat.le_of_ble_eq_true rfl) (List.mem_cons_of_mem _ (aw_r1 _ (List.mem_of_getElem? (i := 20) rfl))) rfl dX5_wrong_1 ?_
  refine k_callVv (rest := []) X hk (c_X1_judge l G _  _ hw) (cwV 0 X.1.2.2.2.2 (gzV (aw_r41 _ (List.mem_of_getElem? (i := 5) rfl)) (aw_r41 _ (List.mem_of_getElem? (i := 6) rfl)) (aw_r41 _ (List.mem_of_getElem? (i := 7) rfl)) (aw_r1 _ (List.mem_of_getElem? (i := 19) rfl)) (aw_r41 _ (List.mem_of_getElem? (i := 8) rfl))) rfl rfl rfl hd_X1_judge ⟨(Nat.le_of_ble_eq_true rfl), (Nat.le_of_ble_eq_true rfl)⟩) (wg_2 G _) rfl rfl hl.1 rfl (Nat.le_of_ble_eq_true rfl) dX5_wrong_4 ⟨Nat.zero_le _, Nat.zero_le _⟩ (fun σ1 H locs hw hk => ?_)
  refine lv_aload_n hx hb dX5_wrong_7 rfl (lv_at hl 0 rfl) ?_
  refine k_get 1 X hk (wg_0 G _) rfl (hz_wsX50 _) (Nat.le_of_ble_eq_true rfl) (List.mem_cons_of_mem _ (aw_r1 _ (List.mem_of_getElem? (i := 20) rfl))) rfl dX5_wrong_8 ?_
  refine k_get 1 X hk (wg_2 G _) rfl (hz_wsX10 _) (Nat.le_of_ble_eq_true rfl) (List.mem_cons_of_mem _ (aw_r41 _ (List.mem_of_getElem? (i := 4) rfl))) rfl dX5_wrong_11 ?_
  exact k_iret X hk hw dX5_wrong_14
def rm_X5_planned : Room := { frames := 6, cells := 0, slots := 0, locals := 137 }
abbrev wz_X5_planned : List Cond := Cond.code yX5_planned cX5_planned 2 (some .int) :: wsA
theorem hd_X5_planned : yX5_planned.cls = RX5 ∧ yX5_planned.cls ≠ "java/lang/invoke/MethodHandle" ∧ yX5_planned.cls ≠ "java/lang/invoke/VarHandle" ∧ (parseMethodDescriptor yX5_planned.desc).map (fun d => d.parameters.length) = some 1 := by decide +kernel
def wp_X5_planned (σ : Sg) (p1 : Int32) (Q : Int32 → Sg → Prop) : Prop := wp_X1_judge σ  (fun σ1 => (p1 = (0 : Int32) → (wp_X1_sum_k12 σ1  (fun r5 σ4 => Q r5 σ4))) ∧ (p1 = (1 : Int32) → (Q (σ1 2 3) σ1)) ∧ (p1 = (2 : Int32) → (Q (σ1 2 4) σ1)) ∧ (p1 = (3 : Int32) → (wp_X1_sum_k11 σ1  (fun r10 σ9 => Q r10 σ9))) ∧ (p1 = (4 : Int32) → (wp_X1_sum_k10 σ1  (fun r13 σ12 => Q r13 σ12))) ∧ (¬ p1 = (0 : Int32) → ¬ p1 = (1 : Int32) → ¬ p1 = (2 : Int32) → ¬ p1 = (3 : Int32) → ¬ p1 = (4 : Int32) → (Q (-1 : Int32) σ1)))
set_option maxHeartbeats 4000000 in
set_option maxRecDepth 100000 in
theorem c_X5_planned (l : Launch) (G : Gw) (σ : Sg) (p1 : Int32) (Q : Int32 → Sg → Prop) (hw : wp_X5_planned σ p1 Q) : MetI l yX5_planned wz_X5_planned rm_X5_planned G σ [.ref (G.1 0), .int p1] Q := by
  refine MetI.of cX5_planned 2 (some .int) (by decide) rfl (Nat.le_of_ble_eq_true rfl) ?_
  intro p e s m below meth c X hk ls hl
  have X : KC p m meth c cX5_planned 2 s _ wz_X5_planned RX5 (some .int) G := X
  have hl : lv_has ls 2 [(0, .ref (G.1 0)), (1, .int p1)] := hl
  unfold wp_X5_planned at hw
  have hx := X.1.1
  have hb := X.1.2.1
  refine lv_aload_n hx hb dX5_planned_0 rfl (lv_at hl 0 rfl) ?_
  refine k_get 1 X hk (wg_0 G _) rfl (hz_wsX50 _) (Nat.le_of_ble_eq_true rfl) (List.mem_cons_of_mem _ (aw_r1 _ (List.mem_of_getElem? (i := 20) rfl))) rfl dX5_planned_1 ?_
  refine k_callVv (rest := []) X hk (c_X1_judge l G _  _ hw) (cwV 0 X.1.2.2.2.2 (gzV (aw_r41 _ (List.mem_of_getElem? (i := 5) rfl)) (aw_r41 _ (List.mem_of_getElem? (i := 6) rfl)) (aw_r41 _ (List.mem_of_getElem? (i := 7) rfl)) (aw_r1 _ (List.mem_of_getElem? (i := 19) rfl)) (aw_r41 _ (List.mem_of_getElem? (i := 8) rfl))) rfl rfl rfl hd_X1_judge ⟨(Nat.le_of_ble_eq_true rfl), (Nat.le_of_ble_eq_true rfl)⟩) (wg_2 G _) rfl rfl hl.1 rfl (Nat.le_of_ble_eq_true rfl) dX5_planned_4 ⟨Nat.zero_le _, Nat.zero_le _⟩ (fun σ1 H locs hw hk => ?_)
  refine lv_iload_n hx hb dX5_planned_7 rfl (lv_at hl 1 rfl) ?_
  by_cases c3 : p1 = (0 : Int32)
  · have ec3 : (p1).toInt = 0 := by rw [c3]; rfl
    refine lv_tableIn (tgt := 44) hx hb dX5_planned_8 (by rw [ec3]; decide) (by rw [ec3]; decide) (by rw [ec3]; rfl) (by decide) ?_
    replace hw := hw.1 c3
    refine lv_aload_n hx hb dX5_planned_44 rfl (lv_at hl 0 rfl) ?_
    refine k_get 1 X hk (wg_0 G _) rfl (hz_wsX50 _) (Nat.le_of_ble_eq_true rfl) (List.mem_cons_of_mem _ (aw_r1 _ (List.mem_of_getElem? (i := 20) rfl))) rfl dX5_planned_45 ?_
    refine lv_aload_n hx hb dX5_planned_48 rfl (lv_at hl 0 rfl) ?_
    refine k_get 1 X hk (wg_0 G _) rfl (hz_wsX50 _) (Nat.le_of_ble_eq_true rfl) (List.mem_cons_of_mem _ (aw_r1 _ (List.mem_of_getElem? (i := 20) rfl))) rfl dX5_planned_49 ?_
    refine k_get 7 X hk (wg_2 G _) rfl (hz_wsX10 _) (Nat.le_of_ble_eq_true rfl) (List.mem_cons_of_mem _ (aw_r44 _ (List.mem_of_getElem? (i := 18) rfl))) rfl dX5_planned_52 ?_
    refine k_callVi (rest := []) X hk (c_X1_sum_k12 l G _  _ hw) (cwV 1 X.1.2.2.2.2 (gzV (aw_r44 _ (List.mem_of_getElem? (i := 23) rfl)) (aw_r45 _ (List.mem_of_getElem? (i := 0) rfl)) (aw_r45 _ (List.mem_of_getElem? (i := 1) rfl)) (aw_r1 _ (List.mem_of_getElem? (i := 19) rfl)) (aw_r45 _ (List.mem_of_getElem? (i := 2) rfl))) rfl rfl rfl hd_X1_sum ⟨(Nat.le_of_ble_eq_true rfl), (Nat.le_of_ble_eq_true rfl)⟩) (wg_2 G _) rfl rfl hl.1 rfl (Nat.le_of_ble_eq_true rfl) dX5_planned_55 ⟨Nat.zero_le _, Nat.zero_le _⟩ (fun r5 σ4 H locs hw hk => ?_)
    exact k_iret X hk hw dX5_planned_58
  replace hw := hw.2
  by_cases c6 : p1 = (1 : Int32)
  · have ec6 : (p1).toInt = 1 := by rw [c6]; rfl
    refine lv_tableIn (tgt := 59) hx hb dX5_planned_8 (by rw [ec6]; decide) (by rw [ec6]; decide) (by rw [ec6]; rfl) (by decide) ?_
    replace hw := hw.1 c6
    refine lv_aload_n hx hb dX5_planned_59 rfl (lv_at hl 0 rfl) ?_
    refine k_get 1 X hk (wg_0 G _) rfl (hz_wsX50 _) (Nat.le_of_ble_eq_true rfl) (List.mem_cons_of_mem _ (aw_r1 _ (List.mem_of_getElem? (i := 20) rfl))) rfl dX5_planned_60 ?_
    refine k_get 3 X hk (wg_2 G _) rfl (hz_wsX10 _) (Nat.le_of_ble_eq_true rfl) (List.mem_cons_of_mem _ (aw_r44 _ (List.mem_of_getElem? (i := 19) rfl))) rfl dX5_planned_63 ?_
    exact k_iret X hk hw dX5_planned_66
  replace hw := hw.2
  by_cases c7 : p1 = (2 : Int32)
  · have ec7 : (p1).toInt = 2 := by rw [c7]; rfl
    refine lv_tableIn (tgt := 67) hx hb dX5_planned_8 (by rw [ec7]; decide) (by rw [ec7]; decide) (by rw [ec7]; rfl) (by decide) ?_
    replace hw := hw.1 c7
    refine lv_aload_n hx hb dX5_planned_67 rfl (lv_at hl 0 rfl) ?_
    refine k_get 1 X hk (wg_0 G _) rfl (hz_wsX50 _) (Nat.le_of_ble_eq_true rfl) (List.mem_cons_of_mem _ (aw_r1 _ (List.mem_of_getElem? (i := 20) rfl))) rfl dX5_planned_68 ?_
    refine k_get 4 X hk (wg_2 G _) rfl (hz_wsX10 _) (Nat.le_of_ble_eq_true rfl) (List.mem_cons_of_mem _ (aw_r44 _ (List.mem_of_getElem? (i := 20) rfl))) rfl dX5_planned_71 ?_
    exact k_iret X hk hw dX5_planned_74
  replace hw := hw.2
  by_cases c8 : p1 = (3 : Int32)
  · have ec8 : (p1).toInt = 3 := by rw [c8]; rfl
    refine lv_tableIn (tgt := 75) hx hb dX5_planned_8 (by rw [ec8]; decide) (by rw [ec8]; decide) (by rw [ec8]; rfl) (by decide) ?_
    replace hw := hw.1 c8
    refine lv_aload_n hx hb dX5_planned_75 rfl (lv_at hl 0 rfl) ?_
    refine k_get 1 X hk (wg_0 G _) rfl (hz_wsX50 _) (Nat.le_of_ble_eq_true rfl) (List.mem_cons_of_mem _ (aw_r1 _ (List.mem_of_getElem? (i := 20) rfl))) rfl dX5_planned_76 ?_
    refine lv_aload_n hx hb dX5_planned_79 rfl (lv_at hl 0 rfl) ?_
    refine k_get 1 X hk (wg_0 G _) rfl (hz_wsX50 _) (Nat.le_of_ble_eq_true rfl) (List.mem_cons_of_mem _ (aw_r1 _ (List.mem_of_getElem? (i := 20) rfl))) rfl dX5_planned_80 ?_
    refine k_get 6 X hk (wg_2 G _) rfl (hz_wsX10 _) (Nat.le_of_ble_eq_true rfl) (List.mem_cons_of_mem _ (aw_r44 _ (List.mem_of_getElem? (i := 21) rfl))) rfl dX5_planned_83 ?_
    refine k_callVi (rest := []) X hk (c_X1_sum_k11 l G _  _ hw) (cwV 1 X.1.2.2.2.2 (gzV (aw_r44 _ (List.mem_of_getElem? (i := 23) rfl)) (aw_r45 _ (List.mem_of_getElem? (i := 0) rfl)) (aw_r45 _ (List.mem_of_getElem? (i := 1) rfl)) (aw_r1 _ (List.mem_of_getElem? (i := 19) rfl)) (aw_r45 _ (List.mem_of_getElem? (i := 2) rfl))) rfl rfl rfl hd_X1_sum ⟨(Nat.le_of_ble_eq_true rfl), (Nat.le_of_ble_eq_true rfl)⟩) (wg_2 G _) rfl rfl hl.1 rfl (Nat.le_of_ble_eq_true rfl) dX5_planned_86 ⟨Nat.zero_le _, Nat.zero_le _⟩ (fun r10 σ9 H locs hw hk => ?_)
    exact k_iret X hk hw dX5_planned_89
  replace hw := hw.2
  by_cases c11 : p1 = (4 : Int32)
  · have ec11 : (p1).toInt = 4 := by rw [c11]; rfl
    refine lv_tableIn (tgt := 90) hx hb dX5_planned_8 (by rw [ec11]; decide) (by rw [ec11]; decide) (by rw [ec11]; rfl) (by decide) ?_
    replace hw := hw.1 c11
    refine lv_aload_n hx hb dX5_planned_90 rfl (lv_at hl 0 rfl) ?_
    refine k_get 1 X hk (wg_0 G _) rfl (hz_wsX50 _) (Nat.le_of_ble_eq_true rfl) (List.mem_cons_of_mem _ (aw_r1 _ (List.mem_of_getElem? (i := 20) rfl))) rfl dX5_planned_91 ?_
    refine lv_aload_n hx hb dX5_planned_94 rfl (lv_at hl 0 rfl) ?_
    refine k_get 1 X hk (wg_0 G _) rfl (hz_wsX50 _) (Nat.le_of_ble_eq_true rfl) (List.mem_cons_of_mem _ (aw_r1 _ (List.mem_of_getElem? (i := 20) rfl))) rfl dX5_planned_95 ?_
    refine k_get 5 X hk (wg_2 G _) rfl (hz_wsX10 _) (Nat.le_of_ble_eq_true rfl) (List.mem_cons_of_mem _ (aw_r44 _ (List.mem_of_getElem? (i := 22) rfl))) rfl dX5_planned_98 ?_
    refine k_callVi (rest := []) X hk (c_X1_sum_k10 l G _  _ hw) (cwV 1 X.1.2.2.2.2 (gzV (aw_r44 _ (List.mem_of_getElem? (i := 23) rfl)) (aw_r45 _ (List.mem_of_getElem? (i := 0) rfl)) (aw_r45 _ (List.mem_of_getElem? (i := 1) rfl)) (aw_r1 _ (List.mem_of_getElem? (i := 19) rfl)) (aw_r45 _ (List.mem_of_getElem? (i := 2) rfl))) rfl rfl rfl hd_X1_sum ⟨(Nat.le_of_ble_eq_true rfl), (Nat.le_of_ble_eq_true rfl)⟩) (wg_2 G _) rfl rfl hl.1 rfl (Nat.le_of_ble_eq_true rfl) dX5_planned_101 ⟨Nat.zero_le _, Nat.zero_le _⟩ (fun r13 σ12 H locs hw hk => ?_)
    exact k_iret X hk hw dX5_planned_104
  replace hw := hw.2
  have ec3 := lv_neT (a := 0) c3 rfl
  have ec6 := lv_neT (a := 1) c6 rfl
  have ec7 := lv_neT (a := 2) c7 rfl
  have ec8 := lv_neT (a := 3) c8 rfl
  have ec11 := lv_neT (a := 4) c11 rfl
  refine lv_tableOut (tgt := 105) hx hb dX5_planned_8 (by omega) (by decide) ?_
  replace hw := hw c3 c6 c7 c8 c11
  refine lv_iconst (v := (-1 : Int32)) hx hb dX5_planned_105 (by decide) ?_
  exact k_iret X hk hw dX5_planned_106
def rm_X5_there : Room := { frames := 6, cells := 0, slots := 0, locals := 137 }
abbrev wz_X5_there : List Cond := Cond.code yX5_there cX5_there 4 (some .int) :: wsA
theorem hd_X5_there : yX5_there.cls = RX5 ∧ yX5_there.cls ≠ "java/lang/invoke/MethodHandle" ∧ yX5_there.cls ≠ "java/lang/invoke/VarHandle" ∧ (parseMethodDescriptor yX5_there.desc).map (fun d => d.parameters.length) = some 3 := by decide +kernel
def wp_X5_there (σ : Sg) (p1 p2 p3 : Int32) (Q : Int32 → Sg → Prop) : Prop := wp_X3_hasPlace σ p1 (fun r2 σ1 => (r2 = 0 → (Q (-1 : Int32) σ1)) ∧ (¬ (r2 = 0) → ((p2 < 0 → (Q (-1 : Int32) σ1)) ∧ (¬ (p2 < 0) → (((50 : Int32) < p2 → (Q (-1 : Int32) σ1)) ∧ (¬ ((50 : Int32) < p2) → ((p3 < 0 → (Q (-1 : Int32) σ1)) ∧ (¬ (p3 < 0) → ((p3 ≤ (2 : Int32) → (wp_X1_judge σ1  (fun σ8 => (p2 ≤ (σ8 2 2) → (wp_X1_play σ8 p2 (fun σ11 => (p3 = 0 → (vp_in p1 8 ∧ (Q (σ11 10 (p1).toNatClampNeg) σ11))) ∧ (¬ (p3 = 0) → ((p3 = (1 : Int32) → (vp_in p1 8 ∧ (Q (σ11 11 (p1).toNatClampNeg) σ11))) ∧ (¬ (p3 = (1 : Int32)) → (vp_in p1 8 ∧ (Q (σ11 12 (p1).toNatClampNeg) σ11)))))))) ∧ (¬ (p2 ≤ (σ8 2 2)) → (Q (-1 : Int32) σ8))))) ∧ (¬ (p3 ≤ (2 : Int32)) → (Q (-1 : Int32) σ1)))))))))))
set_option maxHeartbeats 4000000 in
set_option maxRecDepth 100000 in
theorem c_X5_there (l : Launch) (G : Gw) (σ : Sg) (p1 p2 p3 : Int32) (Q : Int32 → Sg → Prop) (hw : wp_X5_there σ p1 p2 p3 Q) : MetI l yX5_there wz_X5_there rm_X5_there G σ [.ref (G.1 0), .int p1, .int p2, .int p3] Q := by
  refine MetI.of cX5_there 4 (some .int) (by decide) rfl (Nat.le_of_ble_eq_true rfl) ?_
  intro p e s m below meth c X hk ls hl
  have X : KC p m meth c cX5_there 4 s _ wz_X5_there RX5 (some .int) G := X
  have hl : lv_has ls 4 [(0, .ref (G.1 0)), (1, .int p1), (2, .int p2), (3, .int p3)] := hl
  unfold wp_X5_there at hw
  have hx := X.1.1
  have hb := X.1.2.1
  refine lv_aload_n hx hb dX5_there_0 rfl (lv_at hl 0 rfl) ?_
  refine k_get 0 X hk (wg_0 G _) rfl (hz_wsX50 _) (Nat.le_of_ble_eq_true rfl) (List.mem_cons_of_mem _ (aw_r1 _ (List.mem_of_getElem? (i := 16) rfl))) rfl dX5_there_1 ?_
  refine lv_iload_n hx hb dX5_there_4 rfl (lv_at hl 1 rfl) ?_
  refine k_callVi (rest := []) X hk (c_X3_hasPlace l G _ _ _ hw) (cwV 1 X.1.2.2.2.2 (gzV (aw_r20 _ (List.mem_of_getElem? (i := 18) rfl)) (aw_r12 _ (List.mem_of_getElem? (i := 11) rfl)) (aw_r12 _ (List.mem_of_getElem? (i := 12) rfl)) (aw_r1 _ (List.mem_of_getElem? (i := 15) rfl)) (aw_r12 _ (List.mem_of_getElem? (i := 13) rfl))) rfl rfl rfl hd_X3_hasPlace ⟨(Nat.le_of_ble_eq_true rfl), (Nat.le_of_ble_eq_true rfl)⟩) (wg_1 G _) rfl rfl hl.1 rfl (Nat.le_of_ble_eq_true rfl) dX5_there_5 ⟨Nat.zero_le _, Nat.zero_le _⟩ (fun r2 σ1 H locs hw hk => ?_)
  refine lv_if_eq (tgt := 30) hx hb dX5_there_8 (by decide) (fun c3 => ?_) (fun c3 => ?_)
  · replace hw := hw.1 c3
    refine lv_iconst (v := (-1 : Int32)) hx hb dX5_there_30 (by decide) ?_
    exact k_iret X hk hw dX5_there_31
  · replace hw := hw.2 c3
    refine lv_iload_n hx hb dX5_there_11 rfl (lv_at hl 2 rfl) ?_
    refine lv_if_lt (tgt := 30) hx hb dX5_there_12 (by decide) (fun c4 => ?_) (fun c4 => ?_)
    · replace hw := hw.1 c4
      refine lv_iconst (v := (-1 : Int32)) hx hb dX5_there_30 (by decide) ?_
      exact k_iret X hk hw dX5_there_31
    · replace hw := hw.2 c4
      refine lv_iload_n hx hb dX5_there_15 rfl (lv_at hl 2 rfl) ?_
      refine lv_bipush (v := (50 : Int32)) hx hb dX5_there_16 (by decide) ?_
      refine lv_icmp_gt (tgt := 30) hx hb dX5_there_18 (by decide) (fun c5 => ?_) (fun c5 => ?_)
      · replace hw := hw.1 c5
        refine lv_iconst (v := (-1 : Int32)) hx hb dX5_there_30 (by decide) ?_
        exact k_iret X hk hw dX5_there_31
      · replace hw := hw.2 c5
        refine lv_iload_n hx hb dX5_there_21 rfl (lv_at hl 3 rfl) ?_
        refine lv_if_lt (tgt := 30) hx hb dX5_there_22 (by decide) (fun c6 => ?_) (fun c6 => ?_)
        · replace hw := hw.1 c6
          refine lv_iconst (v := (-1 : Int32)) hx hb dX5_there_30 (by decide) ?_
          exact k_iret X hk hw dX5_there_31
        · replace hw := hw.2 c6
          refine lv_iload_n hx hb dX5_there_25 rfl (lv_at hl 3 rfl) ?_
          refine lv_iconst (v := (2 : Int32)) hx hb dX5_there_26 (by decide) ?_
          refine lv_icmp_le (tgt := 32) hx hb dX5_there_27 (by decide) (fun c7 => ?_) (fun c7 => ?_)
          · replace hw := hw.1 c7
            refine lv_aload_n hx hb dX5_there_32 rfl (lv_at hl 0 rfl) ?_
            refine k_get 1 X hk (wg_0 G _) rfl (hz_wsX50 _) (Nat.le_of_ble_eq_true rfl) (List.mem_cons_of_mem _ (aw_r1 _ (List.mem_of_getElem? (i := 20) rfl))) rfl dX5_there_33 ?_
            refine k_callVv (rest := []) X hk (c_X1_judge l G _  _ hw) (cwV 0 X.1.2.2.2.2 (gzV (aw_r41 _ (List.mem_of_getElem? (i := 5) rfl)) (aw_r41 _ (List.mem_of_getElem? (i := 6) rfl)) (aw_r41 _ (List.mem_of_getElem? (i := 7) rfl)) (aw_r1 _ (List.mem_of_getElem? (i := 19) rfl)) (aw_r41 _ (List.mem_of_getElem? (i := 8) rfl))) rfl rfl rfl hd_X1_judge ⟨(Nat.le_of_ble_eq_true rfl), (Nat.le_of_ble_eq_true rfl)⟩) (wg_2 G _) rfl rfl hl.1 rfl (Nat.le_of_ble_eq_true rfl) dX5_there_36 ⟨Nat.zero_le _, Nat.zero_le _⟩ (fun σ8 H locs hw hk => ?_)
            refine lv_iload_n hx hb dX5_there_39 rfl (lv_at hl 2 rfl) ?_
            refine lv_aload_n hx hb dX5_there_40 rfl (lv_at hl 0 rfl) ?_
            refine k_get 1 X hk (wg_0 G _) rfl (hz_wsX50 _) (Nat.le_of_ble_eq_true rfl) (List.mem_cons_of_mem _ (aw_r1 _ (List.mem_of_getElem? (i := 20) rfl))) rfl dX5_there_41 ?_
            refine k_get 2 X hk (wg_2 G _) rfl (hz_wsX10 _) (Nat.le_of_ble_eq_true rfl) (List.mem_cons_of_mem _ (aw_r45 _ (List.mem_of_getElem? (i := 15) rfl))) rfl dX5_there_44 ?_
            refine lv_icmp_le (tgt := 52) hx hb dX5_there_47 (by decide) (fun c10 => ?_) (fun c10 => ?_)
            · replace hw := hw.1 c10
              refine lv_aload_n hx hb dX5_there_52 rfl (lv_at hl 0 rfl) ?_
              refine k_get 1 X hk (wg_0 G _) rfl (hz_wsX50 _) (Nat.le_of_ble_eq_true rfl) (List.mem_cons_of_mem _ (aw_r1 _ (List.mem_of_getElem? (i := 20) rfl))) rfl dX5_there_53 ?_
              refine lv_iload_n hx hb dX5_there_56 rfl (lv_at hl 2 rfl) ?_
              refine k_callVv (rest := []) X hk (c_X1_play l G _ _ _ hw) (cwV 1 X.1.2.2.2.2 (gzV (aw_r45 _ (List.mem_of_getElem? (i := 16) rfl)) (aw_r41 _ (List.mem_of_getElem? (i := 13) rfl)) (aw_r41 _ (List.mem_of_getElem? (i := 14) rfl)) (aw_r1 _ (List.mem_of_getElem? (i := 19) rfl)) (aw_r41 _ (List.mem_of_getElem? (i := 15) rfl))) rfl rfl rfl hd_X1_play ⟨(Nat.le_of_ble_eq_true rfl), (Nat.le_of_ble_eq_true rfl)⟩) (wg_2 G _) rfl rfl hl.1 rfl (Nat.le_of_ble_eq_true rfl) dX5_there_57 ⟨Nat.zero_le _, Nat.zero_le _⟩ (fun σ11 H locs hw hk => ?_)
              refine lv_iload_n hx hb dX5_there_60 rfl (lv_at hl 3 rfl) ?_
              refine lv_if_ne (tgt := 74) hx hb dX5_there_61 (by decide) (fun c13 => ?_) (fun c13 => ?_)
              · replace hw := hw.2 c13
                refine lv_iload_n hx hb dX5_there_74 rfl (lv_at hl 3 rfl) ?_
                refine lv_iconst (v := (1 : Int32)) hx hb dX5_there_75 (by decide) ?_
                refine lv_icmp_ne (tgt := 91) hx hb dX5_there_76 (by decide) (fun c14 => ?_) (fun c14 => ?_)
                · replace hw := hw.2 c14
                  refine lv_aload_n hx hb dX5_there_91 rfl (lv_at hl 0 rfl) ?_
                  refine k_get 1 X hk (wg_0 G _) rfl (hz_wsX50 _) (Nat.le_of_ble_eq_true rfl) (List.mem_cons_of_mem _ (aw_r1 _ (List.mem_of_getElem? (i := 20) rfl))) rfl dX5_there_92 ?_
                  refine k_get 7 X hk (wg_2 G _) rfl (hz_wsX10 _) (Nat.le_of_ble_eq_true rfl) (List.mem_cons_of_mem _ (aw_r44 _ (List.mem_of_getElem? (i := 18) rfl))) rfl dX5_there_95 ?_
                  refine lv_iload_n hx hb dX5_there_98 rfl (lv_at hl 1 rfl) ?_
                  refine k_iald X hk (wg_12 G _) hw.1 dX5_there_99 ?_
                  replace hw := hw.2
                  exact k_iret X hk hw dX5_there_100
                · replace hw := hw.1 c14
                  refine lv_aload_n hx hb dX5_there_79 rfl (lv_at hl 0 rfl) ?_
                  refine k_get 1 X hk (wg_0 G _) rfl (hz_wsX50 _) (Nat.le_of_ble_eq_true rfl) (List.mem_cons_of_mem _ (aw_r1 _ (List.mem_of_getElem? (i := 20) rfl))) rfl dX5_there_80 ?_
                  refine k_get 6 X hk (wg_2 G _) rfl (hz_wsX10 _) (Nat.le_of_ble_eq_true rfl) (List.mem_cons_of_mem _ (aw_r44 _ (List.mem_of_getElem? (i := 21) rfl))) rfl dX5_there_83 ?_
                  refine lv_iload_n hx hb dX5_there_86 rfl (lv_at hl 1 rfl) ?_
                  refine k_iald X hk (wg_11 G _) hw.1 dX5_there_87 ?_
                  replace hw := hw.2
                  refine lv_goto (tgt := 100) hx hb dX5_there_88 (by decide) ?_
                  exact k_iret X hk hw dX5_there_100
              · replace hw := hw.1 c13
                refine lv_aload_n hx hb dX5_there_64 rfl (lv_at hl 0 rfl) ?_
                refine k_get 1 X hk (wg_0 G _) rfl (hz_wsX50 _) (Nat.le_of_ble_eq_true rfl) (List.mem_cons_of_mem _ (aw_r1 _ (List.mem_of_getElem? (i := 20) rfl))) rfl dX5_there_65 ?_
                refine k_get 5 X hk (wg_2 G _) rfl (hz_wsX10 _) (Nat.le_of_ble_eq_true rfl) (List.mem_cons_of_mem _ (aw_r44 _ (List.mem_of_getElem? (i := 22) rfl))) rfl dX5_there_68 ?_
                refine lv_iload_n hx hb dX5_there_71 rfl (lv_at hl 1 rfl) ?_
                refine k_iald X hk (wg_10 G _) hw.1 dX5_there_72 ?_
                replace hw := hw.2
                exact k_iret X hk hw dX5_there_73
            · replace hw := hw.2 c10
              refine lv_iconst (v := (-1 : Int32)) hx hb dX5_there_50 (by decide) ?_
              exact k_iret X hk hw dX5_there_51
          · replace hw := hw.2 c7
            refine lv_iconst (v := (-1 : Int32)) hx hb dX5_there_30 (by decide) ?_
            exact k_iret X hk hw dX5_there_31
