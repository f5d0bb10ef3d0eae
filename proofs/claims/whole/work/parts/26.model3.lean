def rm_X6_finds : Room := { frames := 0, cells := 0, slots := 0, locals := 0 }
abbrev wz_X6_finds : List Cond := Cond.code yX6_finds cX6_finds 4 (some .boolean) :: wsA
theorem hd_X6_finds : yX6_finds.cls = RX6 ∧ yX6_finds.cls ≠ "java/lang/invoke/MethodHandle" ∧ yX6_finds.cls ≠ "java/lang/invoke/VarHandle" ∧ (parseMethodDescriptor yX6_finds.desc).map (fun d => d.parameters.length) = some 0 := by decide +kernel
def wp_X6_finds_152 (Q : Int32 → Sg → Prop)  (σ : Sg) : Prop := vp_in (1 : Int32) 346 ∧ (bz (σ 40 ((1 : Int32)).toNatClampNeg) ∧ Q (σ 40 ((1 : Int32)).toNatClampNeg) σ)
set_option maxHeartbeats 4000000 in
set_option maxRecDepth 100000 in
theorem t_X6_finds_152 {p : Program} {l : Launch} {e : Env} {s : State} {m : MethodId} {args : Array Value} {below : List Frame} {meth : Method} {c : Code} {G : Gw} (X : KC p m meth c cX6_finds 4 s args wz_X6_finds RX6 (some .boolean) G) (Q : Int32 → Sg → Prop)  : ∀ (σ : Sg) (H : Heap) (locs : List Loc) (ls : Array Slot), wp_X6_finds_152 Q   σ → WK G s H locs σ → lv_has ls 4 [(0, .ref (G.1 30))] → W p l e rm_X6_finds s m args below meth c H locs 0 0 (ZI below args s G Q) (F0 m 152 ls []) := by
  have hx := X.1.1
  have hb := X.1.2.1
  intro σ H locs ls hw hk hl
  unfold wp_X6_finds_152 at hw
  refine lv_aload_n hx hb dX6_finds_152 rfl (lv_at hl 0 rfl) ?_
  refine k_get 15 X hk (wg_30 G _) rfl (hz_wsX60 _) (Nat.le_of_ble_eq_true rfl) (List.mem_cons_of_mem _ (aw_r5 _ (List.mem_of_getElem? (i := 2) rfl))) rfl dX6_finds_153 ?_
  refine lv_iconst (v := (1 : Int32)) hx hb dX6_finds_156 (by decide) ?_
  refine k_zald X hk (wg_40 G _) hw.1 dX6_finds_157 ?_
  replace hw := hw.2
  exact k_zret X hk hw dX6_finds_158
def wp_X6_finds_136 (Q : Int32 → Sg → Prop) (K40 : Int32 → Int32 → Sg → Prop) (K66 : Int32 → Int32 → Int32 → Sg → Prop) (x1 x2 x3 : Int32) (σ : Sg) : Prop := vp_in x3 4000 ∧ (∀ x3_8 : Int32, x3_8 = (σ 35 (x3).toNatClampNeg) → (K66 x1 x2 x3_8 σ))
set_option maxHeartbeats 4000000 in
set_option maxRecDepth 100000 in
theorem t_X6_finds_136 {p : Program} {l : Launch} {e : Env} {s : State} {m : MethodId} {args : Array Value} {below : List Frame} {meth : Method} {c : Code} {G : Gw} (X : KC p m meth c cX6_finds 4 s args wz_X6_finds RX6 (some .boolean) G) (Q : Int32 → Sg → Prop) (K40 : Int32 → Int32 → Sg → Prop) (K66 : Int32 → Int32 → Int32 → Sg → Prop) (hK40 : ∀ (σ : Sg) (x1 x2 : Int32) (H : Heap) (locs : List Loc) (ls : Array Slot), K40 x1 x2 σ → WK G s H locs σ → lv_has ls 4 [(0, .ref (G.1 30)), (1, .int x1), (2, .int x2)] → W p l e rm_X6_finds s m args below meth c H locs 0 0 (ZI below args s G Q) (F0 m 40 ls [])) (hK66 : ∀ (σ : Sg) (x1 x2 x3 : Int32) (H : Heap) (locs : List Loc) (ls : Array Slot), K66 x1 x2 x3 σ → WK G s H locs σ → lv_has ls 4 [(0, .ref (G.1 30)), (1, .int x1), (2, .int x2), (3, .int x3)] → W p l e rm_X6_finds s m args below meth c H locs 0 0 (ZI below args s G Q) (F0 m 66 ls [])) : ∀ (σ : Sg) (x1 x2 x3 : Int32) (H : Heap) (locs : List Loc) (ls : Array Slot), wp_X6_finds_136 Q K40 K66 x1 x2 x3 σ → WK G s H locs σ → lv_has ls 4 [(0, .ref (G.1 30)), (1, .int x1), (2, .int x2), (3, .int x3)] → W p l e rm_X6_finds s m args below meth c H locs 0 0 (ZI below args s G Q) (F0 m 136 ls []) := by
  have hx := X.1.1
  have hb := X.1.2.1
  intro σ x1 x2 x3 H locs ls hw hk hl
  unfold wp_X6_finds_136 at hw
  refine lv_aload_n hx hb dX6_finds_136 rfl (lv_at hl 0 rfl) ?_
  refine k_get 10 X hk (wg_30 G _) rfl (hz_wsX60 _) (Nat.le_of_ble_eq_true rfl) (List.mem_cons_of_mem _ (aw_r4 _ (List.mem_of_getElem? (i := 20) rfl))) rfl dX6_finds_137 ?_
  refine lv_iload_n hx hb dX6_finds_140 rfl (lv_at hl 3 rfl) ?_
  refine k_iald X hk (wg_35 G _) hw.1 dX6_finds_141 ?_
  replace hw := hw.2
  refine lv_topi (fun x3_8 ex3_8 => ?_)
  replace hw := hw x3_8 ex3_8
  refine lv_istore_n (lv' := [(3, .int x3_8), (0, .ref (G.1 30)), (1, .int x1), (2, .int x2)]) hx hb dX6_finds_142 rfl hl (Nat.le_of_ble_eq_true rfl) rfl (fun ls hl => ?_)
  refine lv_goto (tgt := 66) hx hb dX6_finds_143 (by decide) ?_
  exact hK66 _ _ _ _ _ _ _ hw hk (lv_sub hl [1, 2, 3, 0] rfl)
def wp_X6_finds_66 (Q : Int32 → Sg → Prop) (K40 : Int32 → Int32 → Sg → Prop) : Nat → Int32 → Int32 → Int32 → Sg → Prop
  | 0, _, _, _, _ => False
  | n + 1, x1, x2, x3, σ => (x3 = (-1 : Int32) → (∀ x2_6 : Int32, x2_6 = (x2 + (1 : Int32)) → (K40 x1 x2_6 σ))) ∧ (¬ (x3 = (-1 : Int32)) → (vp_in x3 4000 ∧ (((σ 37 (x3).toNatClampNeg) = 0 → (wp_X6_finds_136 Q K40 (fun z1 z2 z3 σ => wp_X6_finds_66 Q K40 n z1 z2 z3 σ) x1 x2 x3 σ)) ∧ (¬ ((σ 37 (x3).toNatClampNeg) = 0) → (vp_in x3 4000 ∧ (vp_in (σ 36 (x3).toNatClampNeg) 346 ∧ (((σ 40 ((σ 36 (x3).toNatClampNeg)).toNatClampNeg) = 0 → (vp_in x3 4000 ∧ (vp_in (σ 36 (x3).toNatClampNeg) 346 ∧ (vp_in x3 4000 ∧ (vp_in ((put σ 40 ((σ 36 (x3).toNatClampNeg)).toNatClampNeg (vp_nar .boolean (1 : Int32))) 36 (x3).toNatClampNeg) 346 ∧ (vp_in x3 4000 ∧ (vp_in x1 346 ∧ (∀ x1_10 : Int32, x1_10 = (x1 + (1 : Int32)) → (wp_X6_finds_136 Q K40 (fun z1 z2 z3 σ => wp_X6_finds_66 Q K40 n z1 z2 z3 σ) x1_10 x2 x3 (put (put (put σ 40 ((σ 36 (x3).toNatClampNeg)).toNatClampNeg (vp_nar .boolean (1 : Int32))) 38 (((put σ 40 ((σ 36 (x3).toNatClampNeg)).toNatClampNeg (vp_nar .boolean (1 : Int32))) 36 (x3).toNatClampNeg)).toNatClampNeg x3) 39 (x1).toNatClampNeg ((put (put σ 40 ((σ 36 (x3).toNatClampNeg)).toNatClampNeg (vp_nar .boolean (1 : Int32))) 38 (((put σ 40 ((σ 36 (x3).toNatClampNeg)).toNatClampNeg (vp_nar .boolean (1 : Int32))) 36 (x3).toNatClampNeg)).toNatClampNeg x3) 36 (x3).toNatClampNeg))))))))))) ∧ (¬ ((σ 40 ((σ 36 (x3).toNatClampNeg)).toNatClampNeg) = 0) → (wp_X6_finds_136 Q K40 (fun z1 z2 z3 σ => wp_X6_finds_66 Q K40 n z1 z2 z3 σ) x1 x2 x3 σ)))))))))
set_option maxHeartbeats 4000000 in
set_option maxRecDepth 100000 in
theorem t_X6_finds_66 {p : Program} {l : Launch} {e : Env} {s : State} {m : MethodId} {args : Array Value} {below : List Frame} {meth : Method} {c : Code} {G : Gw} (X : KC p m meth c cX6_finds 4 s args wz_X6_finds RX6 (some .boolean) G) (Q : Int32 → Sg → Prop) (K40 : Int32 → Int32 → Sg → Prop) (hK40 : ∀ (σ : Sg) (x1 x2 : Int32) (H : Heap) (locs : List Loc) (ls : Array Slot), K40 x1 x2 σ → WK G s H locs σ → lv_has ls 4 [(0, .ref (G.1 30)), (1, .int x1), (2, .int x2)] → W p l e rm_X6_finds s m args below meth c H locs 0 0 (ZI below args s G Q) (F0 m 40 ls [])) : ∀ (n : Nat) (σ : Sg) (x1 x2 x3 : Int32) (H : Heap) (locs : List Loc) (ls : Array Slot), wp_X6_finds_66 Q K40 n x1 x2 x3 σ → WK G s H locs σ → lv_has ls 4 [(0, .ref (G.1 30)), (1, .int x1), (2, .int x2), (3, .int x3)] → W p l e rm_X6_finds s m args below meth c H locs 0 0 (ZI below args s G Q) (F0 m 66 ls []) := by
  have hx := X.1.1
  have hb := X.1.2.1
  intro n
  induction n with
  | zero =>
    intro σ x1 x2 x3 H locs ls hw hk hl
    exact False.elim hw
  | succ n ih =>
    intro σ x1 x2 x3 H locs ls hw hk hl
    rw [wp_X6_finds_66] at hw
    refine lv_iload_n hx hb dX6_finds_66 rfl (lv_at hl 3 rfl) ?_
    refine lv_iconst (v := (-1 : Int32)) hx hb dX6_finds_67 (by decide) ?_
    refine lv_icmp_eq (tgt := 146) hx hb dX6_finds_68 (by decide) (fun c5 => ?_) (fun c5 => ?_)
    · replace hw := hw.1 c5
      obtain ⟨x2_6, ex2_6⟩ : ∃ y : Int32, y = (x2 + (1 : Int32)) := ⟨_, rfl⟩
      replace hw := hw x2_6 ex2_6
      refine lv_iinc (v := x2_6) (lv' := [(2, .int x2_6), (0, .ref (G.1 30)), (1, .int x1), (3, .int x3)]) hx hb dX6_finds_146 hl (k := 2) rfl (by rw [ex2_6]; rfl) (Nat.le_of_ble_eq_true rfl) rfl (fun ls hl => ?_)
      refine lv_goto (tgt := 40) hx hb dX6_finds_149 (by decide) ?_
      exact hK40 _ _ _ _ _ _ hw hk (lv_sub hl [1, 2, 0] rfl)
    · replace hw := hw.2 c5
      refine lv_aload_n hx hb dX6_finds_71 rfl (lv_at hl 0 rfl) ?_
      refine k_get 12 X hk (wg_30 G _) rfl (hz_wsX60 _) (Nat.le_of_ble_eq_true rfl) (List.mem_cons_of_mem _ (aw_r4 _ (List.mem_of_getElem? (i := 22) rfl))) rfl dX6_finds_72 ?_
      refine lv_iload_n hx hb dX6_finds_75 rfl (lv_at hl 3 rfl) ?_
      refine k_iald X hk (wg_37 G _) hw.1 dX6_finds_76 ?_
      replace hw := hw.2
      refine lv_if_eq (tgt := 136) hx hb dX6_finds_77 (by decide) (fun c7 => ?_) (fun c7 => ?_)
      · replace hw := hw.1 c7
        exact t_X6_finds_136 X Q _ _ hK40 ih _ _ _ _ _ _ _ hw hk hl
      · replace hw := hw.2 c7
        refine lv_aload_n hx hb dX6_finds_80 rfl (lv_at hl 0 rfl) ?_
        refine k_get 15 X hk (wg_30 G _) rfl (hz_wsX60 _) (Nat.le_of_ble_eq_true rfl) (List.mem_cons_of_mem _ (aw_r5 _ (List.mem_of_getElem? (i := 2) rfl))) rfl dX6_finds_81 ?_
        refine lv_aload_n hx hb dX6_finds_84 rfl (lv_at hl 0 rfl) ?_
        refine k_get 11 X hk (wg_30 G _) rfl (hz_wsX60 _) (Nat.le_of_ble_eq_true rfl) (List.mem_cons_of_mem _ (aw_r4 _ (List.mem_of_getElem? (i := 21) rfl))) rfl dX6_finds_85 ?_
        refine lv_iload_n hx hb dX6_finds_88 rfl (lv_at hl 3 rfl) ?_
        refine k_iald X hk (wg_36 G _) hw.1 dX6_finds_89 ?_
        replace hw := hw.2
        refine k_zald X hk (wg_40 G _) hw.1 dX6_finds_90 ?_
        replace hw := hw.2
        refine lv_if_eq (tgt := 97) hx hb dX6_finds_91 (by decide) (fun c9 => ?_) (fun c9 => ?_)
        · replace hw := hw.1 c9
          refine lv_aload_n hx hb dX6_finds_97 rfl (lv_at hl 0 rfl) ?_
          refine k_get 15 X hk (wg_30 G _) rfl (hz_wsX60 _) (Nat.le_of_ble_eq_true rfl) (List.mem_cons_of_mem _ (aw_r5 _ (List.mem_of_getElem? (i := 2) rfl))) rfl dX6_finds_98 ?_
          refine lv_aload_n hx hb dX6_finds_101 rfl (lv_at hl 0 rfl) ?_
          refine k_get 11 X hk (wg_30 G _) rfl (hz_wsX60 _) (Nat.le_of_ble_eq_true rfl) (List.mem_cons_of_mem _ (aw_r4 _ (List.mem_of_getElem? (i := 21) rfl))) rfl dX6_finds_102 ?_
          refine lv_iload_n hx hb dX6_finds_105 rfl (lv_at hl 3 rfl) ?_
          refine k_iald X hk (wg_36 G _) hw.1 dX6_finds_106 ?_
          replace hw := hw.2
          refine lv_iconst (v := (1 : Int32)) hx hb dX6_finds_107 (by decide) ?_
          refine k_zast X hk (wg_40 G _) (ws_40 G _) rfl hw.1 dX6_finds_108 (fun H locs hk => ?_)
          replace hw := hw.2
          refine lv_aload_n hx hb dX6_finds_109 rfl (lv_at hl 0 rfl) ?_
          refine k_get 13 X hk (wg_30 G _) rfl (hz_wsX60 _) (Nat.le_of_ble_eq_true rfl) (List.mem_cons_of_mem _ (aw_r4 _ (List.mem_of_getElem? (i := 23) rfl))) rfl dX6_finds_110 ?_
          refine lv_aload_n hx hb dX6_finds_113 rfl (lv_at hl 0 rfl) ?_
          refine k_get 11 X hk (wg_30 G _) rfl (hz_wsX60 _) (Nat.le_of_ble_eq_true rfl) (List.mem_cons_of_mem _ (aw_r4 _ (List.mem_of_getElem? (i := 21) rfl))) rfl dX6_finds_114 ?_
          refine lv_iload_n hx hb dX6_finds_117 rfl (lv_at hl 3 rfl) ?_
          refine k_iald X hk (wg_36 G _) hw.1 dX6_finds_118 ?_
          replace hw := hw.2
          refine lv_iload_n hx hb dX6_finds_119 rfl (lv_at hl 3 rfl) ?_
          refine k_iast X hk (wg_38 G _) (ws_38 G _) rfl hw.1 dX6_finds_120 (fun H locs hk => ?_)
          replace hw := hw.2
          refine lv_aload_n hx hb dX6_finds_121 rfl (lv_at hl 0 rfl) ?_
          refine k_get 14 X hk (wg_30 G _) rfl (hz_wsX60 _) (Nat.le_of_ble_eq_true rfl) (List.mem_cons_of_mem _ (aw_r5 _ (List.mem_of_getElem? (i := 0) rfl))) rfl dX6_finds_122 ?_
          refine lv_iload_n hx hb dX6_finds_125 rfl (lv_at hl 1 rfl) ?_
          refine lv_aload_n hx hb dX6_finds_126 rfl (lv_at hl 0 rfl) ?_
          refine k_get 11 X hk (wg_30 G _) rfl (hz_wsX60 _) (Nat.le_of_ble_eq_true rfl) (List.mem_cons_of_mem _ (aw_r4 _ (List.mem_of_getElem? (i := 21) rfl))) rfl dX6_finds_127 ?_
          refine lv_iload_n hx hb dX6_finds_130 rfl (lv_at hl 3 rfl) ?_
          refine k_iald X hk (wg_36 G _) hw.1 dX6_finds_131 ?_
          replace hw := hw.2
          refine k_iast X hk (wg_39 G _) (ws_39 G _) rfl hw.1 dX6_finds_132 (fun H locs hk => ?_)
          replace hw := hw.2
          obtain ⟨x1_10, ex1_10⟩ : ∃ y : Int32, y = (x1 + (1 : Int32)) := ⟨_, rfl⟩
          replace hw := hw x1_10 ex1_10
          refine lv_iinc (v := x1_10) (lv' := [(1, .int x1_10), (0, .ref (G.1 30)), (2, .int x2), (3, .int x3)]) hx hb dX6_finds_133 hl (k := 1) rfl (by rw [ex1_10]; rfl) (Nat.le_of_ble_eq_true rfl) rfl (fun ls hl => ?_)
          exact t_X6_finds_136 X Q _ _ hK40 ih _ _ _ _ _ _ _ hw hk (lv_sub hl [1, 0, 2, 3] rfl)
        · replace hw := hw.2 c9
          refine lv_goto (tgt := 136) hx hb dX6_finds_94 (by decide) ?_
          exact t_X6_finds_136 X Q _ _ hK40 ih _ _ _ _ _ _ _ hw hk hl
def wp_X6_finds_40 (Q : Int32 → Sg → Prop)  : Nat → Int32 → Int32 → Sg → Prop
  | 0, _, _, _ => False
  | n + 1, x1, x2, σ => (x1 ≤ x2 → (wp_X6_finds_152 Q   σ)) ∧ (¬ (x1 ≤ x2) → (vp_in (1 : Int32) 346 ∧ (((σ 40 ((1 : Int32)).toNatClampNeg) = 0 → (vp_in x2 346 ∧ (vp_in (σ 39 (x2).toNatClampNeg) 346 ∧ (∀ x3_4 : Int32, x3_4 = (σ 34 ((σ 39 (x2).toNatClampNeg)).toNatClampNeg) → (∃ n0, wp_X6_finds_66 Q (fun z1 z2 σ => wp_X6_finds_40 Q  n z1 z2 σ) n0 x1 x2 x3_4 σ))))) ∧ (¬ ((σ 40 ((1 : Int32)).toNatClampNeg) = 0) → (wp_X6_finds_152 Q   σ)))))
set_option maxHeartbeats 4000000 in
set_option maxRecDepth 100000 in
theorem t_X6_finds_40 {p : Program} {l : Launch} {e : Env} {s : State} {m : MethodId} {args : Array Value} {below : List Frame} {meth : Method} {c : Code} {G : Gw} (X : KC p m meth c cX6_finds 4 s args wz_X6_finds RX6 (some .boolean) G) (Q : Int32 → Sg → Prop)  : ∀ (n : Nat) (σ : Sg) (x1 x2 : Int32) (H : Heap) (locs : List Loc) (ls : Array Slot), wp_X6_finds_40 Q  n x1 x2 σ → WK G s H locs σ → lv_has ls 4 [(0, .ref (G.1 30)), (1, .int x1), (2, .int x2)] → W p l e rm_X6_finds s m args below meth c H locs 0 0 (ZI below args s G Q) (F0 m 40 ls []) := by
  have hx := X.1.1
  have hb := X.1.2.1
  intro n
  induction n with
  | zero =>
    intro σ x1 x2 H locs ls hw hk hl
    exact False.elim hw
  | succ n ih =>
    intro σ x1 x2 H locs ls hw hk hl
    rw [wp_X6_finds_40] at hw
    refine lv_iload_n hx hb dX6_finds_40 rfl (lv_at hl 2 rfl) ?_
    refine lv_iload_n hx hb dX6_finds_41 rfl (lv_at hl 1 rfl) ?_
    refine lv_icmp_ge (tgt := 152) hx hb dX6_finds_42 (by decide) (fun c2 => ?_) (fun c2 => ?_)
    · replace hw := hw.1 c2
      exact t_X6_finds_152 X Q   _  _ _ _ hw hk (lv_sub hl [0] rfl)
    · replace hw := hw.2 c2
      refine lv_aload_n hx hb dX6_finds_45 rfl (lv_at hl 0 rfl) ?_
      refine k_get 15 X hk (wg_30 G _) rfl (hz_wsX60 _) (Nat.le_of_ble_eq_true rfl) (List.mem_cons_of_mem _ (aw_r5 _ (List.mem_of_getElem? (i := 2) rfl))) rfl dX6_finds_46 ?_
      refine lv_iconst (v := (1 : Int32)) hx hb dX6_finds_49 (by decide) ?_
      refine k_zald X hk (wg_40 G _) hw.1 dX6_finds_50 ?_
      replace hw := hw.2
      refine lv_if_ne (tgt := 152) hx hb dX6_finds_51 (by decide) (fun c3 => ?_) (fun c3 => ?_)
      · replace hw := hw.2 c3
        exact t_X6_finds_152 X Q   _  _ _ _ hw hk (lv_sub hl [0] rfl)
      · replace hw := hw.1 c3
        refine lv_aload_n hx hb dX6_finds_54 rfl (lv_at hl 0 rfl) ?_
        refine k_get 9 X hk (wg_30 G _) rfl (hz_wsX60 _) (Nat.le_of_ble_eq_true rfl) (List.mem_cons_of_mem _ (aw_r4 _ (List.mem_of_getElem? (i := 19) rfl))) rfl dX6_finds_55 ?_
        refine lv_aload_n hx hb dX6_finds_58 rfl (lv_at hl 0 rfl) ?_
        refine k_get 14 X hk (wg_30 G _) rfl (hz_wsX60 _) (Nat.le_of_ble_eq_true rfl) (List.mem_cons_of_mem _ (aw_r5 _ (List.mem_of_getElem? (i := 0) rfl))) rfl dX6_finds_59 ?_
        refine lv_iload_n hx hb dX6_finds_62 rfl (lv_at hl 2 rfl) ?_
        refine k_iald X hk (wg_39 G _) hw.1 dX6_finds_63 ?_
        replace hw := hw.2
        refine k_iald X hk (wg_34 G _) hw.1 dX6_finds_64 ?_
        replace hw := hw.2
        refine lv_topi (fun x3_4 ex3_4 => ?_)
        replace hw := hw x3_4 ex3_4
        refine lv_istore_n (lv' := [(3, .int x3_4), (0, .ref (G.1 30)), (1, .int x1), (2, .int x2)]) hx hb dX6_finds_65 rfl hl (Nat.le_of_ble_eq_true rfl) rfl (fun ls hl => ?_)
        obtain ⟨n0, hw⟩ := hw
        exact t_X6_finds_66 X Q _ ih n0 _ _ _ _ _ _ _ hw hk (lv_sub hl [1, 2, 3, 0] rfl)
def wp_X6_finds_2 (Q : Int32 → Sg → Prop)  : Nat → Int32 → Sg → Prop
  | 0, _, _ => False
  | n + 1, x1, σ => ((346 : Int32) ≤ x1 → (vp_in (0 : Int32) 346 ∧ (vp_in (0 : Int32) 346 ∧ (∃ n0, wp_X6_finds_40 Q  n0 (1 : Int32) (0 : Int32) (put (put σ 40 ((0 : Int32)).toNatClampNeg (vp_nar .boolean (1 : Int32))) 39 ((0 : Int32)).toNatClampNeg (0 : Int32)))))) ∧ (¬ ((346 : Int32) ≤ x1) → (vp_in x1 346 ∧ (∀ x1_11 : Int32, x1_11 = (x1 + (1 : Int32)) → (wp_X6_finds_2 Q  n x1_11 (put σ 40 (x1).toNatClampNeg (vp_nar .boolean (0 : Int32)))))))
set_option maxHeartbeats 4000000 in
set_option maxRecDepth 100000 in
theorem t_X6_finds_2 {p : Program} {l : Launch} {e : Env} {s : State} {m : MethodId} {args : Array Value} {below : List Frame} {meth : Method} {c : Code} {G : Gw} (X : KC p m meth c cX6_finds 4 s args wz_X6_finds RX6 (some .boolean) G) (Q : Int32 → Sg → Prop)  : ∀ (n : Nat) (σ : Sg) (x1 : Int32) (H : Heap) (locs : List Loc) (ls : Array Slot), wp_X6_finds_2 Q  n x1 σ → WK G s H locs σ → lv_has ls 4 [(0, .ref (G.1 30)), (1, .int x1)] → W p l e rm_X6_finds s m args below meth c H locs 0 0 (ZI below args s G Q) (F0 m 2 ls []) := by
  have hx := X.1.1
  have hb := X.1.2.1
  intro n
  induction n with
  | zero =>
    intro σ x1 H locs ls hw hk hl
    exact False.elim hw
  | succ n ih =>
    intro σ x1 H locs ls hw hk hl
    rw [wp_X6_finds_2] at hw
    refine lv_iload_n hx hb dX6_finds_2 rfl (lv_at hl 1 rfl) ?_
    refine lv_sipush (v := (346 : Int32)) hx hb dX6_finds_3 (by decide) ?_
    refine lv_icmp_ge (tgt := 22) hx hb dX6_finds_6 (by decide) (fun c1 => ?_) (fun c1 => ?_)
    · replace hw := hw.1 c1
      refine lv_aload_n hx hb dX6_finds_22 rfl (lv_at hl 0 rfl) ?_
      refine k_get 15 X hk (wg_30 G _) rfl (hz_wsX60 _) (Nat.le_of_ble_eq_true rfl) (List.mem_cons_of_mem _ (aw_r5 _ (List.mem_of_getElem? (i := 2) rfl))) rfl dX6_finds_23 ?_
      refine lv_iconst (v := (0 : Int32)) hx hb dX6_finds_26 (by decide) ?_
      refine lv_iconst (v := (1 : Int32)) hx hb dX6_finds_27 (by decide) ?_
      refine k_zast X hk (wg_40 G _) (ws_40 G _) rfl hw.1 dX6_finds_28 (fun H locs hk => ?_)
      replace hw := hw.2
      refine lv_aload_n hx hb dX6_finds_29 rfl (lv_at hl 0 rfl) ?_
      refine k_get 14 X hk (wg_30 G _) rfl (hz_wsX60 _) (Nat.le_of_ble_eq_true rfl) (List.mem_cons_of_mem _ (aw_r5 _ (List.mem_of_getElem? (i := 0) rfl))) rfl dX6_finds_30 ?_
      refine lv_iconst (v := (0 : Int32)) hx hb dX6_finds_33 (by decide) ?_
      refine lv_iconst (v := (0 : Int32)) hx hb dX6_finds_34 (by decide) ?_
      refine k_iast X hk (wg_39 G _) (ws_39 G _) rfl hw.1 dX6_finds_35 (fun H locs hk => ?_)
      replace hw := hw.2
      refine lv_iconst (v := (1 : Int32)) hx hb dX6_finds_36 (by decide) ?_
      refine lv_istore_n (lv' := [(1, .int (1 : Int32)), (0, .ref (G.1 30))]) hx hb dX6_finds_37 rfl hl (Nat.le_of_ble_eq_true rfl) rfl (fun ls hl => ?_)
      refine lv_iconst (v := (0 : Int32)) hx hb dX6_finds_38 (by decide) ?_
      refine lv_istore_n (lv' := [(2, .int (0 : Int32)), (1, .int (1 : Int32)), (0, .ref (G.1 30))]) hx hb dX6_finds_39 rfl hl (Nat.le_of_ble_eq_true rfl) rfl (fun ls hl => ?_)
      obtain ⟨n0, hw⟩ := hw
      exact t_X6_finds_40 X Q   n0 _ _ _ _ _ _ hw hk (lv_sub hl [2, 1, 0] rfl)
    · replace hw := hw.2 c1
      refine lv_aload_n hx hb dX6_finds_9 rfl (lv_at hl 0 rfl) ?_
      refine k_get 15 X hk (wg_30 G _) rfl (hz_wsX60 _) (Nat.le_of_ble_eq_true rfl) (List.mem_cons_of_mem _ (aw_r5 _ (List.mem_of_getElem? (i := 2) rfl))) rfl dX6_finds_10 ?_
      refine lv_iload_n hx hb dX6_finds_13 rfl (lv_at hl 1 rfl) ?_
      refine lv_iconst (v := (0 : Int32)) hx hb dX6_finds_14 (by decide) ?_
      refine k_zast X hk (wg_40 G _) (ws_40 G _) rfl hw.1 dX6_finds_15 (fun H locs hk => ?_)
      replace hw := hw.2
      obtain ⟨x1_11, ex1_11⟩ : ∃ y : Int32, y = (x1 + (1 : Int32)) := ⟨_, rfl⟩
      replace hw := hw x1_11 ex1_11
      refine lv_iinc (v := x1_11) (lv' := [(1, .int x1_11), (0, .ref (G.1 30))]) hx hb dX6_finds_16 hl (k := 1) rfl (by rw [ex1_11]; rfl) (Nat.le_of_ble_eq_true rfl) rfl (fun ls hl => ?_)
      refine lv_goto (tgt := 2) hx hb dX6_finds_19 (by decide) ?_
      exact ih _ _ _ _ _ hw hk (lv_sub hl [1, 0] rfl)
def wp_X6_finds (σ : Sg) (Q : Int32 → Sg → Prop) : Prop := ∃ n0, wp_X6_finds_2 Q  n0 (0 : Int32) σ
set_option maxHeartbeats 4000000 in
set_option maxRecDepth 100000 in
theorem c_X6_finds (l : Launch) (G : Gw) (σ : Sg) (Q : Int32 → Sg → Prop) (hw : wp_X6_finds σ  Q) : MetI l yX6_finds wz_X6_finds rm_X6_finds G σ [.ref (G.1 30)] Q := by
  refine MetI.of cX6_finds 4 (some .boolean) (by decide) rfl (Nat.le_of_ble_eq_true rfl) ?_
  intro p e s m below meth c X hk ls hl
  have X : KC p m meth c cX6_finds 4 s _ wz_X6_finds RX6 (some .boolean) G := X
  have hl : lv_has ls 4 [(0, .ref (G.1 30))] := hl
  unfold wp_X6_finds at hw
  have hx := X.1.1
  have hb := X.1.2.1
  refine lv_iconst (v := (0 : Int32)) hx hb dX6_finds_0 (by decide) ?_
  refine lv_istore_n (lv' := [(1, .int (0 : Int32)), (0, .ref (G.1 30))]) hx hb dX6_finds_1 rfl hl (Nat.le_of_ble_eq_true rfl) rfl (fun ls hl => ?_)
  obtain ⟨n0, hw⟩ := hw
  exact t_X6_finds_2 X Q   n0 _ _ _ _ _ hw hk (lv_sub hl [1, 0] rfl)
def rm_X6_pushes : Room := { frames := 1, cells := 0, slots := 0, locals := 21 }
abbrev wz_X6_pushes : List Cond := Cond.code yX6_pushes cX6_pushes 3 (some .int) :: wsA
theorem hd_X6_pushes : yX6_pushes.cls = RX6 ∧ yX6_pushes.cls ≠ "java/lang/invoke/MethodHandle" ∧ yX6_pushes.cls ≠ "java/lang/invoke/VarHandle" ∧ (parseMethodDescriptor yX6_pushes.desc).map (fun d => d.parameters.length) = some 0 := by decide +kernel
def wp_X6_pushes_44 (Q : Int32 → Sg → Prop)  : Nat → Int32 → Int32 → Sg → Prop
  | 0, _, _, _ => False
  | n + 1, x1, x2, σ => (x2 = 0 → (Q x1 σ)) ∧ (¬ (x2 = 0) → (vp_in x2 346 ∧ (vp_in (σ 38 (x2).toNatClampNeg) 4000 ∧ (vp_in (σ 38 (x2).toNatClampNeg) 4000 ∧ (vp_in x2 346 ∧ (vp_in (((put σ 37 ((σ 38 (x2).toNatClampNeg)).toNatClampNeg ((σ 37 ((σ 38 (x2).toNatClampNeg)).toNatClampNeg) - x1)) 38 (x2).toNatClampNeg) ^^^ (1 : Int32)) 4000 ∧ (vp_in (((put σ 37 ((σ 38 (x2).toNatClampNeg)).toNatClampNeg ((σ 37 ((σ 38 (x2).toNatClampNeg)).toNatClampNeg) - x1)) 38 (x2).toNatClampNeg) ^^^ (1 : Int32)) 4000 ∧ (vp_in x2 346 ∧ (vp_in (((put (put σ 37 ((σ 38 (x2).toNatClampNeg)).toNatClampNeg ((σ 37 ((σ 38 (x2).toNatClampNeg)).toNatClampNeg) - x1)) 37 ((((put σ 37 ((σ 38 (x2).toNatClampNeg)).toNatClampNeg ((σ 37 ((σ 38 (x2).toNatClampNeg)).toNatClampNeg) - x1)) 38 (x2).toNatClampNeg) ^^^ (1 : Int32))).toNatClampNeg (((put σ 37 ((σ 38 (x2).toNatClampNeg)).toNatClampNeg ((σ 37 ((σ 38 (x2).toNatClampNeg)).toNatClampNeg) - x1)) 37 ((((put σ 37 ((σ 38 (x2).toNatClampNeg)).toNatClampNeg ((σ 37 ((σ 38 (x2).toNatClampNeg)).toNatClampNeg) - x1)) 38 (x2).toNatClampNeg) ^^^ (1 : Int32))).toNatClampNeg) + x1)) 38 (x2).toNatClampNeg) ^^^ (1 : Int32)) 4000 ∧ (∀ x2_3 : Int32, x2_3 = ((put (put σ 37 ((σ 38 (x2).toNatClampNeg)).toNatClampNeg ((σ 37 ((σ 38 (x2).toNatClampNeg)).toNatClampNeg) - x1)) 37 ((((put σ 37 ((σ 38 (x2).toNatClampNeg)).toNatClampNeg ((σ 37 ((σ 38 (x2).toNatClampNeg)).toNatClampNeg) - x1)) 38 (x2).toNatClampNeg) ^^^ (1 : Int32))).toNatClampNeg (((put σ 37 ((σ 38 (x2).toNatClampNeg)).toNatClampNeg ((σ 37 ((σ 38 (x2).toNatClampNeg)).toNatClampNeg) - x1)) 37 ((((put σ 37 ((σ 38 (x2).toNatClampNeg)).toNatClampNeg ((σ 37 ((σ 38 (x2).toNatClampNeg)).toNatClampNeg) - x1)) 38 (x2).toNatClampNeg) ^^^ (1 : Int32))).toNatClampNeg) + x1)) 36 ((((put (put σ 37 ((σ 38 (x2).toNatClampNeg)).toNatClampNeg ((σ 37 ((σ 38 (x2).toNatClampNeg)).toNatClampNeg) - x1)) 37 ((((put σ 37 ((σ 38 (x2).toNatClampNeg)).toNatClampNeg ((σ 37 ((σ 38 (x2).toNatClampNeg)).toNatClampNeg) - x1)) 38 (x2).toNatClampNeg) ^^^ (1 : Int32))).toNatClampNeg (((put σ 37 ((σ 38 (x2).toNatClampNeg)).toNatClampNeg ((σ 37 ((σ 38 (x2).toNatClampNeg)).toNatClampNeg) - x1)) 37 ((((put σ 37 ((σ 38 (x2).toNatClampNeg)).toNatClampNeg ((σ 37 ((σ 38 (x2).toNatClampNeg)).toNatClampNeg) - x1)) 38 (x2).toNatClampNeg) ^^^ (1 : Int32))).toNatClampNeg) + x1)) 38 (x2).toNatClampNeg) ^^^ (1 : Int32))).toNatClampNeg) → (wp_X6_pushes_44 Q  n x1 x2_3 (put (put σ 37 ((σ 38 (x2).toNatClampNeg)).toNatClampNeg ((σ 37 ((σ 38 (x2).toNatClampNeg)).toNatClampNeg) - x1)) 37 ((((put σ 37 ((σ 38 (x2).toNatClampNeg)).toNatClampNeg ((σ 37 ((σ 38 (x2).toNatClampNeg)).toNatClampNeg) - x1)) 38 (x2).toNatClampNeg) ^^^ (1 : Int32))).toNatClampNeg (((put σ 37 ((σ 38 (x2).toNatClampNeg)).toNatClampNeg ((σ 37 ((σ 38 (x2).toNatClampNeg)).toNatClampNeg) - x1)) 37 ((((put σ 37 ((σ 38 (x2).toNatClampNeg)).toNatClampNeg ((σ 37 ((σ 38 (x2).toNatClampNeg)).toNatClampNeg) - x1)) 38 (x2).toNatClampNeg) ^^^ (1 : Int32))).toNatClampNeg) + x1)))))))))))))
set_option maxHeartbeats 4000000 in
set_option maxRecDepth 100000 in
theorem t_X6_pushes_44 {p : Program} {l : Launch} {e : Env} {s : State} {m : MethodId} {args : Array Value} {below : List Frame} {meth : Method} {c : Code} {G : Gw} (X : KC p m meth c cX6_pushes 3 s args wz_X6_pushes RX6 (some .int) G) (Q : Int32 → Sg → Prop)  : ∀ (n : Nat) (σ : Sg) (x1 x2 : Int32) (H : Heap) (locs : List Loc) (ls : Array Slot), wp_X6_pushes_44 Q  n x1 x2 σ → WK G s H locs σ → lv_has ls 3 [(0, .ref (G.1 30)), (1, .int x1), (2, .int x2)] → W p l e rm_X6_pushes s m args below meth c H locs 0 0 (ZI below args s G Q) (F0 m 44 ls []) := by
  have hx := X.1.1
  have hb := X.1.2.1
  intro n
  induction n with
  | zero =>
    intro σ x1 x2 H locs ls hw hk hl
    exact False.elim hw
  | succ n ih =>
    intro σ x1 x2 H locs ls hw hk hl
    rw [wp_X6_pushes_44] at hw
    refine lv_iload_n hx hb dX6_pushes_44 rfl (lv_at hl 2 rfl) ?_
    refine lv_if_eq (tgt := 97) hx hb dX6_pushes_45 (by decide) (fun c2 => ?_) (fun c2 => ?_)
    · replace hw := hw.1 c2
      refine lv_iload_n hx hb dX6_pushes_97 rfl (lv_at hl 1 rfl) ?_
      exact k_iret X hk hw dX6_pushes_98
    · replace hw := hw.2 c2
      refine lv_aload_n hx hb dX6_pushes_48 rfl (lv_at hl 0 rfl) ?_
      refine k_get 12 X hk (wg_30 G _) rfl (hz_wsX60 _) (Nat.le_of_ble_eq_true rfl) (List.mem_cons_of_mem _ (aw_r4 _ (List.mem_of_getElem? (i := 22) rfl))) rfl dX6_pushes_49 ?_
      refine lv_aload_n hx hb dX6_pushes_52 rfl (lv_at hl 0 rfl) ?_
      refine k_get 13 X hk (wg_30 G _) rfl (hz_wsX60 _) (Nat.le_of_ble_eq_true rfl) (List.mem_cons_of_mem _ (aw_r4 _ (List.mem_of_getElem? (i := 23) rfl))) rfl dX6_pushes_53 ?_
      refine lv_iload_n hx hb dX6_pushes_56 rfl (lv_at hl 2 rfl) ?_
      refine k_iald X hk (wg_38 G _) hw.1 dX6_pushes_57 ?_
      replace hw := hw.2
      refine lv_dup2_11 hx hb dX6_pushes_58 rfl rfl ?_
      refine k_iald X hk (wg_37 G _) hw.1 dX6_pushes_59 ?_
      replace hw := hw.2
      refine lv_iload_n hx hb dX6_pushes_60 rfl (lv_at hl 1 rfl) ?_
      refine lv_isub hx hb dX6_pushes_61 ?_
      refine k_iast X hk (wg_37 G _) (ws_37 G _) rfl hw.1 dX6_pushes_62 (fun H locs hk => ?_)
      replace hw := hw.2
      refine lv_aload_n hx hb dX6_pushes_63 rfl (lv_at hl 0 rfl) ?_
      refine k_get 12 X hk (wg_30 G _) rfl (hz_wsX60 _) (Nat.le_of_ble_eq_true rfl) (List.mem_cons_of_mem _ (aw_r4 _ (List.mem_of_getElem? (i := 22) rfl))) rfl dX6_pushes_64 ?_
      refine lv_aload_n hx hb dX6_pushes_67 rfl (lv_at hl 0 rfl) ?_
      refine k_get 13 X hk (wg_30 G _) rfl (hz_wsX60 _) (Nat.le_of_ble_eq_true rfl) (List.mem_cons_of_mem _ (aw_r4 _ (List.mem_of_getElem? (i := 23) rfl))) rfl dX6_pushes_68 ?_
      refine lv_iload_n hx hb dX6_pushes_71 rfl (lv_at hl 2 rfl) ?_
      refine k_iald X hk (wg_38 G _) hw.1 dX6_pushes_72 ?_
      replace hw := hw.2
      refine lv_iconst (v := (1 : Int32)) hx hb dX6_pushes_73 (by decide) ?_
      refine lv_ixor hx hb dX6_pushes_74 ?_
      refine lv_dup2_11 hx hb dX6_pushes_75 rfl rfl ?_
      refine k_iald X hk (wg_37 G _) hw.1 dX6_pushes_76 ?_
      replace hw := hw.2
      refine lv_iload_n hx hb dX6_pushes_77 rfl (lv_at hl 1 rfl) ?_
      refine lv_iadd hx hb dX6_pushes_78 ?_
      refine k_iast X hk (wg_37 G _) (ws_37 G _) rfl hw.1 dX6_pushes_79 (fun H locs hk => ?_)
      replace hw := hw.2
      refine lv_aload_n hx hb dX6_pushes_80 rfl (lv_at hl 0 rfl) ?_
      refine k_get 11 X hk (wg_30 G _) rfl (hz_wsX60 _) (Nat.le_of_ble_eq_true rfl) (List.mem_cons_of_mem _ (aw_r4 _ (List.mem_of_getElem? (i := 21) rfl))) rfl dX6_pushes_81 ?_
      refine lv_aload_n hx hb dX6_pushes_84 rfl (lv_at hl 0 rfl) ?_
      refine k_get 13 X hk (wg_30 G _) rfl (hz_wsX60 _) (Nat.le_of_ble_eq_true rfl) (List.mem_cons_of_mem _ (aw_r4 _ (List.mem_of_getElem? (i := 23) rfl))) rfl dX6_pushes_85 ?_
      refine lv_iload_n hx hb dX6_pushes_88 rfl (lv_at hl 2 rfl) ?_
      refine k_iald X hk (wg_38 G _) hw.1 dX6_pushes_89 ?_
      replace hw := hw.2
      refine lv_iconst (v := (1 : Int32)) hx hb dX6_pushes_90 (by decide) ?_
      refine lv_ixor hx hb dX6_pushes_91 ?_
      refine k_iald X hk (wg_36 G _) hw.1 dX6_pushes_92 ?_
      replace hw := hw.2
      refine lv_topi (fun x2_3 ex2_3 => ?_)
      replace hw := hw x2_3 ex2_3
      refine lv_istore_n (lv' := [(2, .int x2_3), (0, .ref (G.1 30)), (1, .int x1)]) hx hb dX6_pushes_93 rfl hl (Nat.le_of_ble_eq_true rfl) rfl (fun ls hl => ?_)
      refine lv_goto (tgt := 44) hx hb dX6_pushes_94 (by decide) ?_
      exact ih _ _ _ _ _ _ hw hk (lv_sub hl [1, 2, 0] rfl)
def wp_X6_pushes_5 (Q : Int32 → Sg → Prop)  : Nat → Int32 → Int32 → Sg → Prop
  | 0, _, _, _ => False
  | n + 1, x1, x2, σ => (x2 = 0 → (∃ n0, wp_X6_pushes_44 Q  n0 x1 (1 : Int32) σ)) ∧ (¬ (x2 = 0) → (vp_in x2 346 ∧ (vp_in (σ 38 (x2).toNatClampNeg) 4000 ∧ (wp_X6_lesser σ x1 (σ 37 ((σ 38 (x2).toNatClampNeg)).toNatClampNeg) (fun r5 σ4 => vp_in x2 346 ∧ (vp_in ((σ4 38 (x2).toNatClampNeg) ^^^ (1 : Int32)) 4000 ∧ (∀ x2_6 : Int32, x2_6 = (σ4 36 (((σ4 38 (x2).toNatClampNeg) ^^^ (1 : Int32))).toNatClampNeg) → (wp_X6_pushes_5 Q  n r5 x2_6 σ4))))))))
set_option maxHeartbeats 4000000 in
set_option maxRecDepth 100000 in
theorem t_X6_pushes_5 {p : Program} {l : Launch} {e : Env} {s : State} {m : MethodId} {args : Array Value} {below : List Frame} {meth : Method} {c : Code} {G : Gw} (X : KC p m meth c cX6_pushes 3 s args wz_X6_pushes RX6 (some .int) G) (Q : Int32 → Sg → Prop)  : ∀ (n : Nat) (σ : Sg) (x1 x2 : Int32) (H : Heap) (locs : List Loc) (ls : Array Slot), wp_X6_pushes_5 Q  n x1 x2 σ → WK G s H locs σ → lv_has ls 3 [(0, .ref (G.1 30)), (1, .int x1), (2, .int x2)] → W p l e rm_X6_pushes s m args below meth c H locs 0 0 (ZI below args s G Q) (F0 m 5 ls []) := by
  have hx := X.1.1
  have hb := X.1.2.1
  intro n
  induction n with
  | zero =>
    intro σ x1 x2 H locs ls hw hk hl
    exact False.elim hw
  | succ n ih =>
    intro σ x1 x2 H locs ls hw hk hl
    rw [wp_X6_pushes_5] at hw
    refine lv_iload_n hx hb dX6_pushes_5 rfl (lv_at hl 2 rfl) ?_
    refine lv_if_eq (tgt := 42) hx hb dX6_pushes_6 (by decide) (fun c1 => ?_) (fun c1 => ?_)
    · replace hw := hw.1 c1
      refine lv_iconst (v := (1 : Int32)) hx hb dX6_pushes_42 (by decide) ?_
      refine lv_istore_n (lv' := [(2, .int (1 : Int32)), (0, .ref (G.1 30)), (1, .int x1)]) hx hb dX6_pushes_43 rfl hl (Nat.le_of_ble_eq_true rfl) rfl (fun ls hl => ?_)
      obtain ⟨n0, hw⟩ := hw
      exact t_X6_pushes_44 X Q   n0 _ _ _ _ _ _ hw hk (lv_sub hl [1, 2, 0] rfl)
    · replace hw := hw.2 c1
      refine lv_iload_n hx hb dX6_pushes_9 rfl (lv_at hl 1 rfl) ?_
      refine lv_aload_n hx hb dX6_pushes_10 rfl (lv_at hl 0 rfl) ?_
      refine k_get 12 X hk (wg_30 G _) rfl (hz_wsX60 _) (Nat.le_of_ble_eq_true rfl) (List.mem_cons_of_mem _ (aw_r4 _ (List.mem_of_getElem? (i := 22) rfl))) rfl dX6_pushes_11 ?_
      refine lv_aload_n hx hb dX6_pushes_14 rfl (lv_at hl 0 rfl) ?_
      refine k_get 13 X hk (wg_30 G _) rfl (hz_wsX60 _) (Nat.le_of_ble_eq_true rfl) (List.mem_cons_of_mem _ (aw_r4 _ (List.mem_of_getElem? (i := 23) rfl))) rfl dX6_pushes_15 ?_
      refine lv_iload_n hx hb dX6_pushes_18 rfl (lv_at hl 2 rfl) ?_
      refine k_iald X hk (wg_38 G _) hw.1 dX6_pushes_19 ?_
      replace hw := hw.2
      refine k_iald X hk (wg_37 G _) hw.1 dX6_pushes_20 ?_
      replace hw := hw.2
      refine k_callSi (rest := []) X hk (c_X6_lesser l G _ _ _ _ hw) (va_cwS 2 X.1.2.2.2.2 (gzS (aw_r23 _ (List.mem_of_getElem? (i := 8) rfl)) (aw_r23 _ (List.mem_of_getElem? (i := 9) rfl)) (aw_r1 _ (List.mem_of_getElem? (i := 5) rfl)) (aw_r23 _ (List.mem_of_getElem? (i := 10) rfl))) rfl rfl rfl hds_X6_lesser ⟨(Nat.le_of_ble_eq_true rfl), (Nat.le_of_ble_eq_true rfl)⟩) rfl hl.1 rfl (Nat.le_of_ble_eq_true rfl) dX6_pushes_21 ⟨Nat.zero_le _, Nat.zero_le _⟩ (fun r5 σ4 H locs hw hk => ?_)
      refine lv_istore_n (lv' := [(1, .int r5), (0, .ref (G.1 30)), (2, .int x2)]) hx hb dX6_pushes_24 rfl hl (Nat.le_of_ble_eq_true rfl) rfl (fun ls hl => ?_)
      refine lv_aload_n hx hb dX6_pushes_25 rfl (lv_at hl 1 rfl) ?_
      refine k_get 11 X hk (wg_30 G _) rfl (hz_wsX60 _) (Nat.le_of_ble_eq_true rfl) (List.mem_cons_of_mem _ (aw_r4 _ (List.mem_of_getElem? (i := 21) rfl))) rfl dX6_pushes_26 ?_
      refine lv_aload_n hx hb dX6_pushes_29 rfl (lv_at hl 1 rfl) ?_
      refine k_get 13 X hk (wg_30 G _) rfl (hz_wsX60 _) (Nat.le_of_ble_eq_true rfl) (List.mem_cons_of_mem _ (aw_r4 _ (List.mem_of_getElem? (i := 23) rfl))) rfl dX6_pushes_30 ?_
      refine lv_iload_n hx hb dX6_pushes_33 rfl (lv_at hl 2 rfl) ?_
      refine k_iald X hk (wg_38 G _) hw.1 dX6_pushes_34 ?_
      replace hw := hw.2
      refine lv_iconst (v := (1 : Int32)) hx hb dX6_pushes_35 (by decide) ?_
      refine lv_ixor hx hb dX6_pushes_36 ?_
      refine k_iald X hk (wg_36 G _) hw.1 dX6_pushes_37 ?_
      replace hw := hw.2
      refine lv_topi (fun x2_6 ex2_6 => ?_)
      replace hw := hw x2_6 ex2_6
      refine lv_istore_n (lv' := [(2, .int x2_6), (1, .int r5), (0, .ref (G.1 30))]) hx hb dX6_pushes_38 rfl hl (Nat.le_of_ble_eq_true rfl) rfl (fun ls hl => ?_)
      refine lv_goto (tgt := 5) hx hb dX6_pushes_39 (by decide) ?_
      exact ih _ _ _ _ _ _ hw hk (lv_sub hl [2, 1, 0] rfl)
def wp_X6_pushes (σ : Sg) (Q : Int32 → Sg → Prop) : Prop := ∃ n0, wp_X6_pushes_5 Q  n0 (1000000 : Int32) (1 : Int32) σ
set_option maxHeartbeats 4000000 in
set_option maxRecDepth 100000 in
theorem c_X6_pushes (l : Launch) (G : Gw) (σ : Sg) (Q : Int32 → Sg → Prop) (hw : wp_X6_pushes σ  Q) : MetI l yX6_pushes wz_X6_pushes rm_X6_pushes G σ [.ref (G.1 30)] Q := by
  refine MetI.of cX6_pushes 3 (some .int) (by decide) rfl (Nat.le_of_ble_eq_true rfl) ?_
  intro p e s m below meth c X hk ls hl
  have X : KC p m meth c cX6_pushes 3 s _ wz_X6_pushes RX6 (some .int) G := X
  have hl : lv_has ls 3 [(0, .ref (G.1 30))] := hl
  unfold wp_X6_pushes at hw
  have hx := X.1.1
  have hb := X.1.2.1
  refine lv_ldc (v := (1000000 : Int32)) hx hb X.1.2.2.2.1 (X.1.2.2.2.2 _ (List.mem_cons_of_mem _ (aw_r29 _ (List.mem_of_getElem? (i := 3) rfl)))) dX6_pushes_0 ?_
  refine lv_istore_n (lv' := [(1, .int (1000000 : Int32)), (0, .ref (G.1 30))]) hx hb dX6_pushes_2 rfl hl (Nat.le_of_ble_eq_true rfl) rfl (fun ls hl => ?_)
  refine lv_iconst (v := (1 : Int32)) hx hb dX6_pushes_3 (by decide) ?_
  refine lv_istore_n (lv' := [(2, .int (1 : Int32)), (1, .int (1000000 : Int32)), (0, .ref (G.1 30))]) hx hb dX6_pushes_4 rfl hl (Nat.le_of_ble_eq_true rfl) rfl (fun ls hl => ?_)
  obtain ⟨n0, hw⟩ := hw
  exact t_X6_pushes_5 X Q   n0 _ _ _ _ _ _ hw hk (lv_sub hl [2, 1, 0] rfl)
def rm_X6_flows : Room := { frames := 2, cells := 0, slots := 0, locals := 46 }
abbrev wz_X6_flows : List Cond := Cond.code yX6_flows cX6_flows 3 (some .int) :: wsA
theorem hd_X6_flows : yX6_flows.cls = RX6 ∧ yX6_flows.cls ≠ "java/lang/invoke/MethodHandle" ∧ yX6_flows.cls ≠ "java/lang/invoke/VarHandle" ∧ (parseMethodDescriptor yX6_flows.desc).map (fun d => d.parameters.length) = some 1 := by decide +kernel
def wp_X6_flows_7 (Q : Int32 → Sg → Prop)  : Nat → Int32 → Sg → Prop
  | 0, _, _ => False
  | n + 1, x2, σ => wp_X6_finds σ  (fun r4 σ3 => (r4 = 0 → (Q x2 σ3)) ∧ (¬ (r4 = 0) → (wp_X6_pushes σ3  (fun r7 σ6 => ∀ x2_8 : Int32, x2_8 = (x2 + r7) → (wp_X6_flows_7 Q  n x2_8 σ6)))))
set_option maxHeartbeats 4000000 in
set_option maxRecDepth 100000 in
theorem t_X6_flows_7 {p : Program} {l : Launch} {e : Env} {s : State} {m : MethodId} {args : Array Value} {below : List Frame} {meth : Method} {c : Code} {G : Gw} (X : KC p m meth c cX6_flows 3 s args wz_X6_flows RX6 (some .int) G) (Q : Int32 → Sg → Prop)  : ∀ (n : Nat) (σ : Sg) (x2 : Int32) (H : Heap) (locs : List Loc) (ls : Array Slot), wp_X6_flows_7 Q  n x2 σ → WK G s H locs σ → lv_has ls 3 [(0, .ref (G.1 30)), (2, .int x2)] → W p l e rm_X6_flows s m args below meth c H locs 0 0 (ZI below args s G Q) (F0 m 7 ls []) := by
  have hx := X.1.1
  have hb := X.1.2.1
  intro n
  induction n with
  | zero =>
    intro σ x2 H locs ls hw hk hl
    exact False.elim hw
  | succ n ih =>
    intro σ x2 H locs ls hw hk hl
    rw [wp_X6_flows_7] at hw
    refine lv_aload_n hx hb dX6_flows_7 rfl (lv_at hl 0 rfl) ?_
    refine k_callVi (rest := []) X hk (c_X6_finds l G _  _ hw) (cwV 0 X.1.2.2.2.2 (gzV (aw_r29 _ (List.mem_of_getElem? (i := 11) rfl)) (aw_r29 _ (List.mem_of_getElem? (i := 12) rfl)) (aw_r29 _ (List.mem_of_getElem? (i := 13) rfl)) (aw_r1 _ (List.mem_of_getElem? (i := 5) rfl)) (aw_r29 _ (List.mem_of_getElem? (i := 14) rfl))) rfl rfl rfl hd_X6_finds ⟨(Nat.le_of_ble_eq_true rfl), (Nat.le_of_ble_eq_true rfl)⟩) (wg_30 G _) rfl rfl hl.1 rfl (Nat.le_of_ble_eq_true rfl) dX6_flows_8 ⟨Nat.zero_le _, Nat.zero_le _⟩ (fun r4 σ3 H locs hw hk => ?_)
    refine lv_if_eq (tgt := 24) hx hb dX6_flows_11 (by decide) (fun c5 => ?_) (fun c5 => ?_)
    · replace hw := hw.1 c5
      refine lv_iload_n hx hb dX6_flows_24 rfl (lv_at hl 1 rfl) ?_
      exact k_iret X hk hw dX6_flows_25
    · replace hw := hw.2 c5
      refine lv_iload_n hx hb dX6_flows_14 rfl (lv_at hl 1 rfl) ?_
      refine lv_aload_n hx hb dX6_flows_15 rfl (lv_at hl 0 rfl) ?_
      refine k_callVi (rest := [.int x2]) X hk (c_X6_pushes l G _  _ hw) (cwV 0 X.1.2.2.2.2 (gzV (aw_r29 _ (List.mem_of_getElem? (i := 15) rfl)) (aw_r29 _ (List.mem_of_getElem? (i := 16) rfl)) (aw_r29 _ (List.mem_of_getElem? (i := 17) rfl)) (aw_r1 _ (List.mem_of_getElem? (i := 5) rfl)) (aw_r29 _ (List.mem_of_getElem? (i := 18) rfl))) rfl rfl rfl hd_X6_pushes ⟨(Nat.le_of_ble_eq_true rfl), (Nat.le_of_ble_eq_true rfl)⟩) (wg_30 G _) rfl rfl hl.1 rfl (Nat.le_of_ble_eq_true rfl) dX6_flows_16 ⟨Nat.zero_le _, Nat.zero_le _⟩ (fun r7 σ6 H locs hw hk => ?_)
      refine lv_iadd hx hb dX6_flows_19 ?_
      refine lv_topi (fun x2_8 ex2_8 => ?_)
      replace hw := hw x2_8 ex2_8
      refine lv_istore_n (lv' := [(2, .int x2_8), (0, .ref (G.1 30))]) hx hb dX6_flows_20 rfl hl (Nat.le_of_ble_eq_true rfl) rfl (fun ls hl => ?_)
      refine lv_goto (tgt := 7) hx hb dX6_flows_21 (by decide) ?_
      exact ih _ _ _ _ _ hw hk (lv_sub hl [1, 0] rfl)
def wp_X6_flows (σ : Sg) (p1 : Int32) (Q : Int32 → Sg → Prop) : Prop := wp_X6_lays σ p1 (fun σ1 => ∃ n0, wp_X6_flows_7 Q  n0 (0 : Int32) σ1)
set_option maxHeartbeats 4000000 in
set_option maxRecDepth 100000 in
theorem c_X6_flows (l : Launch) (G : Gw) (σ : Sg) (p1 : Int32) (Q : Int32 → Sg → Prop) (hw : wp_X6_flows σ p1 Q) : MetI l yX6_flows wz_X6_flows rm_X6_flows G σ [.ref (G.1 30), .int p1] Q := by
  refine MetI.of cX6_flows 3 (some .int) (by decide) rfl (Nat.le_of_ble_eq_true rfl) ?_
  intro p e s m below meth c X hk ls hl
  have X : KC p m meth c cX6_flows 3 s _ wz_X6_flows RX6 (some .int) G := X
  have hl : lv_has ls 3 [(0, .ref (G.1 30)), (1, .int p1)] := hl
  unfold wp_X6_flows at hw
  have hx := X.1.1
  have hb := X.1.2.1
  refine lv_aload_n hx hb dX6_flows_0 rfl (lv_at hl 0 rfl) ?_
  refine lv_iload_n hx hb dX6_flows_1 rfl (lv_at hl 1 rfl) ?_
  refine k_callVv (rest := []) X hk (c_X6_lays l G _ _ _ hw) (cwV 1 X.1.2.2.2.2 (gzV (aw_r28 _ (List.mem_of_getElem? (i := 22) rfl)) (aw_r28 _ (List.mem_of_getElem? (i := 23) rfl)) (aw_r29 _ (List.mem_of_getElem? (i := 0) rfl)) (aw_r1 _ (List.mem_of_getElem? (i := 5) rfl)) (aw_r29 _ (List.mem_of_getElem? (i := 1) rfl))) rfl rfl rfl hd_X6_lays ⟨(Nat.le_of_ble_eq_true rfl), (Nat.le_of_ble_eq_true rfl)⟩) (wg_30 G _) rfl rfl hl.1 rfl (Nat.le_of_ble_eq_true rfl) dX6_flows_2 ⟨Nat.zero_le _, Nat.zero_le _⟩ (fun σ1 H locs hw hk => ?_)
  refine lv_iconst (v := (0 : Int32)) hx hb dX6_flows_5 (by decide) ?_
  refine lv_istore_n (lv' := [(2, .int (0 : Int32)), (0, .ref (G.1 30)), (1, .int p1)]) hx hb dX6_flows_6 rfl hl (Nat.le_of_ble_eq_true rfl) rfl (fun ls hl => ?_)
  obtain ⟨n0, hw⟩ := hw
  exact t_X6_flows_7 X Q   n0 _ _ _ _ _ hw hk (lv_sub hl [1, 0] rfl)
def rm_X6_isMinute : Room := { frames := 1, cells := 0, slots := 0, locals := 22 }
abbrev wz_X6_isMinute : List Cond := Cond.code yX6_isMinute cX6_isMinute 1 (some .boolean) :: wsA
theorem hds_X6_isMinute : yX6_isMinute.cls ≠ "java/lang/invoke/MethodHandle" ∧ yX6_isMinute.cls ≠ "java/lang/invoke/VarHandle" ∧ (parseMethodDescriptor yX6_isMinute.desc).map (fun d => d.parameters.length) = some 1 := by decide +kernel
def wp_X6_isMinute (σ : Sg) (p0 : Int32) (Q : Int32 → Sg → Prop) : Prop := wp_X6_isIn σ p0 (0 : Int32) (40 : Int32) (fun r2 σ1 => bz r2 ∧ Q r2 σ1)
set_option maxHeartbeats 4000000 in
set_option maxRecDepth 100000 in
theorem c_X6_isMinute (l : Launch) (G : Gw) (σ : Sg) (p0 : Int32) (Q : Int32 → Sg → Prop) (hw : wp_X6_isMinute σ p0 Q) : MetI l yX6_isMinute wz_X6_isMinute rm_X6_isMinute G σ [.int p0] Q := by
  refine MetI.of cX6_isMinute 1 (some .boolean) (by decide) rfl (Nat.le_of_ble_eq_true rfl) ?_
  intro p e s m below meth c X hk ls hl
  have X : KC p m meth c cX6_isMinute 1 s _ wz_X6_isMinute RX6 (some .boolean) G := X
  have hl : lv_has ls 1 [(0, .int p0)] := hl
  unfold wp_X6_isMinute at hw
  have hx := X.1.1
  have hb := X.1.2.1
  refine lv_iload_n hx hb dX6_isMinute_0 rfl (lv_at hl 0 rfl) ?_
  refine lv_iconst (v := (0 : Int32)) hx hb dX6_isMinute_1 (by decide) ?_
  refine lv_bipush (v := (40 : Int32)) hx hb dX6_isMinute_2 (by decide) ?_
  refine k_callSi (rest := []) X hk (c_X6_isIn l G _ _ _ _ _ hw) (va_cwS 3 X.1.2.2.2.2 (gzS (aw_r6 _ (List.mem_of_getElem? (i := 17) rfl)) (aw_r6 _ (List.mem_of_getElem? (i := 18) rfl)) (aw_r1 _ (List.mem_of_getElem? (i := 5) rfl)) (aw_r6 _ (List.mem_of_getElem? (i := 19) rfl))) rfl rfl rfl hds_X6_isIn ⟨(Nat.le_of_ble_eq_true rfl), (Nat.le_of_ble_eq_true rfl)⟩) rfl hl.1 rfl (Nat.le_of_ble_eq_true rfl) dX6_isMinute_4 ⟨Nat.zero_le _, Nat.zero_le _⟩ (fun r2 σ1 H locs hw hk => ?_)
  exact k_zret X hk hw dX6_isMinute_7
def rm_X6_can : Room := { frames := 3, cells := 0, slots := 0, locals := 68 }
abbrev wz_X6_can : List Cond := Cond.code yX6_can cX6_can 2 (some .boolean) :: wsA
theorem hd_X6_can : yX6_can.cls = RX6 ∧ yX6_can.cls ≠ "java/lang/invoke/MethodHandle" ∧ yX6_can.cls ≠ "java/lang/invoke/VarHandle" ∧ (parseMethodDescriptor yX6_can.desc).map (fun d => d.parameters.length) = some 1 := by decide +kernel
def wp_X6_can (σ : Sg) (p1 : Int32) (Q : Int32 → Sg → Prop) : Prop := wp_X6_isMinute σ p1 (fun r2 σ1 => (r2 = 0 → (bz (0 : Int32) ∧ Q (0 : Int32) σ1)) ∧ (¬ (r2 = 0) → (wp_X6_flows σ1 p1 (fun r5 σ4 => wp_X6_sum σ4 (0 : Int32) (fun r7 σ6 => (r5 = r7 → (bz (1 : Int32) ∧ Q (1 : Int32) σ6)) ∧ (¬ (r5 = r7) → (bz (0 : Int32) ∧ Q (0 : Int32) σ6)))))))
set_option maxHeartbeats 4000000 in
set_option maxRecDepth 100000 in
theorem c_X6_can (l : Launch) (G : Gw) (σ : Sg) (p1 : Int32) (Q : Int32 → Sg → Prop) (hw : wp_X6_can σ p1 Q) : MetI l yX6_can wz_X6_can rm_X6_can G σ [.ref (G.1 30), .int p1] Q := by
  refine MetI.of cX6_can 2 (some .boolean) (by decide) rfl (Nat.le_of_ble_eq_true rfl) ?_
  intro p e s m below meth c X hk ls hl
  have X : KC p m meth c cX6_can 2 s _ wz_X6_can RX6 (some .boolean) G := X
  have hl : lv_has ls 2 [(0, .ref (G.1 30)), (1, .int p1)] := hl
  unfold wp_X6_can at hw
  have hx := X.1.1
  have hb := X.1.2.1
  refine lv_iload_n hx hb dX6_can_0 rfl (lv_at hl 1 rfl) ?_
  refine k_callSi (rest := []) X hk (c_X6_isMinute l G _ _ _ hw) (va_cwS 1 X.1.2.2.2.2 (gzS (aw_r28 _ (List.mem_of_getElem? (i := 15) rfl)) (aw_r28 _ (List.mem_of_getElem? (i := 16) rfl)) (aw_r1 _ (List.mem_of_getElem? (i := 5) rfl)) (aw_r28 _ (List.mem_of_getElem? (i := 17) rfl))) rfl rfl rfl hds_X6_isMinute ⟨(Nat.le_of_ble_eq_true rfl), (Nat.le_of_ble_eq_true rfl)⟩) rfl hl.1 rfl (Nat.le_of_ble_eq_true rfl) dX6_can_1 ⟨Nat.zero_le _, Nat.zero_le _⟩ (fun r2 σ1 H locs hw hk => ?_)
  refine lv_if_eq (tgt := 24) hx hb dX6_can_4 (by decide) (fun c3 => ?_) (fun c3 => ?_)
  · replace hw := hw.1 c3
    refine lv_iconst (v := (0 : Int32)) hx hb dX6_can_24 (by decide) ?_
    exact k_zret X hk hw dX6_can_25
  · replace hw := hw.2 c3
    refine lv_aload_n hx hb dX6_can_7 rfl (lv_at hl 0 rfl) ?_
    refine lv_iload_n hx hb dX6_can_8 rfl (lv_at hl 1 rfl) ?_
    refine k_callVi (rest := []) X hk (c_X6_flows l G _ _ _ hw) (cwV 1 X.1.2.2.2.2 (gzV (aw_r28 _ (List.mem_of_getElem? (i := 18) rfl)) (aw_r28 _ (List.mem_of_getElem? (i := 19) rfl)) (aw_r28 _ (List.mem_of_getElem? (i := 20) rfl)) (aw_r1 _ (List.mem_of_getElem? (i := 5) rfl)) (aw_r28 _ (List.mem_of_getElem? (i := 21) rfl))) rfl rfl rfl hd_X6_flows ⟨(Nat.le_of_ble_eq_true rfl), (Nat.le_of_ble_eq_true rfl)⟩) (wg_30 G _) rfl rfl hl.1 rfl (Nat.le_of_ble_eq_true rfl) dX6_can_9 ⟨Nat.zero_le _, Nat.zero_le _⟩ (fun r5 σ4 H locs hw hk => ?_)
    refine lv_aload_n hx hb dX6_can_12 rfl (lv_at hl 0 rfl) ?_
    refine lv_iconst (v := (0 : Int32)) hx hb dX6_can_13 (by decide) ?_
    refine k_callVi (rest := [.int r5]) X hk (c_X6_sum l G _ _ _ hw) (cwV 1 X.1.2.2.2.2 (gzV (aw_r24 _ (List.mem_of_getElem? (i := 0) rfl)) (aw_r24 _ (List.mem_of_getElem? (i := 1) rfl)) (aw_r24 _ (List.mem_of_getElem? (i := 2) rfl)) (aw_r1 _ (List.mem_of_getElem? (i := 5) rfl)) (aw_r24 _ (List.mem_of_getElem? (i := 3) rfl))) rfl rfl rfl hd_X6_sum ⟨(Nat.le_of_ble_eq_true rfl), (Nat.le_of_ble_eq_true rfl)⟩) (wg_30 G _) rfl rfl hl.1 rfl (Nat.le_of_ble_eq_true rfl) dX6_can_14 ⟨Nat.zero_le _, Nat.zero_le _⟩ (fun r7 σ6 H locs hw hk => ?_)
    refine lv_icmp_ne (tgt := 24) hx hb dX6_can_17 (by decide) (fun c8 => ?_) (fun c8 => ?_)
    · replace hw := hw.2 c8
      refine lv_iconst (v := (0 : Int32)) hx hb dX6_can_24 (by decide) ?_
      exact k_zret X hk hw dX6_can_25
    · replace hw := hw.1 c8
      refine lv_iconst (v := (1 : Int32)) hx hb dX6_can_20 (by decide) ?_
      refine lv_goto (tgt := 25) hx hb dX6_can_21 (by decide) ?_
      exact k_zret X hk hw dX6_can_25
def rm_X6_quickestBelow : Room := { frames := 4, cells := 0, slots := 0, locals := 89 }
abbrev wz_X6_quickestBelow : List Cond := Cond.code yX6_quickestBelow cX6_quickestBelow 5 (some .int) :: wsA
theorem hd_X6_quickestBelow : yX6_quickestBelow.cls = RX6 ∧ yX6_quickestBelow.cls ≠ "java/lang/invoke/MethodHandle" ∧ yX6_quickestBelow.cls ≠ "java/lang/invoke/VarHandle" ∧ (parseMethodDescriptor yX6_quickestBelow.desc).map (fun d => d.parameters.length) = some 1 := by decide +kernel
def wp_X6_quickestBelow_63 (Q : Int32 → Sg → Prop) (K31 : Int32 → Int32 → Sg → Prop) (x2 x3 : Int32) (σ : Sg) : Prop := K31 x2 x3 σ
set_option maxHeartbeats 4000000 in
set_option maxRecDepth 100000 in
theorem t_X6_quickestBelow_63 {p : Program} {l : Launch} {e : Env} {s : State} {m : MethodId} {args : Array Value} {below : List Frame} {meth : Method} {c : Code} {G : Gw} (X : KC p m meth c cX6_quickestBelow 5 s args wz_X6_quickestBelow RX6 (some .int) G) (Q : Int32 → Sg → Prop) (K31 : Int32 → Int32 → Sg → Prop) (hK31 : ∀ (σ : Sg) (x2 x3 : Int32) (H : Heap) (locs : List Loc) (ls : Array Slot), K31 x2 x3 σ → WK G s H locs σ → lv_has ls 5 [(0, .ref (G.1 30)), (2, .int x2), (3, .int x3)] → W p l e rm_X6_quickestBelow s m args below meth c H locs 0 0 (ZI below args s G Q) (F0 m 31 ls [])) : ∀ (σ : Sg) (x2 x3 : Int32) (H : Heap) (locs : List Loc) (ls : Array Slot), wp_X6_quickestBelow_63 Q K31 x2 x3 σ → WK G s H locs σ → lv_has ls 5 [(0, .ref (G.1 30)), (2, .int x2), (3, .int x3)] → W p l e rm_X6_quickestBelow s m args below meth c H locs 0 0 (ZI below args s G Q) (F0 m 63 ls []) := by
  have hx := X.1.1
  have hb := X.1.2.1
  intro σ x2 x3 H locs ls hw hk hl
  unfold wp_X6_quickestBelow_63 at hw
  refine lv_goto (tgt := 31) hx hb dX6_quickestBelow_63 (by decide) ?_
  exact hK31 _ _ _ _ _ _ hw hk hl
def wp_X6_quickestBelow_31 (Q : Int32 → Sg → Prop)  : Nat → Int32 → Int32 → Sg → Prop
  | 0, _, _, _ => False
  | n + 1, x2, x3, σ => (x3 ≤ x2 → (Q x2 σ)) ∧ (¬ (x3 ≤ x2) → (∀ x4_11 : Int32, x4_11 = ((x2 + x3) / (2 : Int32)) → (wp_X6_can σ x4_11 (fun r13 σ12 => (r13 = 0 → (∀ x2_15 : Int32, x2_15 = (x4_11 + (1 : Int32)) → (wp_X6_quickestBelow_63 Q (fun z2 z3 σ => wp_X6_quickestBelow_31 Q  n z2 z3 σ) x2_15 x3 σ12))) ∧ (¬ (r13 = 0) → (wp_X6_quickestBelow_63 Q (fun z2 z3 σ => wp_X6_quickestBelow_31 Q  n z2 z3 σ) x2 x4_11 σ12))))))
set_option maxHeartbeats 4000000 in
set_option maxRecDepth 100000 in
theorem t_X6_quickestBelow_31 {p : Program} {l : Launch} {e : Env} {s : State} {m : MethodId} {args : Array Value} {below : List Frame} {meth : Method} {c : Code} {G : Gw} (X : KC p m meth c cX6_quickestBelow 5 s args wz_X6_quickestBelow RX6 (some .int) G) (Q : Int32 → Sg → Prop)  : ∀ (n : Nat) (σ : Sg) (x2 x3 : Int32) (H : Heap) (locs : List Loc) (ls : Array Slot), wp_X6_quickestBelow_31 Q  n x2 x3 σ → WK G s H locs σ → lv_has ls 5 [(0, .ref (G.1 30)), (2, .int x2), (3, .int x3)] → W p l e rm_X6_quickestBelow s m args below meth c H locs 0 0 (ZI below args s G Q) (F0 m 31 ls []) := by
  have hx := X.1.1
  have hb := X.1.2.1
  intro n
  induction n with
  | zero =>
    intro σ x2 x3 H locs ls hw hk hl
    exact False.elim hw
  | succ n ih =>
    intro σ x2 x3 H locs ls hw hk hl
    rw [wp_X6_quickestBelow_31] at hw
    refine lv_iload_n hx hb dX6_quickestBelow_31 rfl (lv_at hl 1 rfl) ?_
    refine lv_iload_n hx hb dX6_quickestBelow_32 rfl (lv_at hl 2 rfl) ?_
    refine lv_icmp_ge (tgt := 66) hx hb dX6_quickestBelow_33 (by decide) (fun c10 => ?_) (fun c10 => ?_)
    · replace hw := hw.1 c10
      refine lv_iload_n hx hb dX6_quickestBelow_66 rfl (lv_at hl 1 rfl) ?_
      exact k_iret X hk hw dX6_quickestBelow_67
    · replace hw := hw.2 c10
      refine lv_iload_n hx hb dX6_quickestBelow_36 rfl (lv_at hl 1 rfl) ?_
      refine lv_iload_n hx hb dX6_quickestBelow_37 rfl (lv_at hl 2 rfl) ?_
      refine lv_iadd hx hb dX6_quickestBelow_38 ?_
      refine lv_iconst (v := (2 : Int32)) hx hb dX6_quickestBelow_39 (by decide) ?_
      refine lv_idiv hx hb dX6_quickestBelow_40 (by decide) ?_
      refine lv_topi (fun x4_11 ex4_11 => ?_)
      replace hw := hw x4_11 ex4_11
      refine lv_istore (lv' := [(4, .int x4_11), (0, .ref (G.1 30)), (2, .int x2), (3, .int x3)]) hx hb dX6_quickestBelow_41 hl (Nat.le_of_ble_eq_true rfl) rfl (fun ls hl => ?_)
      refine lv_aload_n hx hb dX6_quickestBelow_43 rfl (lv_at hl 1 rfl) ?_
      refine lv_iload hx hb dX6_quickestBelow_44 (lv_at hl 0 rfl) ?_
      refine k_callVi (rest := []) X hk (c_X6_can l G _ _ _ hw) (cwV 1 X.1.2.2.2.2 (gzV (aw_r31 _ (List.mem_of_getElem? (i := 13) rfl)) (aw_r31 _ (List.mem_of_getElem? (i := 14) rfl)) (aw_r31 _ (List.mem_of_getElem? (i := 15) rfl)) (aw_r1 _ (List.mem_of_getElem? (i := 5) rfl)) (aw_r31 _ (List.mem_of_getElem? (i := 16) rfl))) rfl rfl rfl hd_X6_can ⟨(Nat.le_of_ble_eq_true rfl), (Nat.le_of_ble_eq_true rfl)⟩) (wg_30 G _) rfl rfl hl.1 rfl (Nat.le_of_ble_eq_true rfl) dX6_quickestBelow_46 ⟨Nat.zero_le _, Nat.zero_le _⟩ (fun r13 σ12 H locs hw hk => ?_)
      refine lv_if_eq (tgt := 58) hx hb dX6_quickestBelow_49 (by decide) (fun c14 => ?_) (fun c14 => ?_)
      · replace hw := hw.1 c14
        refine lv_iload hx hb dX6_quickestBelow_58 (lv_at hl 0 rfl) ?_
        refine lv_iconst (v := (1 : Int32)) hx hb dX6_quickestBelow_60 (by decide) ?_
        refine lv_iadd hx hb dX6_quickestBelow_61 ?_
        refine lv_topi (fun x2_15 ex2_15 => ?_)
        replace hw := hw x2_15 ex2_15
        refine lv_istore_n (lv' := [(2, .int x2_15), (4, .int x4_11), (0, .ref (G.1 30)), (3, .int x3)]) hx hb dX6_quickestBelow_62 rfl hl (Nat.le_of_ble_eq_true rfl) rfl (fun ls hl => ?_)
        exact t_X6_quickestBelow_63 X Q _ ih _ _ _ _ _ _ hw hk (lv_sub hl [2, 0, 3] rfl)
      · replace hw := hw.2 c14
        refine lv_iload hx hb dX6_quickestBelow_52 (lv_at hl 0 rfl) ?_
        refine lv_istore_n (lv' := [(3, .int x4_11), (4, .int x4_11), (0, .ref (G.1 30)), (2, .int x2)]) hx hb dX6_quickestBelow_54 rfl hl (Nat.le_of_ble_eq_true rfl) rfl (fun ls hl => ?_)
        refine lv_goto (tgt := 63) hx hb dX6_quickestBelow_55 (by decide) ?_
        exact t_X6_quickestBelow_63 X Q _ ih _ _ _ _ _ _ hw hk (lv_sub hl [2, 3, 0] rfl)
def wp_X6_quickestBelow (σ : Sg) (p1 : Int32) (Q : Int32 → Sg → Prop) : Prop := wp_X6_sum σ (0 : Int32) (fun r2 σ1 => wp_X6_sum σ1 (1 : Int32) (fun r4 σ3 => (r4 < r2 → (Q (-1 : Int32) σ3)) ∧ (¬ (r4 < r2) → (wp_X6_can σ3 (p1 - (1 : Int32)) (fun r7 σ6 => (r7 = 0 → (Q (-1 : Int32) σ6)) ∧ (¬ (r7 = 0) → (∀ x3_9 : Int32, x3_9 = (p1 - (1 : Int32)) → (∃ n0, wp_X6_quickestBelow_31 Q  n0 (0 : Int32) x3_9 σ6))))))))
set_option maxHeartbeats 4000000 in
set_option maxRecDepth 100000 in
theorem c_X6_quickestBelow (l : Launch) (G : Gw) (σ : Sg) (p1 : Int32) (Q : Int32 → Sg → Prop) (hw : wp_X6_quickestBelow σ p1 Q) : MetI l yX6_quickestBelow wz_X6_quickestBelow rm_X6_quickestBelow G σ [.ref (G.1 30), .int p1] Q := by
  refine MetI.of cX6_quickestBelow 5 (some .int) (by decide) rfl (Nat.le_of_ble_eq_true rfl) ?_
  intro p e s m below meth c X hk ls hl
  have X : KC p m meth c cX6_quickestBelow 5 s _ wz_X6_quickestBelow RX6 (some .int) G := X
  have hl : lv_has ls 5 [(0, .ref (G.1 30)), (1, .int p1)] := hl
  unfold wp_X6_quickestBelow at hw
  have hx := X.1.1
  have hb := X.1.2.1
  refine lv_aload_n hx hb dX6_quickestBelow_0 rfl (lv_at hl 0 rfl) ?_
  refine lv_iconst (v := (0 : Int32)) hx hb dX6_quickestBelow_1 (by decide) ?_
  refine k_callVi (rest := []) X hk (c_X6_sum l G _ _ _ hw) (cwV 1 X.1.2.2.2.2 (gzV (aw_r24 _ (List.mem_of_getElem? (i := 0) rfl)) (aw_r24 _ (List.mem_of_getElem? (i := 1) rfl)) (aw_r24 _ (List.mem_of_getElem? (i := 2) rfl)) (aw_r1 _ (List.mem_of_getElem? (i := 5) rfl)) (aw_r24 _ (List.mem_of_getElem? (i := 3) rfl))) rfl rfl rfl hd_X6_sum ⟨(Nat.le_of_ble_eq_true rfl), (Nat.le_of_ble_eq_true rfl)⟩) (wg_30 G _) rfl rfl hl.1 rfl (Nat.le_of_ble_eq_true rfl) dX6_quickestBelow_2 ⟨Nat.zero_le _, Nat.zero_le _⟩ (fun r2 σ1 H locs hw hk => ?_)
  refine lv_aload_n hx hb dX6_quickestBelow_5 rfl (lv_at hl 0 rfl) ?_
  refine lv_iconst (v := (1 : Int32)) hx hb dX6_quickestBelow_6 (by decide) ?_
  refine k_callVi (rest := [.int r2]) X hk (c_X6_sum l G _ _ _ hw) (cwV 1 X.1.2.2.2.2 (gzV (aw_r24 _ (List.mem_of_getElem? (i := 0) rfl)) (aw_r24 _ (List.mem_of_getElem? (i := 1) rfl)) (aw_r24 _ (List.mem_of_getElem? (i := 2) rfl)) (aw_r1 _ (List.mem_of_getElem? (i := 5) rfl)) (aw_r24 _ (List.mem_of_getElem? (i := 3) rfl))) rfl rfl rfl hd_X6_sum ⟨(Nat.le_of_ble_eq_true rfl), (Nat.le_of_ble_eq_true rfl)⟩) (wg_30 G _) rfl rfl hl.1 rfl (Nat.le_of_ble_eq_true rfl) dX6_quickestBelow_7 ⟨Nat.zero_le _, Nat.zero_le _⟩ (fun r4 σ3 H locs hw hk => ?_)
  refine lv_icmp_gt (tgt := 23) hx hb dX6_quickestBelow_10 (by decide) (fun c5 => ?_) (fun c5 => ?_)
  · replace hw := hw.1 c5
    refine lv_iconst (v := (-1 : Int32)) hx hb dX6_quickestBelow_23 (by decide) ?_
    exact k_iret X hk hw dX6_quickestBelow_24
  · replace hw := hw.2 c5
    refine lv_aload_n hx hb dX6_quickestBelow_13 rfl (lv_at hl 0 rfl) ?_
    refine lv_iload_n hx hb dX6_quickestBelow_14 rfl (lv_at hl 1 rfl) ?_
    refine lv_iconst (v := (1 : Int32)) hx hb dX6_quickestBelow_15 (by decide) ?_
    refine lv_isub hx hb dX6_quickestBelow_16 ?_
    refine k_callVi (rest := []) X hk (c_X6_can l G _ _ _ hw) (cwV 1 X.1.2.2.2.2 (gzV (aw_r31 _ (List.mem_of_getElem? (i := 13) rfl)) (aw_r31 _ (List.mem_of_getElem? (i := 14) rfl)) (aw_r31 _ (List.mem_of_getElem? (i := 15) rfl)) (aw_r1 _ (List.mem_of_getElem? (i := 5) rfl)) (aw_r31 _ (List.mem_of_getElem? (i := 16) rfl))) rfl rfl rfl hd_X6_can ⟨(Nat.le_of_ble_eq_true rfl), (Nat.le_of_ble_eq_true rfl)⟩) (wg_30 G _) rfl rfl hl.1 rfl (Nat.le_of_ble_eq_true rfl) dX6_quickestBelow_17 ⟨Nat.zero_le _, Nat.zero_le _⟩ (fun r7 σ6 H locs hw hk => ?_)
    refine lv_if_ne (tgt := 25) hx hb dX6_quickestBelow_20 (by decide) (fun c8 => ?_) (fun c8 => ?_)
    · replace hw := hw.2 c8
      refine lv_iconst (v := (0 : Int32)) hx hb dX6_quickestBelow_25 (by decide) ?_
      refine lv_istore_n (lv' := [(2, .int (0 : Int32)), (0, .ref (G.1 30)), (1, .int p1)]) hx hb dX6_quickestBelow_26 rfl hl (Nat.le_of_ble_eq_true rfl) rfl (fun ls hl => ?_)
      refine lv_iload_n hx hb dX6_quickestBelow_27 rfl (lv_at hl 2 rfl) ?_
      refine lv_iconst (v := (1 : Int32)) hx hb dX6_quickestBelow_28 (by decide) ?_
      refine lv_isub hx hb dX6_quickestBelow_29 ?_
      refine lv_topi (fun x3_9 ex3_9 => ?_)
      replace hw := hw x3_9 ex3_9
      refine lv_istore_n (lv' := [(3, .int x3_9), (2, .int (0 : Int32)), (0, .ref (G.1 30)), (1, .int p1)]) hx hb dX6_quickestBelow_30 rfl hl (Nat.le_of_ble_eq_true rfl) rfl (fun ls hl => ?_)
      obtain ⟨n0, hw⟩ := hw
      exact t_X6_quickestBelow_31 X Q   n0 _ _ _ _ _ _ hw hk (lv_sub hl [2, 1, 0] rfl)
    · replace hw := hw.1 c8
      refine lv_iconst (v := (-1 : Int32)) hx hb dX6_quickestBelow_23 (by decide) ?_
      exact k_iret X hk hw dX6_quickestBelow_24
def rm_X6_quickestNow : Room := { frames := 5, cells := 0, slots := 0, locals := 113 }
abbrev wz_X6_quickestNow : List Cond := Cond.code yX6_quickestNow cX6_quickestNow 1 (some .int) :: wsA
theorem hd_X6_quickestNow : yX6_quickestNow.cls = RX6 ∧ yX6_quickestNow.cls ≠ "java/lang/invoke/MethodHandle" ∧ yX6_quickestNow.cls ≠ "java/lang/invoke/VarHandle" ∧ (parseMethodDescriptor yX6_quickestNow.desc).map (fun d => d.parameters.length) = some 0 := by decide +kernel
def wp_X6_quickestNow (σ : Sg) (Q : Int32 → Sg → Prop) : Prop := wp_X6_quickestBelow σ (41 : Int32) (fun r2 σ1 => Q r2 σ1)
set_option maxHeartbeats 4000000 in
set_option maxRecDepth 100000 in
theorem c_X6_quickestNow (l : Launch) (G : Gw) (σ : Sg) (Q : Int32 → Sg → Prop) (hw : wp_X6_quickestNow σ  Q) : MetI l yX6_quickestNow wz_X6_quickestNow rm_X6_quickestNow G σ [.ref (G.1 30)] Q := by
  refine MetI.of cX6_quickestNow 1 (some .int) (by decide) rfl (Nat.le_of_ble_eq_true rfl) ?_
  intro p e s m below meth c X hk ls hl
  have X : KC p m meth c cX6_quickestNow 1 s _ wz_X6_quickestNow RX6 (some .int) G := X
  have hl : lv_has ls 1 [(0, .ref (G.1 30))] := hl
  unfold wp_X6_quickestNow at hw
  have hx := X.1.1
  have hb := X.1.2.1
  refine lv_aload_n hx hb dX6_quickestNow_0 rfl (lv_at hl 0 rfl) ?_
  refine lv_bipush (v := (41 : Int32)) hx hb dX6_quickestNow_1 (by decide) ?_
  refine k_callVi (rest := []) X hk (c_X6_quickestBelow l G _ _ _ hw) (cwV 1 X.1.2.2.2.2 (gzV (aw_r31 _ (List.mem_of_getElem? (i := 9) rfl)) (aw_r31 _ (List.mem_of_getElem? (i := 10) rfl)) (aw_r31 _ (List.mem_of_getElem? (i := 11) rfl)) (aw_r1 _ (List.mem_of_getElem? (i := 5) rfl)) (aw_r31 _ (List.mem_of_getElem? (i := 12) rfl))) rfl rfl rfl hd_X6_quickestBelow ⟨(Nat.le_of_ble_eq_true rfl), (Nat.le_of_ble_eq_true rfl)⟩) (wg_30 G _) rfl rfl hl.1 rfl (Nat.le_of_ble_eq_true rfl) dX6_quickestNow_3 ⟨Nat.zero_le _, Nat.zero_le _⟩ (fun r2 σ1 H locs hw hk => ?_)
  exact k_iret X hk hw dX6_quickestNow_6
def rm_X6_safe : Room := { frames := 3, cells := 0, slots := 0, locals := 68 }
abbrev wz_X6_safe : List Cond := Cond.code yX6_safe cX6_safe 2 (some .int) :: wsA
theorem hd_X6_safe : yX6_safe.cls = RX6 ∧ yX6_safe.cls ≠ "java/lang/invoke/MethodHandle" ∧ yX6_safe.cls ≠ "java/lang/invoke/VarHandle" ∧ (parseMethodDescriptor yX6_safe.desc).map (fun d => d.parameters.length) = some 1 := by decide +kernel
def wp_X6_safe (σ : Sg) (p1 : Int32) (Q : Int32 → Sg → Prop) : Prop := wp_X6_isMinute (put σ 30 0 (0 : Int32)) p1 (fun r2 σ1 => (r2 = 0 → (Q (-1 : Int32) σ1)) ∧ (¬ (r2 = 0) → (wp_X6_flows σ1 p1 (fun r5 σ4 => Q r5 σ4))))
set_option maxHeartbeats 4000000 in
set_option maxRecDepth 100000 in
theorem c_X6_safe (l : Launch) (G : Gw) (σ : Sg) (p1 : Int32) (Q : Int32 → Sg → Prop) (hw : wp_X6_safe σ p1 Q) : MetI l yX6_safe wz_X6_safe rm_X6_safe G σ [.ref (G.1 30), .int p1] Q := by
  refine MetI.of cX6_safe 2 (some .int) (by decide) rfl (Nat.le_of_ble_eq_true rfl) ?_
  intro p e s m below meth c X hk ls hl
  have X : KC p m meth c cX6_safe 2 s _ wz_X6_safe RX6 (some .int) G := X
  have hl : lv_has ls 2 [(0, .ref (G.1 30)), (1, .int p1)] := hl
  unfold wp_X6_safe at hw
  have hx := X.1.1
  have hb := X.1.2.1
  refine lv_aload_n hx hb dX6_safe_0 rfl (lv_at hl 0 rfl) ?_
  refine lv_iconst (v := (0 : Int32)) hx hb dX6_safe_1 (by decide) ?_
  refine k_put 0 X hk (wg_30 G _) rfl (hz_wsX60 _) tyX6_ok nmX6 (Nat.le_of_ble_eq_true rfl) (List.mem_cons_of_mem _ (aw_r6 _ (List.mem_of_getElem? (i := 3) rfl))) rfl rfl (Nat.le_of_ble_eq_true rfl) (ws_30_0 G _ _) dX6_safe_2 (fun H locs hk => ?_)
  refine lv_iload_n hx hb dX6_safe_5 rfl (lv_at hl 1 rfl) ?_
  refine k_callSi (rest := []) X hk (c_X6_isMinute l G _ _ _ hw) (va_cwS 1 X.1.2.2.2.2 (gzS (aw_r28 _ (List.mem_of_getElem? (i := 15) rfl)) (aw_r28 _ (List.mem_of_getElem? (i := 16) rfl)) (aw_r1 _ (List.mem_of_getElem? (i := 5) rfl)) (aw_r28 _ (List.mem_of_getElem? (i := 17) rfl))) rfl rfl rfl hds_X6_isMinute ⟨(Nat.le_of_ble_eq_true rfl), (Nat.le_of_ble_eq_true rfl)⟩) rfl hl.1 rfl (Nat.le_of_ble_eq_true rfl) dX6_safe_6 ⟨Nat.zero_le _, Nat.zero_le _⟩ (fun r2 σ1 H locs hw hk => ?_)
  refine lv_if_eq (tgt := 20) hx hb dX6_safe_9 (by decide) (fun c3 => ?_) (fun c3 => ?_)
  · replace hw := hw.1 c3
    refine lv_iconst (v := (-1 : Int32)) hx hb dX6_safe_20 (by decide) ?_
    exact k_iret X hk hw dX6_safe_21
  · replace hw := hw.2 c3
    refine lv_aload_n hx hb dX6_safe_12 rfl (lv_at hl 0 rfl) ?_
    refine lv_iload_n hx hb dX6_safe_13 rfl (lv_at hl 1 rfl) ?_
    refine k_callVi (rest := []) X hk (c_X6_flows l G _ _ _ hw) (cwV 1 X.1.2.2.2.2 (gzV (aw_r28 _ (List.mem_of_getElem? (i := 18) rfl)) (aw_r28 _ (List.mem_of_getElem? (i := 19) rfl)) (aw_r28 _ (List.mem_of_getElem? (i := 20) rfl)) (aw_r1 _ (List.mem_of_getElem? (i := 5) rfl)) (aw_r28 _ (List.mem_of_getElem? (i := 21) rfl))) rfl rfl rfl hd_X6_flows ⟨(Nat.le_of_ble_eq_true rfl), (Nat.le_of_ble_eq_true rfl)⟩) (wg_30 G _) rfl rfl hl.1 rfl (Nat.le_of_ble_eq_true rfl) dX6_safe_14 ⟨Nat.zero_le _, Nat.zero_le _⟩ (fun r5 σ4 H locs hw hk => ?_)
    refine lv_goto (tgt := 21) hx hb dX6_safe_17 (by decide) ?_
    exact k_iret X hk hw dX6_safe_21
def rm_X6_quickest : Room := { frames := 6, cells := 0, slots := 0, locals := 133 }
abbrev wz_X6_quickest : List Cond := Cond.code yX6_quickest cX6_quickest 1 (some .int) :: wsA
theorem hd_X6_quickest : yX6_quickest.cls = RX6 ∧ yX6_quickest.cls ≠ "java/lang/invoke/MethodHandle" ∧ yX6_quickest.cls ≠ "java/lang/invoke/VarHandle" ∧ (parseMethodDescriptor yX6_quickest.desc).map (fun d => d.parameters.length) = some 0 := by decide +kernel
def wp_X6_quickest (σ : Sg) (Q : Int32 → Sg → Prop) : Prop := wp_X6_quickestNow (put σ 30 0 (0 : Int32))  (fun r2 σ1 => Q r2 σ1)
set_option maxHeartbeats 4000000 in
set_option maxRecDepth 100000 in
theorem c_X6_quickest (l : Launch) (G : Gw) (σ : Sg) (Q : Int32 → Sg → Prop) (hw : wp_X6_quickest σ  Q) : MetI l yX6_quickest wz_X6_quickest rm_X6_quickest G σ [.ref (G.1 30)] Q := by
  refine MetI.of cX6_quickest 1 (some .int) (by decide) rfl (Nat.le_of_ble_eq_true rfl) ?_
  intro p e s m below meth c X hk ls hl
  have X : KC p m meth c cX6_quickest 1 s _ wz_X6_quickest RX6 (some .int) G := X
  have hl : lv_has ls 1 [(0, .ref (G.1 30))] := hl
  unfold wp_X6_quickest at hw
  have hx := X.1.1
  have hb := X.1.2.1
  refine lv_aload_n hx hb dX6_quickest_0 rfl (lv_at hl 0 rfl) ?_
  refine lv_iconst (v := (0 : Int32)) hx hb dX6_quickest_1 (by decide) ?_
  refine k_put 0 X hk (wg_30 G _) rfl (hz_wsX60 _) tyX6_ok nmX6 (Nat.le_of_ble_eq_true rfl) (List.mem_cons_of_mem _ (aw_r6 _ (List.mem_of_getElem? (i := 3) rfl))) rfl rfl (Nat.le_of_ble_eq_true rfl) (ws_30_0 G _ _) dX6_quickest_2 (fun H locs hk => ?_)
  refine lv_aload_n hx hb dX6_quickest_5 rfl (lv_at hl 0 rfl) ?_
  refine k_callVi (rest := []) X hk (c_X6_quickestNow l G _  _ hw) (cwV 0 X.1.2.2.2.2 (gzV (aw_r31 _ (List.mem_of_getElem? (i := 5) rfl)) (aw_r31 _ (List.mem_of_getElem? (i := 6) rfl)) (aw_r31 _ (List.mem_of_getElem? (i := 7) rfl)) (aw_r1 _ (List.mem_of_getElem? (i := 5) rfl)) (aw_r31 _ (List.mem_of_getElem? (i := 8) rfl))) rfl rfl rfl hd_X6_quickestNow ⟨(Nat.le_of_ble_eq_true rfl), (Nat.le_of_ble_eq_true rfl)⟩) (wg_30 G _) rfl rfl hl.1 rfl (Nat.le_of_ble_eq_true rfl) dX6_quickest_6 ⟨Nat.zero_le _, Nat.zero_le _⟩ (fun r2 σ1 H locs hw hk => ?_)
  exact k_iret X hk hw dX6_quickest_9
def rm_X6_looksBack : Room := { frames := 0, cells := 0, slots := 0, locals := 0 }
abbrev wz_X6_looksBack : List Cond := Cond.code yX6_looksBack cX6_looksBack 4 none :: wsA
theorem hd_X6_looksBack : yX6_looksBack.cls = RX6 ∧ yX6_looksBack.cls ≠ "java/lang/invoke/MethodHandle" ∧ yX6_looksBack.cls ≠ "java/lang/invoke/VarHandle" ∧ (parseMethodDescriptor yX6_looksBack.desc).map (fun d => d.parameters.length) = some 0 := by decide +kernel
def wp_X6_looksBack_117 (Q : Sg → Prop) (K40 : Int32 → Int32 → Sg → Prop) (K57 : Int32 → Int32 → Int32 → Sg → Prop) (x1 x2 x3 : Int32) (σ : Sg) : Prop := vp_in x3 4000 ∧ (∀ x3_7 : Int32, x3_7 = (σ 35 (x3).toNatClampNeg) → (K57 x1 x2 x3_7 σ))
set_option maxHeartbeats 4000000 in
set_option maxRecDepth 100000 in
theorem t_X6_looksBack_117 {p : Program} {l : Launch} {e : Env} {s : State} {m : MethodId} {args : Array Value} {below : List Frame} {meth : Method} {c : Code} {G : Gw} (X : KC p m meth c cX6_looksBack 4 s args wz_X6_looksBack RX6 none G) (Q : Sg → Prop) (K40 : Int32 → Int32 → Sg → Prop) (K57 : Int32 → Int32 → Int32 → Sg → Prop) (hK40 : ∀ (σ : Sg) (x1 x2 : Int32) (H : Heap) (locs : List Loc) (ls : Array Slot), K40 x1 x2 σ → WK G s H locs σ → lv_has ls 4 [(0, .ref (G.1 30)), (1, .int x1), (2, .int x2)] → W p l e rm_X6_looksBack s m args below meth c H locs 0 0 (ZV below args s G Q) (F0 m 40 ls [])) (hK57 : ∀ (σ : Sg) (x1 x2 x3 : Int32) (H : Heap) (locs : List Loc) (ls : Array Slot), K57 x1 x2 x3 σ → WK G s H locs σ → lv_has ls 4 [(0, .ref (G.1 30)), (1, .int x1), (2, .int x2), (3, .int x3)] → W p l e rm_X6_looksBack s m args below meth c H locs 0 0 (ZV below args s G Q) (F0 m 57 ls [])) : ∀ (σ : Sg) (x1 x2 x3 : Int32) (H : Heap) (locs : List Loc) (ls : Array Slot), wp_X6_looksBack_117 Q K40 K57 x1 x2 x3 σ → WK G s H locs σ → lv_has ls 4 [(0, .ref (G.1 30)), (1, .int x1), (2, .int x2), (3, .int x3)] → W p l e rm_X6_looksBack s m args below meth c H locs 0 0 (ZV below args s G Q) (F0 m 117 ls []) := by
  have hx := X.1.1
  have hb := X.1.2.1
  intro σ x1 x2 x3 H locs ls hw hk hl
  unfold wp_X6_looksBack_117 at hw
  refine lv_aload_n hx hb dX6_looksBack_117 rfl (lv_at hl 0 rfl) ?_
  refine k_get 10 X hk (wg_30 G _) rfl (hz_wsX60 _) (Nat.le_of_ble_eq_true rfl) (List.mem_cons_of_mem _ (aw_r4 _ (List.mem_of_getElem? (i := 20) rfl))) rfl dX6_looksBack_118 ?_
  refine lv_iload_n hx hb dX6_looksBack_121 rfl (lv_at hl 3 rfl) ?_
  refine k_iald X hk (wg_35 G _) hw.1 dX6_looksBack_122 ?_
  replace hw := hw.2
  refine lv_topi (fun x3_7 ex3_7 => ?_)
  replace hw := hw x3_7 ex3_7
  refine lv_istore_n (lv' := [(3, .int x3_7), (0, .ref (G.1 30)), (1, .int x1), (2, .int x2)]) hx hb dX6_looksBack_123 rfl hl (Nat.le_of_ble_eq_true rfl) rfl (fun ls hl => ?_)
  refine lv_goto (tgt := 57) hx hb dX6_looksBack_124 (by decide) ?_
  exact hK57 _ _ _ _ _ _ _ hw hk (lv_sub hl [1, 2, 3, 0] rfl)
def wp_X6_looksBack_57 (Q : Sg → Prop) (K40 : Int32 → Int32 → Sg → Prop) : Nat → Int32 → Int32 → Int32 → Sg → Prop
  | 0, _, _, _, _ => False
  | n + 1, x1, x2, x3, σ => (x3 = (-1 : Int32) → (∀ x2_5 : Int32, x2_5 = (x2 + (1 : Int32)) → (K40 x1 x2_5 σ))) ∧ (¬ (x3 = (-1 : Int32)) → (vp_in (x3 ^^^ (1 : Int32)) 4000 ∧ (((σ 37 ((x3 ^^^ (1 : Int32))).toNatClampNeg) = 0 → (wp_X6_looksBack_117 Q K40 (fun z1 z2 z3 σ => wp_X6_looksBack_57 Q K40 n z1 z2 z3 σ) x1 x2 x3 σ)) ∧ (¬ ((σ 37 ((x3 ^^^ (1 : Int32))).toNatClampNeg) = 0) → (vp_in x3 4000 ∧ (vp_in (σ 36 (x3).toNatClampNeg) 346 ∧ (((σ 40 ((σ 36 (x3).toNatClampNeg)).toNatClampNeg) = 0 → (vp_in x3 4000 ∧ (vp_in (σ 36 (x3).toNatClampNeg) 346 ∧ (vp_in x3 4000 ∧ (vp_in x1 346 ∧ (∀ x1_9 : Int32, x1_9 = (x1 + (1 : Int32)) → (wp_X6_looksBack_117 Q K40 (fun z1 z2 z3 σ => wp_X6_looksBack_57 Q K40 n z1 z2 z3 σ) x1_9 x2 x3 (put (put σ 40 ((σ 36 (x3).toNatClampNeg)).toNatClampNeg (vp_nar .boolean (1 : Int32))) 39 (x1).toNatClampNeg ((put σ 40 ((σ 36 (x3).toNatClampNeg)).toNatClampNeg (vp_nar .boolean (1 : Int32))) 36 (x3).toNatClampNeg))))))))) ∧ (¬ ((σ 40 ((σ 36 (x3).toNatClampNeg)).toNatClampNeg) = 0) → (wp_X6_looksBack_117 Q K40 (fun z1 z2 z3 σ => wp_X6_looksBack_57 Q K40 n z1 z2 z3 σ) x1 x2 x3 σ)))))))))
set_option maxHeartbeats 4000000 in
set_option maxRecDepth 100000 in
theorem t_X6_looksBack_57 {p : Program} {l : Launch} {e : Env} {s : State} {m : MethodId} {args : Array Value} {below : List Frame} {meth : Method} {c : Code} {G : Gw} (X : KC p m meth c cX6_looksBack 4 s args wz_X6_looksBack RX6 none G) (Q : Sg → Prop) (K40 : Int32 → Int32 → Sg → Prop) (hK40 : ∀ (σ : Sg) (x1 x2 : Int32) (H : Heap) (locs : List Loc) (ls : Array Slot), K40 x1 x2 σ → WK G s H locs σ → lv_has ls 4 [(0, .ref (G.1 30)), (1, .int x1), (2, .int x2)] → W p l e rm_X6_looksBack s m args below meth c H locs 0 0 (ZV below args s G Q) (F0 m 40 ls [])) : ∀ (n : Nat) (σ : Sg) (x1 x2 x3 : Int32) (H : Heap) (locs : List Loc) (ls : Array Slot), wp_X6_looksBack_57 Q K40 n x1 x2 x3 σ → WK G s H locs σ → lv_has ls 4 [(0, .ref (G.1 30)), (1, .int x1), (2, .int x2), (3, .int x3)] → W p l e rm_X6_looksBack s m args below meth c H locs 0 0 (ZV below args s G Q) (F0 m 57 ls []) := by
  have hx := X.1.1
  have hb := X.1.2.1
  intro n
  induction n with
  | zero =>
    intro σ x1 x2 x3 H locs ls hw hk hl
    exact False.elim hw
  | succ n ih =>
    intro σ x1 x2 x3 H locs ls hw hk hl
    rw [wp_X6_looksBack_57] at hw
    refine lv_iload_n hx hb dX6_looksBack_57 rfl (lv_at hl 3 rfl) ?_
    refine lv_iconst (v := (-1 : Int32)) hx hb dX6_looksBack_58 (by decide) ?_
    refine lv_icmp_eq (tgt := 127) hx hb dX6_looksBack_59 (by decide) (fun c4 => ?_) (fun c4 => ?_)
    · replace hw := hw.1 c4
      obtain ⟨x2_5, ex2_5⟩ : ∃ y : Int32, y = (x2 + (1 : Int32)) := ⟨_, rfl⟩
      replace hw := hw x2_5 ex2_5
      refine lv_iinc (v := x2_5) (lv' := [(2, .int x2_5), (0, .ref (G.1 30)), (1, .int x1), (3, .int x3)]) hx hb dX6_looksBack_127 hl (k := 2) rfl (by rw [ex2_5]; rfl) (Nat.le_of_ble_eq_true rfl) rfl (fun ls hl => ?_)
      refine lv_goto (tgt := 40) hx hb dX6_looksBack_130 (by decide) ?_
      exact hK40 _ _ _ _ _ _ hw hk (lv_sub hl [1, 2, 0] rfl)
    · replace hw := hw.2 c4
      refine lv_aload_n hx hb dX6_looksBack_62 rfl (lv_at hl 0 rfl) ?_
      refine k_get 12 X hk (wg_30 G _) rfl (hz_wsX60 _) (Nat.le_of_ble_eq_true rfl) (List.mem_cons_of_mem _ (aw_r4 _ (List.mem_of_getElem? (i := 22) rfl))) rfl dX6_looksBack_63 ?_
      refine lv_iload_n hx hb dX6_looksBack_66 rfl (lv_at hl 3 rfl) ?_
      refine lv_iconst (v := (1 : Int32)) hx hb dX6_looksBack_67 (by decide) ?_
      refine lv_ixor hx hb dX6_looksBack_68 ?_
      refine k_iald X hk (wg_37 G _) hw.1 dX6_looksBack_69 ?_
      replace hw := hw.2
      refine lv_if_eq (tgt := 117) hx hb dX6_looksBack_70 (by decide) (fun c6 => ?_) (fun c6 => ?_)
      · replace hw := hw.1 c6
        exact t_X6_looksBack_117 X Q _ _ hK40 ih _ _ _ _ _ _ _ hw hk hl
      · replace hw := hw.2 c6
        refine lv_aload_n hx hb dX6_looksBack_73 rfl (lv_at hl 0 rfl) ?_
        refine k_get 15 X hk (wg_30 G _) rfl (hz_wsX60 _) (Nat.le_of_ble_eq_true rfl) (List.mem_cons_of_mem _ (aw_r5 _ (List.mem_of_getElem? (i := 2) rfl))) rfl dX6_looksBack_74 ?_
        refine lv_aload_n hx hb dX6_looksBack_77 rfl (lv_at hl 0 rfl) ?_
        refine k_get 11 X hk (wg_30 G _) rfl (hz_wsX60 _) (Nat.le_of_ble_eq_true rfl) (List.mem_cons_of_mem _ (aw_r4 _ (List.mem_of_getElem? (i := 21) rfl))) rfl dX6_looksBack_78 ?_
        refine lv_iload_n hx hb dX6_looksBack_81 rfl (lv_at hl 3 rfl) ?_
        refine k_iald X hk (wg_36 G _) hw.1 dX6_looksBack_82 ?_
        replace hw := hw.2
        refine k_zald X hk (wg_40 G _) hw.1 dX6_looksBack_83 ?_
        replace hw := hw.2
        refine lv_if_eq (tgt := 90) hx hb dX6_looksBack_84 (by decide) (fun c8 => ?_) (fun c8 => ?_)
        · replace hw := hw.1 c8
          refine lv_aload_n hx hb dX6_looksBack_90 rfl (lv_at hl 0 rfl) ?_
          refine k_get 15 X hk (wg_30 G _) rfl (hz_wsX60 _) (Nat.le_of_ble_eq_true rfl) (List.mem_cons_of_mem _ (aw_r5 _ (List.mem_of_getElem? (i := 2) rfl))) rfl dX6_looksBack_91 ?_
          refine lv_aload_n hx hb dX6_looksBack_94 rfl (lv_at hl 0 rfl) ?_
          refine k_get 11 X hk (wg_30 G _) rfl (hz_wsX60 _) (Nat.le_of_ble_eq_true rfl) (List.mem_cons_of_mem _ (aw_r4 _ (List.mem_of_getElem? (i := 21) rfl))) rfl dX6_looksBack_95 ?_
          refine lv_iload_n hx hb dX6_looksBack_98 rfl (lv_at hl 3 rfl) ?_
          refine k_iald X hk (wg_36 G _) hw.1 dX6_looksBack_99 ?_
          replace hw := hw.2
          refine lv_iconst (v := (1 : Int32)) hx hb dX6_looksBack_100 (by decide) ?_
          refine k_zast X hk (wg_40 G _) (ws_40 G _) rfl hw.1 dX6_looksBack_101 (fun H locs hk => ?_)
          replace hw := hw.2
          refine lv_aload_n hx hb dX6_looksBack_102 rfl (lv_at hl 0 rfl) ?_
          refine k_get 14 X hk (wg_30 G _) rfl (hz_wsX60 _) (Nat.le_of_ble_eq_true rfl) (List.mem_cons_of_mem _ (aw_r5 _ (List.mem_of_getElem? (i := 0) rfl))) rfl dX6_looksBack_103 ?_
          refine lv_iload_n hx hb dX6_looksBack_106 rfl (lv_at hl 1 rfl) ?_
          refine lv_aload_n hx hb dX6_looksBack_107 rfl (lv_at hl 0 rfl) ?_
          refine k_get 11 X hk (wg_30 G _) rfl (hz_wsX60 _) (Nat.le_of_ble_eq_true rfl) (List.mem_cons_of_mem _ (aw_r4 _ (List.mem_of_getElem? (i := 21) rfl))) rfl dX6_looksBack_108 ?_
          refine lv_iload_n hx hb dX6_looksBack_111 rfl (lv_at hl 3 rfl) ?_
          refine k_iald X hk (wg_36 G _) hw.1 dX6_looksBack_112 ?_
          replace hw := hw.2
          refine k_iast X hk (wg_39 G _) (ws_39 G _) rfl hw.1 dX6_looksBack_113 (fun H locs hk => ?_)
          replace hw := hw.2
          obtain ⟨x1_9, ex1_9⟩ : ∃ y : Int32, y = (x1 + (1 : Int32)) := ⟨_, rfl⟩
          replace hw := hw x1_9 ex1_9
          refine lv_iinc (v := x1_9) (lv' := [(1, .int x1_9), (0, .ref (G.1 30)), (2, .int x2), (3, .int x3)]) hx hb dX6_looksBack_114 hl (k := 1) rfl (by rw [ex1_9]; rfl) (Nat.le_of_ble_eq_true rfl) rfl (fun ls hl => ?_)
          exact t_X6_looksBack_117 X Q _ _ hK40 ih _ _ _ _ _ _ _ hw hk (lv_sub hl [1, 0, 2, 3] rfl)
        · replace hw := hw.2 c8
          refine lv_goto (tgt := 117) hx hb dX6_looksBack_87 (by decide) ?_
          exact t_X6_looksBack_117 X Q _ _ hK40 ih _ _ _ _ _ _ _ hw hk hl
def wp_X6_looksBack_40 (Q : Sg → Prop)  : Nat → Int32 → Int32 → Sg → Prop
  | 0, _, _, _ => False
  | n + 1, x1, x2, σ => (x1 ≤ x2 → (Q σ)) ∧ (¬ (x1 ≤ x2) → (vp_in x2 346 ∧ (vp_in (σ 39 (x2).toNatClampNeg) 346 ∧ (∀ x3_3 : Int32, x3_3 = (σ 34 ((σ 39 (x2).toNatClampNeg)).toNatClampNeg) → (∃ n0, wp_X6_looksBack_57 Q (fun z1 z2 σ => wp_X6_looksBack_40 Q  n z1 z2 σ) n0 x1 x2 x3_3 σ)))))
set_option maxHeartbeats 4000000 in
set_option maxRecDepth 100000 in
theorem t_X6_looksBack_40 {p : Program} {l : Launch} {e : Env} {s : State} {m : MethodId} {args : Array Value} {below : List Frame} {meth : Method} {c : Code} {G : Gw} (X : KC p m meth c cX6_looksBack 4 s args wz_X6_looksBack RX6 none G) (Q : Sg → Prop)  : ∀ (n : Nat) (σ : Sg) (x1 x2 : Int32) (H : Heap) (locs : List Loc) (ls : Array Slot), wp_X6_looksBack_40 Q  n x1 x2 σ → WK G s H locs σ → lv_has ls 4 [(0, .ref (G.1 30)), (1, .int x1), (2, .int x2)] → W p l e rm_X6_looksBack s m args below meth c H locs 0 0 (ZV below args s G Q) (F0 m 40 ls []) := by
  have hx := X.1.1
  have hb := X.1.2.1
  intro n
  induction n with
  | zero =>
    intro σ x1 x2 H locs ls hw hk hl
    exact False.elim hw
  | succ n ih =>
    intro σ x1 x2 H locs ls hw hk hl
    rw [wp_X6_looksBack_40] at hw
    refine lv_iload_n hx hb dX6_looksBack_40 rfl (lv_at hl 2 rfl) ?_
    refine lv_iload_n hx hb dX6_looksBack_41 rfl (lv_at hl 1 rfl) ?_
    refine lv_icmp_ge (tgt := 133) hx hb dX6_looksBack_42 (by decide) (fun c2 => ?_) (fun c2 => ?_)
    · replace hw := hw.1 c2
      exact k_vret X hk hw dX6_looksBack_133
    · replace hw := hw.2 c2
      refine lv_aload_n hx hb dX6_looksBack_45 rfl (lv_at hl 0 rfl) ?_
      refine k_get 9 X hk (wg_30 G _) rfl (hz_wsX60 _) (Nat.le_of_ble_eq_true rfl) (List.mem_cons_of_mem _ (aw_r4 _ (List.mem_of_getElem? (i := 19) rfl))) rfl dX6_looksBack_46 ?_
      refine lv_aload_n hx hb dX6_looksBack_49 rfl (lv_at hl 0 rfl) ?_
      refine k_get 14 X hk (wg_30 G _) rfl (hz_wsX60 _) (Nat.le_of_ble_eq_true rfl) (List.mem_cons_of_mem _ (aw_r5 _ (List.mem_of_getElem? (i := 0) rfl))) rfl dX6_looksBack_50 ?_
      refine lv_iload_n hx hb dX6_looksBack_53 rfl (lv_at hl 2 rfl) ?_
      refine k_iald X hk (wg_39 G _) hw.1 dX6_looksBack_54 ?_
      replace hw := hw.2
      refine k_iald X hk (wg_34 G _) hw.1 dX6_looksBack_55 ?_
      replace hw := hw.2
      refine lv_topi (fun x3_3 ex3_3 => ?_)
      replace hw := hw x3_3 ex3_3
      refine lv_istore_n (lv' := [(3, .int x3_3), (0, .ref (G.1 30)), (1, .int x1), (2, .int x2)]) hx hb dX6_looksBack_56 rfl hl (Nat.le_of_ble_eq_true rfl) rfl (fun ls hl => ?_)
      obtain ⟨n0, hw⟩ := hw
      exact t_X6_looksBack_57 X Q _ ih n0 _ _ _ _ _ _ _ hw hk (lv_sub hl [1, 2, 3, 0] rfl)
def wp_X6_looksBack_2 (Q : Sg → Prop)  : Nat → Int32 → Sg → Prop
  | 0, _, _ => False
  | n + 1, x1, σ => ((346 : Int32) ≤ x1 → (vp_in (1 : Int32) 346 ∧ (vp_in (0 : Int32) 346 ∧ (∃ n0, wp_X6_looksBack_40 Q  n0 (1 : Int32) (0 : Int32) (put (put σ 40 ((1 : Int32)).toNatClampNeg (vp_nar .boolean (1 : Int32))) 39 ((0 : Int32)).toNatClampNeg (1 : Int32)))))) ∧ (¬ ((346 : Int32) ≤ x1) → (vp_in x1 346 ∧ (∀ x1_10 : Int32, x1_10 = (x1 + (1 : Int32)) → (wp_X6_looksBack_2 Q  n x1_10 (put σ 40 (x1).toNatClampNeg (vp_nar .boolean (0 : Int32)))))))
set_option maxHeartbeats 4000000 in
set_option maxRecDepth 100000 in
theorem t_X6_looksBack_2 {p : Program} {l : Launch} {e : Env} {s : State} {m : MethodId} {args : Array Value} {below : List Frame} {meth : Method} {c : Code} {G : Gw} (X : KC p m meth c cX6_looksBack 4 s args wz_X6_looksBack RX6 none G) (Q : Sg → Prop)  : ∀ (n : Nat) (σ : Sg) (x1 : Int32) (H : Heap) (locs : List Loc) (ls : Array Slot), wp_X6_looksBack_2 Q  n x1 σ → WK G s H locs σ → lv_has ls 4 [(0, .ref (G.1 30)), (1, .int x1)] → W p l e rm_X6_looksBack s m args below meth c H locs 0 0 (ZV below args s G Q) (F0 m 2 ls []) := by
  have hx := X.1.1
  have hb := X.1.2.1
  intro n
  induction n with
  | zero =>
    intro σ x1 H locs ls hw hk hl
    exact False.elim hw
  | succ n ih =>
    intro σ x1 H locs ls hw hk hl
    rw [wp_X6_looksBack_2] at hw
    refine lv_iload_n hx hb dX6_looksBack_2 rfl (lv_at hl 1 rfl) ?_
    refine lv_sipush (v := (346 : Int32)) hx hb dX6_looksBack_3 (by decide) ?_
    refine lv_icmp_ge (tgt := 22) hx hb dX6_looksBack_6 (by decide) (fun c1 => ?_) (fun c1 => ?_)
    · replace hw := hw.1 c1
      refine lv_aload_n hx hb dX6_looksBack_22 rfl (lv_at hl 0 rfl) ?_
      refine k_get 15 X hk (wg_30 G _) rfl (hz_wsX60 _) (Nat.le_of_ble_eq_true rfl) (List.mem_cons_of_mem _ (aw_r5 _ (List.mem_of_getElem? (i := 2) rfl))) rfl dX6_looksBack_23 ?_
      refine lv_iconst (v := (1 : Int32)) hx hb dX6_looksBack_26 (by decide) ?_
      refine lv_iconst (v := (1 : Int32)) hx hb dX6_looksBack_27 (by decide) ?_
      refine k_zast X hk (wg_40 G _) (ws_40 G _) rfl hw.1 dX6_looksBack_28 (fun H locs hk => ?_)
      replace hw := hw.2
      refine lv_aload_n hx hb dX6_looksBack_29 rfl (lv_at hl 0 rfl) ?_
      refine k_get 14 X hk (wg_30 G _) rfl (hz_wsX60 _) (Nat.le_of_ble_eq_true rfl) (List.mem_cons_of_mem _ (aw_r5 _ (List.mem_of_getElem? (i := 0) rfl))) rfl dX6_looksBack_30 ?_
      refine lv_iconst (v := (0 : Int32)) hx hb dX6_looksBack_33 (by decide) ?_
      refine lv_iconst (v := (1 : Int32)) hx hb dX6_looksBack_34 (by decide) ?_
      refine k_iast X hk (wg_39 G _) (ws_39 G _) rfl hw.1 dX6_looksBack_35 (fun H locs hk => ?_)
      replace hw := hw.2
      refine lv_iconst (v := (1 : Int32)) hx hb dX6_looksBack_36 (by decide) ?_
      refine lv_istore_n (lv' := [(1, .int (1 : Int32)), (0, .ref (G.1 30))]) hx hb dX6_looksBack_37 rfl hl (Nat.le_of_ble_eq_true rfl) rfl (fun ls hl => ?_)
      refine lv_iconst (v := (0 : Int32)) hx hb dX6_looksBack_38 (by decide) ?_
      refine lv_istore_n (lv' := [(2, .int (0 : Int32)), (1, .int (1 : Int32)), (0, .ref (G.1 30))]) hx hb dX6_looksBack_39 rfl hl (Nat.le_of_ble_eq_true rfl) rfl (fun ls hl => ?_)
      obtain ⟨n0, hw⟩ := hw
      exact t_X6_looksBack_40 X Q   n0 _ _ _ _ _ _ hw hk (lv_sub hl [2, 1, 0] rfl)
    · replace hw := hw.2 c1
      refine lv_aload_n hx hb dX6_looksBack_9 rfl (lv_at hl 0 rfl) ?_
      refine k_get 15 X hk (wg_30 G _) rfl (hz_wsX60 _) (Nat.le_of_ble_eq_true rfl) (List.mem_cons_of_mem _ (aw_r5 _ (List.mem_of_getElem? (i := 2) rfl))) rfl dX6_looksBack_10 ?_
      refine lv_iload_n hx hb dX6_looksBack_13 rfl (lv_at hl 1 rfl) ?_
      refine lv_iconst (v := (0 : Int32)) hx hb dX6_looksBack_14 (by decide) ?_
      refine k_zast X hk (wg_40 G _) (ws_40 G _) rfl hw.1 dX6_looksBack_15 (fun H locs hk => ?_)
      replace hw := hw.2
      obtain ⟨x1_10, ex1_10⟩ : ∃ y : Int32, y = (x1 + (1 : Int32)) := ⟨_, rfl⟩
      replace hw := hw x1_10 ex1_10
      refine lv_iinc (v := x1_10) (lv' := [(1, .int x1_10), (0, .ref (G.1 30))]) hx hb dX6_looksBack_16 hl (k := 1) rfl (by rw [ex1_10]; rfl) (Nat.le_of_ble_eq_true rfl) rfl (fun ls hl => ?_)
      refine lv_goto (tgt := 2) hx hb dX6_looksBack_19 (by decide) ?_
      exact ih _ _ _ _ _ hw hk (lv_sub hl [1, 0] rfl)
def wp_X6_looksBack (σ : Sg) (Q : Sg → Prop) : Prop := ∃ n0, wp_X6_looksBack_2 Q  n0 (0 : Int32) σ
set_option maxHeartbeats 4000000 in
set_option maxRecDepth 100000 in
theorem c_X6_looksBack (l : Launch) (G : Gw) (σ : Sg) (Q : Sg → Prop) (hw : wp_X6_looksBack σ  Q) : MetV l yX6_looksBack wz_X6_looksBack rm_X6_looksBack G σ [.ref (G.1 30)] Q := by
  refine MetV.of cX6_looksBack 4 none (by decide) rfl (Nat.le_of_ble_eq_true rfl) ?_
  intro p e s m below meth c X hk ls hl
  have X : KC p m meth c cX6_looksBack 4 s _ wz_X6_looksBack RX6 none G := X
  have hl : lv_has ls 4 [(0, .ref (G.1 30))] := hl
  unfold wp_X6_looksBack at hw
  have hx := X.1.1
  have hb := X.1.2.1
  refine lv_iconst (v := (0 : Int32)) hx hb dX6_looksBack_0 (by decide) ?_
  refine lv_istore_n (lv' := [(1, .int (0 : Int32)), (0, .ref (G.1 30))]) hx hb dX6_looksBack_1 rfl hl (Nat.le_of_ble_eq_true rfl) rfl (fun ls hl => ?_)
  obtain ⟨n0, hw⟩ := hw
  exact t_X6_looksBack_2 X Q   n0 _ _ _ _ _ hw hk (lv_sub hl [1, 0] rfl)
def rm_X6_open : Room := { frames := 3, cells := 0, slots := 0, locals := 68 }
abbrev wz_X6_open : List Cond := Cond.code yX6_open cX6_open 5 (some .boolean) :: wsA
theorem hd_X6_open : yX6_open.cls = RX6 ∧ yX6_open.cls ≠ "java/lang/invoke/MethodHandle" ∧ yX6_open.cls ≠ "java/lang/invoke/VarHandle" ∧ (parseMethodDescriptor yX6_open.desc).map (fun d => d.parameters.length) = some 3 := by decide +kernel
def wp_X6_open (σ : Sg) (p1 p2 p3 : Int32) (Q : Int32 → Sg → Prop) : Prop := wp_X6_isMinute (put σ 30 0 (0 : Int32)) p1 (fun r2 σ1 => (r2 = 0 → (bz (0 : Int32) ∧ Q (0 : Int32) σ1)) ∧ (¬ (r2 = 0) → (wp_X6_isPlace σ1 p2 (fun r5 σ4 => (r5 = 0 → (bz (0 : Int32) ∧ Q (0 : Int32) σ4)) ∧ (¬ (r5 = 0) → (wp_X6_isIn σ4 p3 (0 : Int32) p1 (fun r8 σ7 => (r8 = 0 → (bz (0 : Int32) ∧ Q (0 : Int32) σ7)) ∧ (¬ (r8 = 0) → (wp_X6_flows σ7 p1 (fun r11 σ10 => wp_X6_looksBack σ10  (fun σ12 => wp_X6_node σ12 p2 p3 (fun r15 σ14 => vp_in r15 346 ∧ (bz (σ14 40 (r15).toNatClampNeg) ∧ Q (σ14 40 (r15).toNatClampNeg) σ14)))))))))))))
set_option maxHeartbeats 4000000 in
set_option maxRecDepth 100000 in
theorem c_X6_open (l : Launch) (G : Gw) (σ : Sg) (p1 p2 p3 : Int32) (Q : Int32 → Sg → Prop) (hw : wp_X6_open σ p1 p2 p3 Q) : MetI l yX6_open wz_X6_open rm_X6_open G σ [.ref (G.1 30), .int p1, .int p2, .int p3] Q := by
  refine MetI.of cX6_open 5 (some .boolean) (by decide) rfl (Nat.le_of_ble_eq_true rfl) ?_
  intro p e s m below meth c X hk ls hl
  have X : KC p m meth c cX6_open 5 s _ wz_X6_open RX6 (some .boolean) G := X
  have hl : lv_has ls 5 [(0, .ref (G.1 30)), (1, .int p1), (2, .int p2), (3, .int p3)] := hl
  unfold wp_X6_open at hw
  have hx := X.1.1
  have hb := X.1.2.1
  refine lv_aload_n hx hb dX6_open_0 rfl (lv_at hl 0 rfl) ?_
  refine lv_iconst (v := (0 : Int32)) hx hb dX6_open_1 (by decide) ?_
  refine k_put 0 X hk (wg_30 G _) rfl (hz_wsX60 _) tyX6_ok nmX6 (Nat.le_of_ble_eq_true rfl) (List.mem_cons_of_mem _ (aw_r6 _ (List.mem_of_getElem? (i := 3) rfl))) rfl rfl (Nat.le_of_ble_eq_true rfl) (ws_30_0 G _ _) dX6_open_2 (fun H locs hk => ?_)
  refine lv_iload_n hx hb dX6_open_5 rfl (lv_at hl 1 rfl) ?_
  refine k_callSi (rest := []) X hk (c_X6_isMinute l G _ _ _ hw) (va_cwS 1 X.1.2.2.2.2 (gzS (aw_r28 _ (List.mem_of_getElem? (i := 15) rfl)) (aw_r28 _ (List.mem_of_getElem? (i := 16) rfl)) (aw_r1 _ (List.mem_of_getElem? (i := 5) rfl)) (aw_r28 _ (List.mem_of_getElem? (i := 17) rfl))) rfl rfl rfl hds_X6_isMinute ⟨(Nat.le_of_ble_eq_true rfl), (Nat.le_of_ble_eq_true rfl)⟩) rfl hl.1 rfl (Nat.le_of_ble_eq_true rfl) dX6_open_6 ⟨Nat.zero_le _, Nat.zero_le _⟩ (fun r2 σ1 H locs hw hk => ?_)
  refine lv_if_eq (tgt := 29) hx hb dX6_open_9 (by decide) (fun c3 => ?_) (fun c3 => ?_)
  · replace hw := hw.1 c3
    refine lv_iconst (v := (0 : Int32)) hx hb dX6_open_29 (by decide) ?_
    exact k_zret X hk hw dX6_open_30
  · replace hw := hw.2 c3
    refine lv_aload_n hx hb dX6_open_12 rfl (lv_at hl 0 rfl) ?_
    refine lv_iload_n hx hb dX6_open_13 rfl (lv_at hl 2 rfl) ?_
    refine k_callVi (rest := []) X hk (c_X6_isPlace l G _ _ _ hw) (cwV 1 X.1.2.2.2.2 (gzV (aw_r20 _ (List.mem_of_getElem? (i := 0) rfl)) (aw_r20 _ (List.mem_of_getElem? (i := 1) rfl)) (aw_r20 _ (List.mem_of_getElem? (i := 2) rfl)) (aw_r1 _ (List.mem_of_getElem? (i := 5) rfl)) (aw_r20 _ (List.mem_of_getElem? (i := 3) rfl))) rfl rfl rfl hd_X6_isPlace ⟨(Nat.le_of_ble_eq_true rfl), (Nat.le_of_ble_eq_true rfl)⟩) (wg_30 G _) rfl rfl hl.1 rfl (Nat.le_of_ble_eq_true rfl) dX6_open_14 ⟨Nat.zero_le _, Nat.zero_le _⟩ (fun r5 σ4 H locs hw hk => ?_)
    refine lv_if_eq (tgt := 29) hx hb dX6_open_17 (by decide) (fun c6 => ?_) (fun c6 => ?_)
    · replace hw := hw.1 c6
      refine lv_iconst (v := (0 : Int32)) hx hb dX6_open_29 (by decide) ?_
      exact k_zret X hk hw dX6_open_30
    · replace hw := hw.2 c6
      refine lv_iload_n hx hb dX6_open_20 rfl (lv_at hl 3 rfl) ?_
      refine lv_iconst (v := (0 : Int32)) hx hb dX6_open_21 (by decide) ?_
      refine lv_iload_n hx hb dX6_open_22 rfl (lv_at hl 1 rfl) ?_
      refine k_callSi (rest := []) X hk (c_X6_isIn l G _ _ _ _ _ hw) (va_cwS 3 X.1.2.2.2.2 (gzS (aw_r6 _ (List.mem_of_getElem? (i := 17) rfl)) (aw_r6 _ (List.mem_of_getElem? (i := 18) rfl)) (aw_r1 _ (List.mem_of_getElem? (i := 5) rfl)) (aw_r6 _ (List.mem_of_getElem? (i := 19) rfl))) rfl rfl rfl hds_X6_isIn ⟨(Nat.le_of_ble_eq_true rfl), (Nat.le_of_ble_eq_true rfl)⟩) rfl hl.1 rfl (Nat.le_of_ble_eq_true rfl) dX6_open_23 ⟨Nat.zero_le _, Nat.zero_le _⟩ (fun r8 σ7 H locs hw hk => ?_)
      refine lv_if_ne (tgt := 31) hx hb dX6_open_26 (by decide) (fun c9 => ?_) (fun c9 => ?_)
      · replace hw := hw.2 c9
        refine lv_aload_n hx hb dX6_open_31 rfl (lv_at hl 0 rfl) ?_
        refine lv_iload_n hx hb dX6_open_32 rfl (lv_at hl 1 rfl) ?_
        refine k_callVi (rest := []) X hk (c_X6_flows l G _ _ _ hw) (cwV 1 X.1.2.2.2.2 (gzV (aw_r28 _ (List.mem_of_getElem? (i := 18) rfl)) (aw_r28 _ (List.mem_of_getElem? (i := 19) rfl)) (aw_r28 _ (List.mem_of_getElem? (i := 20) rfl)) (aw_r1 _ (List.mem_of_getElem? (i := 5) rfl)) (aw_r28 _ (List.mem_of_getElem? (i := 21) rfl))) rfl rfl rfl hd_X6_flows ⟨(Nat.le_of_ble_eq_true rfl), (Nat.le_of_ble_eq_true rfl)⟩) (wg_30 G _) rfl rfl hl.1 rfl (Nat.le_of_ble_eq_true rfl) dX6_open_33 ⟨Nat.zero_le _, Nat.zero_le _⟩ (fun r11 σ10 H locs hw hk => ?_)
        refine lv_istore (lv' := [(4, .int r11), (0, .ref (G.1 30)), (1, .int p1), (2, .int p2), (3, .int p3)]) hx hb dX6_open_36 hl (Nat.le_of_ble_eq_true rfl) rfl (fun ls hl => ?_)
        refine lv_aload_n hx hb dX6_open_38 rfl (lv_at hl 1 rfl) ?_
        refine k_callVv (rest := []) X hk (c_X6_looksBack l G _  _ hw) (cwV 0 X.1.2.2.2.2 (gzV (aw_r32 _ (List.mem_of_getElem? (i := 9) rfl)) (aw_r32 _ (List.mem_of_getElem? (i := 10) rfl)) (aw_r32 _ (List.mem_of_getElem? (i := 11) rfl)) (aw_r1 _ (List.mem_of_getElem? (i := 5) rfl)) (aw_r32 _ (List.mem_of_getElem? (i := 12) rfl))) rfl rfl rfl hd_X6_looksBack ⟨(Nat.le_of_ble_eq_true rfl), (Nat.le_of_ble_eq_true rfl)⟩) (wg_30 G _) rfl rfl hl.1 rfl (Nat.le_of_ble_eq_true rfl) dX6_open_39 ⟨Nat.zero_le _, Nat.zero_le _⟩ (fun σ12 H locs hw hk => ?_)
        refine lv_aload_n hx hb dX6_open_42 rfl (lv_at hl 1 rfl) ?_
        refine k_get 15 X hk (wg_30 G _) rfl (hz_wsX60 _) (Nat.le_of_ble_eq_true rfl) (List.mem_cons_of_mem _ (aw_r5 _ (List.mem_of_getElem? (i := 2) rfl))) rfl dX6_open_43 ?_
        refine lv_iload_n hx hb dX6_open_46 rfl (lv_at hl 3 rfl) ?_
        refine lv_iload_n hx hb dX6_open_47 rfl (lv_at hl 4 rfl) ?_
        refine k_callSi (rest := [.ref (G.1 40)]) X hk (c_X6_node l G _ _ _ _ hw) (va_cwS 2 X.1.2.2.2.2 (gzS (aw_r29 _ (List.mem_of_getElem? (i := 8) rfl)) (aw_r29 _ (List.mem_of_getElem? (i := 9) rfl)) (aw_r1 _ (List.mem_of_getElem? (i := 5) rfl)) (aw_r29 _ (List.mem_of_getElem? (i := 10) rfl))) rfl rfl rfl hds_X6_node ⟨(Nat.le_of_ble_eq_true rfl), (Nat.le_of_ble_eq_true rfl)⟩) rfl hl.1 rfl (Nat.le_of_ble_eq_true rfl) dX6_open_48 ⟨Nat.zero_le _, Nat.zero_le _⟩ (fun r15 σ14 H locs hw hk => ?_)
        refine k_zald X hk (wg_40 G _) hw.1 dX6_open_51 ?_
        replace hw := hw.2
        exact k_zret X hk hw dX6_open_52
      · replace hw := hw.1 c9
        refine lv_iconst (v := (0 : Int32)) hx hb dX6_open_29 (by decide) ?_
        exact k_zret X hk hw dX6_open_30
def rm_X6_openings : Room := { frames := 3, cells := 0, slots := 0, locals := 68 }
abbrev wz_X6_openings : List Cond := Cond.code yX6_openings cX6_openings 6 (some .int) :: wsA
theorem hd_X6_openings : yX6_openings.cls = RX6 ∧ yX6_openings.cls ≠ "java/lang/invoke/MethodHandle" ∧ yX6_openings.cls ≠ "java/lang/invoke/VarHandle" ∧ (parseMethodDescriptor yX6_openings.desc).map (fun d => d.parameters.length) = some 2 := by decide +kernel
def wp_X6_openings_65 (Q : Int32 → Sg → Prop) (K38 : Int32 → Int32 → Int32 → Int32 → Sg → Prop) (x1 x2 x5 y0 y1 : Int32) (σ : Sg) : Prop := ∀ x4_15 : Int32, x4_15 = (y0 + y1) → (∀ x5_16 : Int32, x5_16 = (x5 + (1 : Int32)) → (K38 x1 x2 x4_15 x5_16 σ))
set_option maxHeartbeats 4000000 in
set_option maxRecDepth 100000 in
theorem t_X6_openings_65 {p : Program} {l : Launch} {e : Env} {s : State} {m : MethodId} {args : Array Value} {below : List Frame} {meth : Method} {c : Code} {G : Gw} (X : KC p m meth c cX6_openings 6 s args wz_X6_openings RX6 (some .int) G) (Q : Int32 → Sg → Prop) (K38 : Int32 → Int32 → Int32 → Int32 → Sg → Prop) (hK38 : ∀ (σ : Sg) (x1 x2 x4 x5 : Int32) (H : Heap) (locs : List Loc) (ls : Array Slot), K38 x1 x2 x4 x5 σ → WK G s H locs σ → lv_has ls 6 [(0, .ref (G.1 30)), (1, .int x1), (2, .int x2), (4, .int x4), (5, .int x5)] → W p l e rm_X6_openings s m args below meth c H locs 0 0 (ZI below args s G Q) (F0 m 38 ls [])) : ∀ (σ : Sg) (x1 x2 x5 y0 y1 : Int32) (H : Heap) (locs : List Loc) (ls : Array Slot), wp_X6_openings_65 Q K38 x1 x2 x5 y0 y1 σ → WK G s H locs σ → lv_has ls 6 [(0, .ref (G.1 30)), (1, .int x1), (2, .int x2), (5, .int x5)] → W p l e rm_X6_openings s m args below meth c H locs 0 0 (ZI below args s G Q) (F0 m 65 ls [.int y1, .int y0]) := by
  have hx := X.1.1
  have hb := X.1.2.1
  intro σ x1 x2 x5 y0 y1 H locs ls hw hk hl
  unfold wp_X6_openings_65 at hw
  refine lv_iadd hx hb dX6_openings_65 ?_
  refine lv_topi (fun x4_15 ex4_15 => ?_)
  replace hw := hw x4_15 ex4_15
  refine lv_istore (lv' := [(4, .int x4_15), (0, .ref (G.1 30)), (1, .int x1), (2, .int x2), (5, .int x5)]) hx hb dX6_openings_66 hl (Nat.le_of_ble_eq_true rfl) rfl (fun ls hl => ?_)
  obtain ⟨x5_16, ex5_16⟩ : ∃ y : Int32, y = (x5 + (1 : Int32)) := ⟨_, rfl⟩
  replace hw := hw x5_16 ex5_16
  refine lv_iinc (v := x5_16) (lv' := [(5, .int x5_16), (4, .int x4_15), (0, .ref (G.1 30)), (1, .int x1), (2, .int x2)]) hx hb dX6_openings_68 hl (k := 4) rfl (by rw [ex5_16]; rfl) (Nat.le_of_ble_eq_true rfl) rfl (fun ls hl => ?_)
  refine lv_goto (tgt := 38) hx hb dX6_openings_71 (by decide) ?_
  exact hK38 _ _ _ _ _ _ _ _ hw hk (lv_sub hl [2, 3, 4, 1, 0] rfl)
def wp_X6_openings_38 (Q : Int32 → Sg → Prop)  : Nat → Int32 → Int32 → Int32 → Int32 → Sg → Prop
  | 0, _, _, _, _, _ => False
  | n + 1, x1, x2, x4, x5, σ => (x1 < x5 → (Q x4 σ)) ∧ (¬ (x1 < x5) → (wp_X6_node σ x2 x5 (fun r13 σ12 => vp_in r13 346 ∧ (((σ12 40 (r13).toNatClampNeg) = 0 → (wp_X6_openings_65 Q (fun z1 z2 z4 z5 σ => wp_X6_openings_38 Q  n z1 z2 z4 z5 σ) x1 x2 x5 x4 (0 : Int32) σ12)) ∧ (¬ ((σ12 40 (r13).toNatClampNeg) = 0) → (wp_X6_openings_65 Q (fun z1 z2 z4 z5 σ => wp_X6_openings_38 Q  n z1 z2 z4 z5 σ) x1 x2 x5 x4 (1 : Int32) σ12))))))
set_option maxHeartbeats 4000000 in
set_option maxRecDepth 100000 in
theorem t_X6_openings_38 {p : Program} {l : Launch} {e : Env} {s : State} {m : MethodId} {args : Array Value} {below : List Frame} {meth : Method} {c : Code} {G : Gw} (X : KC p m meth c cX6_openings 6 s args wz_X6_openings RX6 (some .int) G) (Q : Int32 → Sg → Prop)  : ∀ (n : Nat) (σ : Sg) (x1 x2 x4 x5 : Int32) (H : Heap) (locs : List Loc) (ls : Array Slot), wp_X6_openings_38 Q  n x1 x2 x4 x5 σ → WK G s H locs σ → lv_has ls 6 [(0, .ref (G.1 30)), (1, .int x1), (2, .int x2), (4, .int x4), (5, .int x5)] → W p l e rm_X6_openings s m args below meth c H locs 0 0 (ZI below args s G Q) (F0 m 38 ls []) := by
  have hx := X.1.1
  have hb := X.1.2.1
  intro n
  induction n with
  | zero =>
    intro σ x1 x2 x4 x5 H locs ls hw hk hl
    exact False.elim hw
  | succ n ih =>
    intro σ x1 x2 x4 x5 H locs ls hw hk hl
    rw [wp_X6_openings_38] at hw
    refine lv_iload hx hb dX6_openings_38 (lv_at hl 4 rfl) ?_
    refine lv_iload_n hx hb dX6_openings_40 rfl (lv_at hl 1 rfl) ?_
    refine lv_icmp_gt (tgt := 74) hx hb dX6_openings_41 (by decide) (fun c11 => ?_) (fun c11 => ?_)
    · replace hw := hw.1 c11
      refine lv_iload hx hb dX6_openings_74 (lv_at hl 3 rfl) ?_
      exact k_iret X hk hw dX6_openings_76
    · replace hw := hw.2 c11
      refine lv_iload hx hb dX6_openings_44 (lv_at hl 3 rfl) ?_
      refine lv_aload_n hx hb dX6_openings_46 rfl (lv_at hl 0 rfl) ?_
      refine k_get 15 X hk (wg_30 G _) rfl (hz_wsX60 _) (Nat.le_of_ble_eq_true rfl) (List.mem_cons_of_mem _ (aw_r5 _ (List.mem_of_getElem? (i := 2) rfl))) rfl dX6_openings_47 ?_
      refine lv_iload_n hx hb dX6_openings_50 rfl (lv_at hl 2 rfl) ?_
      refine lv_iload hx hb dX6_openings_51 (lv_at hl 4 rfl) ?_
      refine k_callSi (rest := [.ref (G.1 40), .int x4]) X hk (c_X6_node l G _ _ _ _ hw) (va_cwS 2 X.1.2.2.2.2 (gzS (aw_r29 _ (List.mem_of_getElem? (i := 8) rfl)) (aw_r29 _ (List.mem_of_getElem? (i := 9) rfl)) (aw_r1 _ (List.mem_of_getElem? (i := 5) rfl)) (aw_r29 _ (List.mem_of_getElem? (i := 10) rfl))) rfl rfl rfl hds_X6_node ⟨(Nat.le_of_ble_eq_true rfl), (Nat.le_of_ble_eq_true rfl)⟩) rfl hl.1 rfl (Nat.le_of_ble_eq_true rfl) dX6_openings_53 ⟨Nat.zero_le _, Nat.zero_le _⟩ (fun r13 σ12 H locs hw hk => ?_)
      refine k_zald X hk (wg_40 G _) hw.1 dX6_openings_56 ?_
      replace hw := hw.2
      refine lv_if_eq (tgt := 64) hx hb dX6_openings_57 (by decide) (fun c14 => ?_) (fun c14 => ?_)
      · replace hw := hw.1 c14
        refine lv_iconst (v := (0 : Int32)) hx hb dX6_openings_64 (by decide) ?_
        exact t_X6_openings_65 X Q _ ih _ _ _ _ _ _ _ _ _ hw hk (lv_sub hl [0, 1, 2, 4] rfl)
      · replace hw := hw.2 c14
        refine lv_iconst (v := (1 : Int32)) hx hb dX6_openings_60 (by decide) ?_
        refine lv_goto (tgt := 65) hx hb dX6_openings_61 (by decide) ?_
        exact t_X6_openings_65 X Q _ ih _ _ _ _ _ _ _ _ _ hw hk (lv_sub hl [0, 1, 2, 4] rfl)
def wp_X6_openings (σ : Sg) (p1 p2 : Int32) (Q : Int32 → Sg → Prop) : Prop := wp_X6_isMinute (put σ 30 0 (0 : Int32)) p1 (fun r2 σ1 => (r2 = 0 → (Q (-1 : Int32) σ1)) ∧ (¬ (r2 = 0) → (wp_X6_isPlace σ1 p2 (fun r5 σ4 => (r5 = 0 → (Q (-1 : Int32) σ4)) ∧ (¬ (r5 = 0) → (wp_X6_flows σ4 p1 (fun r8 σ7 => wp_X6_looksBack σ7  (fun σ9 => ∃ n0, wp_X6_openings_38 Q  n0 p1 p2 (0 : Int32) (0 : Int32) σ9))))))))
set_option maxHeartbeats 4000000 in
set_option maxRecDepth 100000 in
theorem c_X6_openings (l : Launch) (G : Gw) (σ : Sg) (p1 p2 : Int32) (Q : Int32 → Sg → Prop) (hw : wp_X6_openings σ p1 p2 Q) : MetI l yX6_openings wz_X6_openings rm_X6_openings G σ [.ref (G.1 30), .int p1, .int p2] Q := by
  refine MetI.of cX6_openings 6 (some .int) (by decide) rfl (Nat.le_of_ble_eq_true rfl) ?_
  intro p e s m below meth c X hk ls hl
  have X : KC p m meth c cX6_openings 6 s _ wz_X6_openings RX6 (some .int) G := X
  have hl : lv_has ls 6 [(0, .ref (G.1 30)), (1, .int p1), (2, .int p2)] := hl
  unfold wp_X6_openings at hw
  have hx := X.1.1
  have hb := X.1.2.1
  refine lv_aload_n hx hb dX6_openings_0 rfl (lv_at hl 0 rfl) ?_
  refine lv_iconst (v := (0 : Int32)) hx hb dX6_openings_1 (by decide) ?_
  refine k_put 0 X hk (wg_30 G _) rfl (hz_wsX60 _) tyX6_ok nmX6 (Nat.le_of_ble_eq_true rfl) (List.mem_cons_of_mem _ (aw_r6 _ (List.mem_of_getElem? (i := 3) rfl))) rfl rfl (Nat.le_of_ble_eq_true rfl) (ws_30_0 G _ _) dX6_openings_2 (fun H locs hk => ?_)
  refine lv_iload_n hx hb dX6_openings_5 rfl (lv_at hl 1 rfl) ?_
  refine k_callSi (rest := []) X hk (c_X6_isMinute l G _ _ _ hw) (va_cwS 1 X.1.2.2.2.2 (gzS (aw_r28 _ (List.mem_of_getElem? (i := 15) rfl)) (aw_r28 _ (List.mem_of_getElem? (i := 16) rfl)) (aw_r1 _ (List.mem_of_getElem? (i := 5) rfl)) (aw_r28 _ (List.mem_of_getElem? (i := 17) rfl))) rfl rfl rfl hds_X6_isMinute ⟨(Nat.le_of_ble_eq_true rfl), (Nat.le_of_ble_eq_true rfl)⟩) rfl hl.1 rfl (Nat.le_of_ble_eq_true rfl) dX6_openings_6 ⟨Nat.zero_le _, Nat.zero_le _⟩ (fun r2 σ1 H locs hw hk => ?_)
  refine lv_if_eq (tgt := 20) hx hb dX6_openings_9 (by decide) (fun c3 => ?_) (fun c3 => ?_)
  · replace hw := hw.1 c3
    refine lv_iconst (v := (-1 : Int32)) hx hb dX6_openings_20 (by decide) ?_
    exact k_iret X hk hw dX6_openings_21
  · replace hw := hw.2 c3
    refine lv_aload_n hx hb dX6_openings_12 rfl (lv_at hl 0 rfl) ?_
    refine lv_iload_n hx hb dX6_openings_13 rfl (lv_at hl 2 rfl) ?_
    refine k_callVi (rest := []) X hk (c_X6_isPlace l G _ _ _ hw) (cwV 1 X.1.2.2.2.2 (gzV (aw_r20 _ (List.mem_of_getElem? (i := 0) rfl)) (aw_r20 _ (List.mem_of_getElem? (i := 1) rfl)) (aw_r20 _ (List.mem_of_getElem? (i := 2) rfl)) (aw_r1 _ (List.mem_of_getElem? (i := 5) rfl)) (aw_r20 _ (List.mem_of_getElem? (i := 3) rfl))) rfl rfl rfl hd_X6_isPlace ⟨(Nat.le_of_ble_eq_true rfl), (Nat.le_of_ble_eq_true rfl)⟩) (wg_30 G _) rfl rfl hl.1 rfl (Nat.le_of_ble_eq_true rfl) dX6_openings_14 ⟨Nat.zero_le _, Nat.zero_le _⟩ (fun r5 σ4 H locs hw hk => ?_)
    refine lv_if_ne (tgt := 22) hx hb dX6_openings_17 (by decide) (fun c6 => ?_) (fun c6 => ?_)
    · replace hw := hw.2 c6
      refine lv_aload_n hx hb dX6_openings_22 rfl (lv_at hl 0 rfl) ?_
      refine lv_iload_n hx hb dX6_openings_23 rfl (lv_at hl 1 rfl) ?_
      refine k_callVi (rest := []) X hk (c_X6_flows l G _ _ _ hw) (cwV 1 X.1.2.2.2.2 (gzV (aw_r28 _ (List.mem_of_getElem? (i := 18) rfl)) (aw_r28 _ (List.mem_of_getElem? (i := 19) rfl)) (aw_r28 _ (List.mem_of_getElem? (i := 20) rfl)) (aw_r1 _ (List.mem_of_getElem? (i := 5) rfl)) (aw_r28 _ (List.mem_of_getElem? (i := 21) rfl))) rfl rfl rfl hd_X6_flows ⟨(Nat.le_of_ble_eq_true rfl), (Nat.le_of_ble_eq_true rfl)⟩) (wg_30 G _) rfl rfl hl.1 rfl (Nat.le_of_ble_eq_true rfl) dX6_openings_24 ⟨Nat.zero_le _, Nat.zero_le _⟩ (fun r8 σ7 H locs hw hk => ?_)
      refine lv_istore_n (lv' := [(3, .int r8), (0, .ref (G.1 30)), (1, .int p1), (2, .int p2)]) hx hb dX6_openings_27 rfl hl (Nat.le_of_ble_eq_true rfl) rfl (fun ls hl => ?_)
      refine lv_aload_n hx hb dX6_openings_28 rfl (lv_at hl 1 rfl) ?_
      refine k_callVv (rest := []) X hk (c_X6_looksBack l G _  _ hw) (cwV 0 X.1.2.2.2.2 (gzV (aw_r32 _ (List.mem_of_getElem? (i := 9) rfl)) (aw_r32 _ (List.mem_of_getElem? (i := 10) rfl)) (aw_r32 _ (List.mem_of_getElem? (i := 11) rfl)) (aw_r1 _ (List.mem_of_getElem? (i := 5) rfl)) (aw_r32 _ (List.mem_of_getElem? (i := 12) rfl))) rfl rfl rfl hd_X6_looksBack ⟨(Nat.le_of_ble_eq_true rfl), (Nat.le_of_ble_eq_true rfl)⟩) (wg_30 G _) rfl rfl hl.1 rfl (Nat.le_of_ble_eq_true rfl) dX6_openings_29 ⟨Nat.zero_le _, Nat.zero_le _⟩ (fun σ9 H locs hw hk => ?_)
      refine lv_iconst (v := (0 : Int32)) hx hb dX6_openings_32 (by decide) ?_
      refine lv_istore (lv' := [(4, .int (0 : Int32)), (3, .int r8), (0, .ref (G.1 30)), (1, .int p1), (2, .int p2)]) hx hb dX6_openings_33 hl (Nat.le_of_ble_eq_true rfl) rfl (fun ls hl => ?_)
      refine lv_iconst (v := (0 : Int32)) hx hb dX6_openings_35 (by decide) ?_
      refine lv_istore (lv' := [(5, .int (0 : Int32)), (4, .int (0 : Int32)), (3, .int r8), (0, .ref (G.1 30)), (1, .int p1), (2, .int p2)]) hx hb dX6_openings_36 hl (Nat.le_of_ble_eq_true rfl) rfl (fun ls hl => ?_)
      obtain ⟨n0, hw⟩ := hw
      exact t_X6_openings_38 X Q   n0 _ _ _ _ _ _ _ _ hw hk (lv_sub hl [3, 4, 5, 1, 0] rfl)
    · replace hw := hw.1 c6
      refine lv_iconst (v := (-1 : Int32)) hx hb dX6_openings_20 (by decide) ?_
      exact k_iret X hk hw dX6_openings_21
def rm_X6_lanes : Room := { frames := 0, cells := 0, slots := 0, locals := 0 }
abbrev wz_X6_lanes : List Cond := Cond.code yX6_lanes cX6_lanes 4 none :: wsA
theorem hd_X6_lanes : yX6_lanes.cls = RX6 ∧ yX6_lanes.cls ≠ "java/lang/invoke/MethodHandle" ∧ yX6_lanes.cls ≠ "java/lang/invoke/VarHandle" ∧ (parseMethodDescriptor yX6_lanes.desc).map (fun d => d.parameters.length) = some 3 := by decide +kernel
def wp_X6_lanes (σ : Sg) (p1 p2 p3 : Int32) (Q : Sg → Prop) : Prop := vp_in (((35 : Int32) + ((5 : Int32) * p1)) + (3 : Int32)) 256 ∧ (vp_in (((35 : Int32) + ((5 : Int32) * p1)) + (4 : Int32)) 256 ∧ (Q (put (put σ 31 ((((35 : Int32) + ((5 : Int32) * p1)) + (3 : Int32))).toNatClampNeg p2) 31 ((((35 : Int32) + ((5 : Int32) * p1)) + (4 : Int32))).toNatClampNeg p3)))
set_option maxHeartbeats 4000000 in
set_option maxRecDepth 100000 in
theorem c_X6_lanes (l : Launch) (G : Gw) (σ : Sg) (p1 p2 p3 : Int32) (Q : Sg → Prop) (hw : wp_X6_lanes σ p1 p2 p3 Q) : MetV l yX6_lanes wz_X6_lanes rm_X6_lanes G σ [.ref (G.1 30), .int p1, .int p2, .int p3] Q := by
  refine MetV.of cX6_lanes 4 none (by decide) rfl (Nat.le_of_ble_eq_true rfl) ?_
  intro p e s m below meth c X hk ls hl
  have X : KC p m meth c cX6_lanes 4 s _ wz_X6_lanes RX6 none G := X
  have hl : lv_has ls 4 [(0, .ref (G.1 30)), (1, .int p1), (2, .int p2), (3, .int p3)] := hl
  unfold wp_X6_lanes at hw
  have hx := X.1.1
  have hb := X.1.2.1
  refine lv_aload_n hx hb dX6_lanes_0 rfl (lv_at hl 0 rfl) ?_
  refine k_get 1 X hk (wg_30 G _) rfl (hz_wsX60 _) (Nat.le_of_ble_eq_true rfl) (List.mem_cons_of_mem _ (aw_r4 _ (List.mem_of_getElem? (i := 16) rfl))) rfl dX6_lanes_1 ?_
  refine lv_bipush (v := (35 : Int32)) hx hb dX6_lanes_4 (by decide) ?_
  refine lv_iconst (v := (5 : Int32)) hx hb dX6_lanes_6 (by decide) ?_
  refine lv_iload_n hx hb dX6_lanes_7 rfl (lv_at hl 1 rfl) ?_
  refine lv_imul hx hb dX6_lanes_8 ?_
  refine lv_iadd hx hb dX6_lanes_9 ?_
  refine lv_iconst (v := (3 : Int32)) hx hb dX6_lanes_10 (by decide) ?_
  refine lv_iadd hx hb dX6_lanes_11 ?_
  refine lv_iload_n hx hb dX6_lanes_12 rfl (lv_at hl 2 rfl) ?_
  refine k_iast X hk (wg_31 G _) (ws_31 G _) rfl hw.1 dX6_lanes_13 (fun H locs hk => ?_)
  replace hw := hw.2
  refine lv_aload_n hx hb dX6_lanes_14 rfl (lv_at hl 0 rfl) ?_
  refine k_get 1 X hk (wg_30 G _) rfl (hz_wsX60 _) (Nat.le_of_ble_eq_true rfl) (List.mem_cons_of_mem _ (aw_r4 _ (List.mem_of_getElem? (i := 16) rfl))) rfl dX6_lanes_15 ?_
  refine lv_bipush (v := (35 : Int32)) hx hb dX6_lanes_18 (by decide) ?_
  refine lv_iconst (v := (5 : Int32)) hx hb dX6_lanes_20 (by decide) ?_
  refine lv_iload_n hx hb dX6_lanes_21 rfl (lv_at hl 1 rfl) ?_
  refine lv_imul hx hb dX6_lanes_22 ?_
  refine lv_iadd hx hb dX6_lanes_23 ?_
  refine lv_iconst (v := (4 : Int32)) hx hb dX6_lanes_24 (by decide) ?_
  refine lv_iadd hx hb dX6_lanes_25 ?_
  refine lv_iload_n hx hb dX6_lanes_26 rfl (lv_at hl 3 rfl) ?_
  refine k_iast X hk (wg_31 G _) (ws_31 G _) rfl hw.1 dX6_lanes_27 (fun H locs hk => ?_)
  replace hw := hw.2
  exact k_vret X hk hw dX6_lanes_28
def rm_X6_shut : Room := { frames := 6, cells := 0, slots := 0, locals := 133 }
abbrev wz_X6_shut : List Cond := Cond.code yX6_shut cX6_shut 3 (some .int) :: wsA
theorem hd_X6_shut : yX6_shut.cls = RX6 ∧ yX6_shut.cls ≠ "java/lang/invoke/MethodHandle" ∧ yX6_shut.cls ≠ "java/lang/invoke/VarHandle" ∧ (parseMethodDescriptor yX6_shut.desc).map (fun d => d.parameters.length) = some 1 := by decide +kernel
def wp_X6_shut (σ : Sg) (p1 : Int32) (Q : Int32 → Sg → Prop) : Prop := wp_X6_isRoad (put σ 30 0 (0 : Int32)) p1 (fun r2 σ1 => (r2 = 0 → (Q (-2 : Int32) σ1)) ∧ (¬ (r2 = 0) → (wp_X6_keeps σ1  (fun σ4 => wp_X6_lanes σ4 p1 (0 : Int32) (0 : Int32) (fun σ6 => wp_X6_quickestNow σ6  (fun r9 σ8 => wp_X6_comesBack σ8  (fun σ10 => Q r9 σ10)))))))
set_option maxHeartbeats 4000000 in
set_option maxRecDepth 100000 in
theorem c_X6_shut (l : Launch) (G : Gw) (σ : Sg) (p1 : Int32) (Q : Int32 → Sg → Prop) (hw : wp_X6_shut σ p1 Q) : MetI l yX6_shut wz_X6_shut rm_X6_shut G σ [.ref (G.1 30), .int p1] Q := by
  refine MetI.of cX6_shut 3 (some .int) (by decide) rfl (Nat.le_of_ble_eq_true rfl) ?_
  intro p e s m below meth c X hk ls hl
  have X : KC p m meth c cX6_shut 3 s _ wz_X6_shut RX6 (some .int) G := X
  have hl : lv_has ls 3 [(0, .ref (G.1 30)), (1, .int p1)] := hl
  unfold wp_X6_shut at hw
  have hx := X.1.1
  have hb := X.1.2.1
  refine lv_aload_n hx hb dX6_shut_0 rfl (lv_at hl 0 rfl) ?_
  refine lv_iconst (v := (0 : Int32)) hx hb dX6_shut_1 (by decide) ?_
  refine k_put 0 X hk (wg_30 G _) rfl (hz_wsX60 _) tyX6_ok nmX6 (Nat.le_of_ble_eq_true rfl) (List.mem_cons_of_mem _ (aw_r6 _ (List.mem_of_getElem? (i := 3) rfl))) rfl rfl (Nat.le_of_ble_eq_true rfl) (ws_30_0 G _ _) dX6_shut_2 (fun H locs hk => ?_)
  refine lv_aload_n hx hb dX6_shut_5 rfl (lv_at hl 0 rfl) ?_
  refine lv_iload_n hx hb dX6_shut_6 rfl (lv_at hl 1 rfl) ?_
  refine k_callVi (rest := []) X hk (c_X6_isRoad l G _ _ _ hw) (cwV 1 X.1.2.2.2.2 (gzV (aw_r17 _ (List.mem_of_getElem? (i := 10) rfl)) (aw_r17 _ (List.mem_of_getElem? (i := 11) rfl)) (aw_r17 _ (List.mem_of_getElem? (i := 12) rfl)) (aw_r1 _ (List.mem_of_getElem? (i := 5) rfl)) (aw_r17 _ (List.mem_of_getElem? (i := 13) rfl))) rfl rfl rfl hd_X6_isRoad ⟨(Nat.le_of_ble_eq_true rfl), (Nat.le_of_ble_eq_true rfl)⟩) (wg_30 G _) rfl rfl hl.1 rfl (Nat.le_of_ble_eq_true rfl) dX6_shut_7 ⟨Nat.zero_le _, Nat.zero_le _⟩ (fun r2 σ1 H locs hw hk => ?_)
  refine lv_if_ne (tgt := 16) hx hb dX6_shut_10 (by decide) (fun c3 => ?_) (fun c3 => ?_)
  · replace hw := hw.2 c3
    refine lv_aload_n hx hb dX6_shut_16 rfl (lv_at hl 0 rfl) ?_
    refine k_callVv (rest := []) X hk (c_X6_keeps l G _  _ hw) (cwV 0 X.1.2.2.2.2 (gzV (aw_r14 _ (List.mem_of_getElem? (i := 14) rfl)) (aw_r14 _ (List.mem_of_getElem? (i := 15) rfl)) (aw_r14 _ (List.mem_of_getElem? (i := 16) rfl)) (aw_r1 _ (List.mem_of_getElem? (i := 5) rfl)) (aw_r14 _ (List.mem_of_getElem? (i := 17) rfl))) rfl rfl rfl hd_X6_keeps ⟨(Nat.le_of_ble_eq_true rfl), (Nat.le_of_ble_eq_true rfl)⟩) (wg_30 G _) rfl rfl hl.1 rfl (Nat.le_of_ble_eq_true rfl) dX6_shut_17 ⟨Nat.zero_le _, Nat.zero_le _⟩ (fun σ4 H locs hw hk => ?_)
    refine lv_aload_n hx hb dX6_shut_20 rfl (lv_at hl 0 rfl) ?_
    refine lv_iload_n hx hb dX6_shut_21 rfl (lv_at hl 1 rfl) ?_
    refine lv_iconst (v := (0 : Int32)) hx hb dX6_shut_22 (by decide) ?_
    refine lv_iconst (v := (0 : Int32)) hx hb dX6_shut_23 (by decide) ?_
    refine k_callVv (rest := []) X hk (c_X6_lanes l G _ _ _ _ _ hw) (cwV 3 X.1.2.2.2.2 (gzV (aw_r33 _ (List.mem_of_getElem? (i := 10) rfl)) (aw_r33 _ (List.mem_of_getElem? (i := 11) rfl)) (aw_r33 _ (List.mem_of_getElem? (i := 12) rfl)) (aw_r1 _ (List.mem_of_getElem? (i := 5) rfl)) (aw_r33 _ (List.mem_of_getElem? (i := 13) rfl))) rfl rfl rfl hd_X6_lanes ⟨(Nat.le_of_ble_eq_true rfl), (Nat.le_of_ble_eq_true rfl)⟩) (wg_30 G _) rfl rfl hl.1 rfl (Nat.le_of_ble_eq_true rfl) dX6_shut_24 ⟨Nat.zero_le _, Nat.zero_le _⟩ (fun σ6 H locs hw hk => ?_)
    refine lv_aload_n hx hb dX6_shut_27 rfl (lv_at hl 0 rfl) ?_
    refine k_callVi (rest := []) X hk (c_X6_quickestNow l G _  _ hw) (cwV 0 X.1.2.2.2.2 (gzV (aw_r31 _ (List.mem_of_getElem? (i := 5) rfl)) (aw_r31 _ (List.mem_of_getElem? (i := 6) rfl)) (aw_r31 _ (List.mem_of_getElem? (i := 7) rfl)) (aw_r1 _ (List.mem_of_getElem? (i := 5) rfl)) (aw_r31 _ (List.mem_of_getElem? (i := 8) rfl))) rfl rfl rfl hd_X6_quickestNow ⟨(Nat.le_of_ble_eq_true rfl), (Nat.le_of_ble_eq_true rfl)⟩) (wg_30 G _) rfl rfl hl.1 rfl (Nat.le_of_ble_eq_true rfl) dX6_shut_28 ⟨Nat.zero_le _, Nat.zero_le _⟩ (fun r9 σ8 H locs hw hk => ?_)
    refine lv_istore_n (lv' := [(2, .int r9), (0, .ref (G.1 30)), (1, .int p1)]) hx hb dX6_shut_31 rfl hl (Nat.le_of_ble_eq_true rfl) rfl (fun ls hl => ?_)
    refine lv_aload_n hx hb dX6_shut_32 rfl (lv_at hl 1 rfl) ?_
    refine k_callVv (rest := []) X hk (c_X6_comesBack l G _  _ hw) (cwV 0 X.1.2.2.2.2 (gzV (aw_r18 _ (List.mem_of_getElem? (i := 10) rfl)) (aw_r18 _ (List.mem_of_getElem? (i := 11) rfl)) (aw_r18 _ (List.mem_of_getElem? (i := 12) rfl)) (aw_r1 _ (List.mem_of_getElem? (i := 5) rfl)) (aw_r18 _ (List.mem_of_getElem? (i := 13) rfl))) rfl rfl rfl hd_X6_comesBack ⟨(Nat.le_of_ble_eq_true rfl), (Nat.le_of_ble_eq_true rfl)⟩) (wg_30 G _) rfl rfl hl.1 rfl (Nat.le_of_ble_eq_true rfl) dX6_shut_33 ⟨Nat.zero_le _, Nat.zero_le _⟩ (fun σ10 H locs hw hk => ?_)
    refine lv_iload_n hx hb dX6_shut_36 rfl (lv_at hl 0 rfl) ?_
    exact k_iret X hk hw dX6_shut_37
  · replace hw := hw.1 c3
    refine lv_bipush (v := (-2 : Int32)) hx hb dX6_shut_13 (by decide) ?_
    exact k_iret X hk hw dX6_shut_15
def rm_X6_mayWiden : Room := { frames := 2, cells := 0, slots := 0, locals := 43 }
abbrev wz_X6_mayWiden : List Cond := Cond.code yX6_mayWiden cX6_mayWiden 4 (some .boolean) :: wsA
theorem hd_X6_mayWiden : yX6_mayWiden.cls = RX6 ∧ yX6_mayWiden.cls ≠ "java/lang/invoke/MethodHandle" ∧ yX6_mayWiden.cls ≠ "java/lang/invoke/VarHandle" ∧ (parseMethodDescriptor yX6_mayWiden.desc).map (fun d => d.parameters.length) = some 3 := by decide +kernel
def wp_X6_mayWiden_30 (Q : Int32 → Sg → Prop)  (x3 y1 y2 : Int32) (σ : Sg) : Prop := wp_X6_ofRoad σ y1 y2 (fun r9 σ8 => ((r9 + x3) < 0 → (bz (0 : Int32) ∧ Q (0 : Int32) σ8)) ∧ (¬ ((r9 + x3) < 0) → (bz (1 : Int32) ∧ Q (1 : Int32) σ8)))
set_option maxHeartbeats 4000000 in
set_option maxRecDepth 100000 in
theorem t_X6_mayWiden_30 {p : Program} {l : Launch} {e : Env} {s : State} {m : MethodId} {args : Array Value} {below : List Frame} {meth : Method} {c : Code} {G : Gw} (X : KC p m meth c cX6_mayWiden 4 s args wz_X6_mayWiden RX6 (some .boolean) G) (Q : Int32 → Sg → Prop)  : ∀ (σ : Sg) (x3 y1 y2 : Int32) (H : Heap) (locs : List Loc) (ls : Array Slot), wp_X6_mayWiden_30 Q  x3 y1 y2 σ → WK G s H locs σ → lv_has ls 4 [(3, .int x3)] → W p l e rm_X6_mayWiden s m args below meth c H locs 0 0 (ZI below args s G Q) (F0 m 30 ls [.int y2, .int y1, .ref (G.1 30)]) := by
  have hx := X.1.1
  have hb := X.1.2.1
  intro σ x3 y1 y2 H locs ls hw hk hl
  unfold wp_X6_mayWiden_30 at hw
  refine k_callVi (rest := []) X hk (c_X6_ofRoad l G _ _ _ _ hw) (cwV 2 X.1.2.2.2.2 (gzV (aw_r17 _ (List.mem_of_getElem? (i := 14) rfl)) (aw_r17 _ (List.mem_of_getElem? (i := 15) rfl)) (aw_r17 _ (List.mem_of_getElem? (i := 16) rfl)) (aw_r1 _ (List.mem_of_getElem? (i := 5) rfl)) (aw_r17 _ (List.mem_of_getElem? (i := 17) rfl))) rfl rfl rfl hd_X6_ofRoad ⟨(Nat.le_of_ble_eq_true rfl), (Nat.le_of_ble_eq_true rfl)⟩) (wg_30 G _) rfl rfl hl.1 rfl (Nat.le_of_ble_eq_true rfl) dX6_mayWiden_30 ⟨Nat.zero_le _, Nat.zero_le _⟩ (fun r9 σ8 H locs hw hk => ?_)
  refine lv_iload_n hx hb dX6_mayWiden_33 rfl (lv_at hl 0 rfl) ?_
  refine lv_iadd hx hb dX6_mayWiden_34 ?_
  refine lv_if_lt (tgt := 42) hx hb dX6_mayWiden_35 (by decide) (fun c10 => ?_) (fun c10 => ?_)
  · replace hw := hw.1 c10
    refine lv_iconst (v := (0 : Int32)) hx hb dX6_mayWiden_42 (by decide) ?_
    exact k_zret X hk hw dX6_mayWiden_43
  · replace hw := hw.2 c10
    refine lv_iconst (v := (1 : Int32)) hx hb dX6_mayWiden_38 (by decide) ?_
    refine lv_goto (tgt := 43) hx hb dX6_mayWiden_39 (by decide) ?_
    exact k_zret X hk hw dX6_mayWiden_43
def wp_X6_mayWiden (σ : Sg) (p1 p2 p3 : Int32) (Q : Int32 → Sg → Prop) : Prop := wp_X6_isRoad σ p1 (fun r2 σ1 => (r2 = 0 → (bz (0 : Int32) ∧ Q (0 : Int32) σ1)) ∧ (¬ (r2 = 0) → (wp_X6_isIn σ1 p3 (-9 : Int32) (30 : Int32) (fun r5 σ4 => (r5 = 0 → (bz (0 : Int32) ∧ Q (0 : Int32) σ4)) ∧ (¬ (r5 = 0) → ((p2 = 0 → (wp_X6_mayWiden_30 Q  p3 p1 (3 : Int32) σ4)) ∧ (¬ (p2 = 0) → (wp_X6_mayWiden_30 Q  p3 p1 (4 : Int32) σ4))))))))
set_option maxHeartbeats 4000000 in
set_option maxRecDepth 100000 in
theorem c_X6_mayWiden (l : Launch) (G : Gw) (σ : Sg) (p1 p2 p3 : Int32) (Q : Int32 → Sg → Prop) (hw : wp_X6_mayWiden σ p1 p2 p3 Q) : MetI l yX6_mayWiden wz_X6_mayWiden rm_X6_mayWiden G σ [.ref (G.1 30), .int p1, .int p2, .int p3] Q := by
  refine MetI.of cX6_mayWiden 4 (some .boolean) (by decide) rfl (Nat.le_of_ble_eq_true rfl) ?_
  intro p e s m below meth c X hk ls hl
  have X : KC p m meth c cX6_mayWiden 4 s _ wz_X6_mayWiden RX6 (some .boolean) G := X
  have hl : lv_has ls 4 [(0, .ref (G.1 30)), (1, .int p1), (2, .int p2), (3, .int p3)] := hl
  unfold wp_X6_mayWiden at hw
  have hx := X.1.1
  have hb := X.1.2.1
  refine lv_aload_n hx hb dX6_mayWiden_0 rfl (lv_at hl 0 rfl) ?_
  refine lv_iload_n hx hb dX6_mayWiden_1 rfl (lv_at hl 1 rfl) ?_
  refine k_callVi (rest := []) X hk (c_X6_isRoad l G _ _ _ hw) (cwV 1 X.1.2.2.2.2 (gzV (aw_r17 _ (List.mem_of_getElem? (i := 10) rfl)) (aw_r17 _ (List.mem_of_getElem? (i := 11) rfl)) (aw_r17 _ (List.mem_of_getElem? (i := 12) rfl)) (aw_r1 _ (List.mem_of_getElem? (i := 5) rfl)) (aw_r17 _ (List.mem_of_getElem? (i := 13) rfl))) rfl rfl rfl hd_X6_isRoad ⟨(Nat.le_of_ble_eq_true rfl), (Nat.le_of_ble_eq_true rfl)⟩) (wg_30 G _) rfl rfl hl.1 rfl (Nat.le_of_ble_eq_true rfl) dX6_mayWiden_2 ⟨Nat.zero_le _, Nat.zero_le _⟩ (fun r2 σ1 H locs hw hk => ?_)
  refine lv_if_eq (tgt := 42) hx hb dX6_mayWiden_5 (by decide) (fun c3 => ?_) (fun c3 => ?_)
  · replace hw := hw.1 c3
    refine lv_iconst (v := (0 : Int32)) hx hb dX6_mayWiden_42 (by decide) ?_
    exact k_zret X hk hw dX6_mayWiden_43
  · replace hw := hw.2 c3
    refine lv_iload_n hx hb dX6_mayWiden_8 rfl (lv_at hl 3 rfl) ?_
    refine lv_bipush (v := (-9 : Int32)) hx hb dX6_mayWiden_9 (by decide) ?_
    refine lv_bipush (v := (30 : Int32)) hx hb dX6_mayWiden_11 (by decide) ?_
    refine k_callSi (rest := []) X hk (c_X6_isIn l G _ _ _ _ _ hw) (va_cwS 3 X.1.2.2.2.2 (gzS (aw_r6 _ (List.mem_of_getElem? (i := 17) rfl)) (aw_r6 _ (List.mem_of_getElem? (i := 18) rfl)) (aw_r1 _ (List.mem_of_getElem? (i := 5) rfl)) (aw_r6 _ (List.mem_of_getElem? (i := 19) rfl))) rfl rfl rfl hds_X6_isIn ⟨(Nat.le_of_ble_eq_true rfl), (Nat.le_of_ble_eq_true rfl)⟩) rfl hl.1 rfl (Nat.le_of_ble_eq_true rfl) dX6_mayWiden_13 ⟨Nat.zero_le _, Nat.zero_le _⟩ (fun r5 σ4 H locs hw hk => ?_)
    refine lv_if_eq (tgt := 42) hx hb dX6_mayWiden_16 (by decide) (fun c6 => ?_) (fun c6 => ?_)
    · replace hw := hw.1 c6
      refine lv_iconst (v := (0 : Int32)) hx hb dX6_mayWiden_42 (by decide) ?_
      exact k_zret X hk hw dX6_mayWiden_43
    · replace hw := hw.2 c6
      refine lv_aload_n hx hb dX6_mayWiden_19 rfl (lv_at hl 0 rfl) ?_
      refine lv_iload_n hx hb dX6_mayWiden_20 rfl (lv_at hl 1 rfl) ?_
      refine lv_iload_n hx hb dX6_mayWiden_21 rfl (lv_at hl 2 rfl) ?_
      refine lv_if_eq (tgt := 29) hx hb dX6_mayWiden_22 (by decide) (fun c7 => ?_) (fun c7 => ?_)
      · replace hw := hw.1 c7
        refine lv_iconst (v := (3 : Int32)) hx hb dX6_mayWiden_29 (by decide) ?_
        exact t_X6_mayWiden_30 X Q   _ _ _ _ _ _ _ hw hk (lv_sub hl [3] rfl)
      · replace hw := hw.2 c7
        refine lv_iconst (v := (4 : Int32)) hx hb dX6_mayWiden_25 (by decide) ?_
        refine lv_goto (tgt := 30) hx hb dX6_mayWiden_26 (by decide) ?_
        exact t_X6_mayWiden_30 X Q   _ _ _ _ _ _ _ hw hk (lv_sub hl [3] rfl)
def rm_X6_wider : Room := { frames := 6, cells := 0, slots := 0, locals := 133 }
abbrev wz_X6_wider : List Cond := Cond.code yX6_wider cX6_wider 5 (some .int) :: wsA
theorem hd_X6_wider : yX6_wider.cls = RX6 ∧ yX6_wider.cls ≠ "java/lang/invoke/MethodHandle" ∧ yX6_wider.cls ≠ "java/lang/invoke/VarHandle" ∧ (parseMethodDescriptor yX6_wider.desc).map (fun d => d.parameters.length) = some 3 := by decide +kernel
def wp_X6_wider_41 (Q : Int32 → Sg → Prop)  (x3 y1 y2 : Int32) (σ : Sg) : Prop := vp_in (y1 + y2) 256 ∧ (vp_in (y1 + y2) 256 ∧ (wp_X6_quickestNow (put σ 31 ((y1 + y2)).toNatClampNeg ((σ 31 ((y1 + y2)).toNatClampNeg) + x3))  (fun r8 σ7 => wp_X6_comesBack σ7  (fun σ9 => Q r8 σ9))))
set_option maxHeartbeats 4000000 in
set_option maxRecDepth 100000 in
theorem t_X6_wider_41 {p : Program} {l : Launch} {e : Env} {s : State} {m : MethodId} {args : Array Value} {below : List Frame} {meth : Method} {c : Code} {G : Gw} (X : KC p m meth c cX6_wider 5 s args wz_X6_wider RX6 (some .int) G) (Q : Int32 → Sg → Prop)  : ∀ (σ : Sg) (x3 y1 y2 : Int32) (H : Heap) (locs : List Loc) (ls : Array Slot), wp_X6_wider_41 Q  x3 y1 y2 σ → WK G s H locs σ → lv_has ls 5 [(0, .ref (G.1 30)), (3, .int x3)] → W p l e rm_X6_wider s m args below meth c H locs 0 0 (ZI below args s G Q) (F0 m 41 ls [.int y2, .int y1, .ref (G.1 31)]) := by
  have hx := X.1.1
  have hb := X.1.2.1
  intro σ x3 y1 y2 H locs ls hw hk hl
  unfold wp_X6_wider_41 at hw
  refine lv_iadd hx hb dX6_wider_41 ?_
  refine lv_dup2_11 hx hb dX6_wider_42 rfl rfl ?_
  refine k_iald X hk (wg_31 G _) hw.1 dX6_wider_43 ?_
  replace hw := hw.2
  refine lv_iload_n hx hb dX6_wider_44 rfl (lv_at hl 1 rfl) ?_
  refine lv_iadd hx hb dX6_wider_45 ?_
  refine k_iast X hk (wg_31 G _) (ws_31 G _) rfl hw.1 dX6_wider_46 (fun H locs hk => ?_)
  replace hw := hw.2
  refine lv_aload_n hx hb dX6_wider_47 rfl (lv_at hl 0 rfl) ?_
  refine k_callVi (rest := []) X hk (c_X6_quickestNow l G _  _ hw) (cwV 0 X.1.2.2.2.2 (gzV (aw_r31 _ (List.mem_of_getElem? (i := 5) rfl)) (aw_r31 _ (List.mem_of_getElem? (i := 6) rfl)) (aw_r31 _ (List.mem_of_getElem? (i := 7) rfl)) (aw_r1 _ (List.mem_of_getElem? (i := 5) rfl)) (aw_r31 _ (List.mem_of_getElem? (i := 8) rfl))) rfl rfl rfl hd_X6_quickestNow ⟨(Nat.le_of_ble_eq_true rfl), (Nat.le_of_ble_eq_true rfl)⟩) (wg_30 G _) rfl rfl hl.1 rfl (Nat.le_of_ble_eq_true rfl) dX6_wider_48 ⟨Nat.zero_le _, Nat.zero_le _⟩ (fun r8 σ7 H locs hw hk => ?_)
  refine lv_istore (lv' := [(4, .int r8), (0, .ref (G.1 30)), (3, .int x3)]) hx hb dX6_wider_51 hl (Nat.le_of_ble_eq_true rfl) rfl (fun ls hl => ?_)
  refine lv_aload_n hx hb dX6_wider_53 rfl (lv_at hl 1 rfl) ?_
  refine k_callVv (rest := []) X hk (c_X6_comesBack l G _  _ hw) (cwV 0 X.1.2.2.2.2 (gzV (aw_r18 _ (List.mem_of_getElem? (i := 10) rfl)) (aw_r18 _ (List.mem_of_getElem? (i := 11) rfl)) (aw_r18 _ (List.mem_of_getElem? (i := 12) rfl)) (aw_r1 _ (List.mem_of_getElem? (i := 5) rfl)) (aw_r18 _ (List.mem_of_getElem? (i := 13) rfl))) rfl rfl rfl hd_X6_comesBack ⟨(Nat.le_of_ble_eq_true rfl), (Nat.le_of_ble_eq_true rfl)⟩) (wg_30 G _) rfl rfl hl.1 rfl (Nat.le_of_ble_eq_true rfl) dX6_wider_54 ⟨Nat.zero_le _, Nat.zero_le _⟩ (fun σ9 H locs hw hk => ?_)
  refine lv_iload hx hb dX6_wider_57 (lv_at hl 0 rfl) ?_
  exact k_iret X hk hw dX6_wider_59
def wp_X6_wider (σ : Sg) (p1 p2 p3 : Int32) (Q : Int32 → Sg → Prop) : Prop := wp_X6_mayWiden (put σ 30 0 (0 : Int32)) p1 p2 p3 (fun r2 σ1 => (r2 = 0 → (Q (-2 : Int32) σ1)) ∧ (¬ (r2 = 0) → (wp_X6_keeps σ1  (fun σ4 => (p2 = 0 → (wp_X6_wider_41 Q  p3 ((35 : Int32) + ((5 : Int32) * p1)) (3 : Int32) σ4)) ∧ (¬ (p2 = 0) → (wp_X6_wider_41 Q  p3 ((35 : Int32) + ((5 : Int32) * p1)) (4 : Int32) σ4))))))
set_option maxHeartbeats 4000000 in
set_option maxRecDepth 100000 in
theorem c_X6_wider (l : Launch) (G : Gw) (σ : Sg) (p1 p2 p3 : Int32) (Q : Int32 → Sg → Prop) (hw : wp_X6_wider σ p1 p2 p3 Q) : MetI l yX6_wider wz_X6_wider rm_X6_wider G σ [.ref (G.1 30), .int p1, .int p2, .int p3] Q := by
  refine MetI.of cX6_wider 5 (some .int) (by decide) rfl (Nat.le_of_ble_eq_true rfl) ?_
  intro p e s m below meth c X hk ls hl
  have X : KC p m meth c cX6_wider 5 s _ wz_X6_wider RX6 (some .int) G := X
  have hl : lv_has ls 5 [(0, .ref (G.1 30)), (1, .int p1), (2, .int p2), (3, .int p3)] := hl
  unfold wp_X6_wider at hw
  have hx := X.1.1
  have hb := X.1.2.1
  refine lv_aload_n hx hb dX6_wider_0 rfl (lv_at hl 0 rfl) ?_
  refine lv_iconst (v := (0 : Int32)) hx hb dX6_wider_1 (by decide) ?_
  refine k_put 0 X hk (wg_30 G _) rfl (hz_wsX60 _) tyX6_ok nmX6 (Nat.le_of_ble_eq_true rfl) (List.mem_cons_of_mem _ (aw_r6 _ (List.mem_of_getElem? (i := 3) rfl))) rfl rfl (Nat.le_of_ble_eq_true rfl) (ws_30_0 G _ _) dX6_wider_2 (fun H locs hk => ?_)
  refine lv_aload_n hx hb dX6_wider_5 rfl (lv_at hl 0 rfl) ?_
  refine lv_iload_n hx hb dX6_wider_6 rfl (lv_at hl 1 rfl) ?_
  refine lv_iload_n hx hb dX6_wider_7 rfl (lv_at hl 2 rfl) ?_
  refine lv_iload_n hx hb dX6_wider_8 rfl (lv_at hl 3 rfl) ?_
  refine k_callVi (rest := []) X hk (c_X6_mayWiden l G _ _ _ _ _ hw) (cwV 3 X.1.2.2.2.2 (gzV (aw_r34 _ (List.mem_of_getElem? (i := 1) rfl)) (aw_r34 _ (List.mem_of_getElem? (i := 2) rfl)) (aw_r34 _ (List.mem_of_getElem? (i := 3) rfl)) (aw_r1 _ (List.mem_of_getElem? (i := 5) rfl)) (aw_r34 _ (List.mem_of_getElem? (i := 4) rfl))) rfl rfl rfl hd_X6_mayWiden ⟨(Nat.le_of_ble_eq_true rfl), (Nat.le_of_ble_eq_true rfl)⟩) (wg_30 G _) rfl rfl hl.1 rfl (Nat.le_of_ble_eq_true rfl) dX6_wider_9 ⟨Nat.zero_le _, Nat.zero_le _⟩ (fun r2 σ1 H locs hw hk => ?_)
  refine lv_if_ne (tgt := 18) hx hb dX6_wider_12 (by decide) (fun c3 => ?_) (fun c3 => ?_)
  · replace hw := hw.2 c3
    refine lv_aload_n hx hb dX6_wider_18 rfl (lv_at hl 0 rfl) ?_
    refine k_callVv (rest := []) X hk (c_X6_keeps l G _  _ hw) (cwV 0 X.1.2.2.2.2 (gzV (aw_r14 _ (List.mem_of_getElem? (i := 14) rfl)) (aw_r14 _ (List.mem_of_getElem? (i := 15) rfl)) (aw_r14 _ (List.mem_of_getElem? (i := 16) rfl)) (aw_r1 _ (List.mem_of_getElem? (i := 5) rfl)) (aw_r14 _ (List.mem_of_getElem? (i := 17) rfl))) rfl rfl rfl hd_X6_keeps ⟨(Nat.le_of_ble_eq_true rfl), (Nat.le_of_ble_eq_true rfl)⟩) (wg_30 G _) rfl rfl hl.1 rfl (Nat.le_of_ble_eq_true rfl) dX6_wider_19 ⟨Nat.zero_le _, Nat.zero_le _⟩ (fun σ4 H locs hw hk => ?_)
    refine lv_aload_n hx hb dX6_wider_22 rfl (lv_at hl 0 rfl) ?_
    refine k_get 1 X hk (wg_30 G _) rfl (hz_wsX60 _) (Nat.le_of_ble_eq_true rfl) (List.mem_cons_of_mem _ (aw_r4 _ (List.mem_of_getElem? (i := 16) rfl))) rfl dX6_wider_23 ?_
    refine lv_bipush (v := (35 : Int32)) hx hb dX6_wider_26 (by decide) ?_
    refine lv_iconst (v := (5 : Int32)) hx hb dX6_wider_28 (by decide) ?_
    refine lv_iload_n hx hb dX6_wider_29 rfl (lv_at hl 1 rfl) ?_
    refine lv_imul hx hb dX6_wider_30 ?_
    refine lv_iadd hx hb dX6_wider_31 ?_
    refine lv_iload_n hx hb dX6_wider_32 rfl (lv_at hl 2 rfl) ?_
    refine lv_if_eq (tgt := 40) hx hb dX6_wider_33 (by decide) (fun c6 => ?_) (fun c6 => ?_)
    · replace hw := hw.1 c6
      refine lv_iconst (v := (3 : Int32)) hx hb dX6_wider_40 (by decide) ?_
      exact t_X6_wider_41 X Q   _ _ _ _ _ _ _ hw hk (lv_sub hl [0, 3] rfl)
    · replace hw := hw.2 c6
      refine lv_iconst (v := (4 : Int32)) hx hb dX6_wider_36 (by decide) ?_
      refine lv_goto (tgt := 41) hx hb dX6_wider_37 (by decide) ?_
      exact t_X6_wider_41 X Q   _ _ _ _ _ _ _ hw hk (lv_sub hl [0, 3] rfl)
  · replace hw := hw.1 c3
    refine lv_bipush (v := (-2 : Int32)) hx hb dX6_wider_15 (by decide) ?_
    exact k_iret X hk hw dX6_wider_17
def rm_X6_turned : Room := { frames := 6, cells := 0, slots := 0, locals := 133 }
abbrev wz_X6_turned : List Cond := Cond.code yX6_turned cX6_turned 4 (some .int) :: wsA
theorem hd_X6_turned : yX6_turned.cls = RX6 ∧ yX6_turned.cls ≠ "java/lang/invoke/MethodHandle" ∧ yX6_turned.cls ≠ "java/lang/invoke/VarHandle" ∧ (parseMethodDescriptor yX6_turned.desc).map (fun d => d.parameters.length) = some 2 := by decide +kernel
def wp_X6_turned (σ : Sg) (p1 p2 : Int32) (Q : Int32 → Sg → Prop) : Prop := wp_X6_mayTurn (put σ 30 0 (0 : Int32)) p1 p2 (fun r2 σ1 => (r2 = 0 → (Q (-2 : Int32) σ1)) ∧ (¬ (r2 = 0) → (wp_X6_keeps σ1  (fun σ4 => wp_X6_turnsRoad σ4 p1 p2 (fun σ6 => wp_X6_quickestNow σ6  (fun r9 σ8 => wp_X6_comesBack σ8  (fun σ10 => Q r9 σ10)))))))
set_option maxHeartbeats 4000000 in
set_option maxRecDepth 100000 in
theorem c_X6_turned (l : Launch) (G : Gw) (σ : Sg) (p1 p2 : Int32) (Q : Int32 → Sg → Prop) (hw : wp_X6_turned σ p1 p2 Q) : MetI l yX6_turned wz_X6_turned rm_X6_turned G σ [.ref (G.1 30), .int p1, .int p2] Q := by
  refine MetI.of cX6_turned 4 (some .int) (by decide) rfl (Nat.le_of_ble_eq_true rfl) ?_
  intro p e s m below meth c X hk ls hl
  have X : KC p m meth c cX6_turned 4 s _ wz_X6_turned RX6 (some .int) G := X
  have hl : lv_has ls 4 [(0, .ref (G.1 30)), (1, .int p1), (2, .int p2)] := hl
  unfold wp_X6_turned at hw
  have hx := X.1.1
  have hb := X.1.2.1
  refine lv_aload_n hx hb dX6_turned_0 rfl (lv_at hl 0 rfl) ?_
  refine lv_iconst (v := (0 : Int32)) hx hb dX6_turned_1 (by decide) ?_
  refine k_put 0 X hk (wg_30 G _) rfl (hz_wsX60 _) tyX6_ok nmX6 (Nat.le_of_ble_eq_true rfl) (List.mem_cons_of_mem _ (aw_r6 _ (List.mem_of_getElem? (i := 3) rfl))) rfl rfl (Nat.le_of_ble_eq_true rfl) (ws_30_0 G _ _) dX6_turned_2 (fun H locs hk => ?_)
  refine lv_aload_n hx hb dX6_turned_5 rfl (lv_at hl 0 rfl) ?_
  refine lv_iload_n hx hb dX6_turned_6 rfl (lv_at hl 1 rfl) ?_
  refine lv_iload_n hx hb dX6_turned_7 rfl (lv_at hl 2 rfl) ?_
  refine k_callVi (rest := []) X hk (c_X6_mayTurn l G _ _ _ _ hw) (cwV 2 X.1.2.2.2.2 (gzV (aw_r17 _ (List.mem_of_getElem? (i := 6) rfl)) (aw_r17 _ (List.mem_of_getElem? (i := 7) rfl)) (aw_r17 _ (List.mem_of_getElem? (i := 8) rfl)) (aw_r1 _ (List.mem_of_getElem? (i := 5) rfl)) (aw_r17 _ (List.mem_of_getElem? (i := 9) rfl))) rfl rfl rfl hd_X6_mayTurn ⟨(Nat.le_of_ble_eq_true rfl), (Nat.le_of_ble_eq_true rfl)⟩) (wg_30 G _) rfl rfl hl.1 rfl (Nat.le_of_ble_eq_true rfl) dX6_turned_8 ⟨Nat.zero_le _, Nat.zero_le _⟩ (fun r2 σ1 H locs hw hk => ?_)
  refine lv_if_ne (tgt := 17) hx hb dX6_turned_11 (by decide) (fun c3 => ?_) (fun c3 => ?_)
  · replace hw := hw.2 c3
    refine lv_aload_n hx hb dX6_turned_17 rfl (lv_at hl 0 rfl) ?_
    refine k_callVv (rest := []) X hk (c_X6_keeps l G _  _ hw) (cwV 0 X.1.2.2.2.2 (gzV (aw_r14 _ (List.mem_of_getElem? (i := 14) rfl)) (aw_r14 _ (List.mem_of_getElem? (i := 15) rfl)) (aw_r14 _ (List.mem_of_getElem? (i := 16) rfl)) (aw_r1 _ (List.mem_of_getElem? (i := 5) rfl)) (aw_r14 _ (List.mem_of_getElem? (i := 17) rfl))) rfl rfl rfl hd_X6_keeps ⟨(Nat.le_of_ble_eq_true rfl), (Nat.le_of_ble_eq_true rfl)⟩) (wg_30 G _) rfl rfl hl.1 rfl (Nat.le_of_ble_eq_true rfl) dX6_turned_18 ⟨Nat.zero_le _, Nat.zero_le _⟩ (fun σ4 H locs hw hk => ?_)
    refine lv_aload_n hx hb dX6_turned_21 rfl (lv_at hl 0 rfl) ?_
    refine lv_iload_n hx hb dX6_turned_22 rfl (lv_at hl 1 rfl) ?_
    refine lv_iload_n hx hb dX6_turned_23 rfl (lv_at hl 2 rfl) ?_
    refine k_callVv (rest := []) X hk (c_X6_turnsRoad l G _ _ _ _ hw) (cwV 2 X.1.2.2.2.2 (gzV (aw_r17 _ (List.mem_of_getElem? (i := 18) rfl)) (aw_r17 _ (List.mem_of_getElem? (i := 19) rfl)) (aw_r17 _ (List.mem_of_getElem? (i := 20) rfl)) (aw_r1 _ (List.mem_of_getElem? (i := 5) rfl)) (aw_r17 _ (List.mem_of_getElem? (i := 21) rfl))) rfl rfl rfl hd_X6_turnsRoad ⟨(Nat.le_of_ble_eq_true rfl), (Nat.le_of_ble_eq_true rfl)⟩) (wg_30 G _) rfl rfl hl.1 rfl (Nat.le_of_ble_eq_true rfl) dX6_turned_24 ⟨Nat.zero_le _, Nat.zero_le _⟩ (fun σ6 H locs hw hk => ?_)
    refine lv_aload_n hx hb dX6_turned_27 rfl (lv_at hl 0 rfl) ?_
    refine k_callVi (rest := []) X hk (c_X6_quickestNow l G _  _ hw) (cwV 0 X.1.2.2.2.2 (gzV (aw_r31 _ (List.mem_of_getElem? (i := 5) rfl)) (aw_r31 _ (List.mem_of_getElem? (i := 6) rfl)) (aw_r31 _ (List.mem_of_getElem? (i := 7) rfl)) (aw_r1 _ (List.mem_of_getElem? (i := 5) rfl)) (aw_r31 _ (List.mem_of_getElem? (i := 8) rfl))) rfl rfl rfl hd_X6_quickestNow ⟨(Nat.le_of_ble_eq_true rfl), (Nat.le_of_ble_eq_true rfl)⟩) (wg_30 G _) rfl rfl hl.1 rfl (Nat.le_of_ble_eq_true rfl) dX6_turned_28 ⟨Nat.zero_le _, Nat.zero_le _⟩ (fun r9 σ8 H locs hw hk => ?_)
    refine lv_istore_n (lv' := [(3, .int r9), (0, .ref (G.1 30)), (1, .int p1), (2, .int p2)]) hx hb dX6_turned_31 rfl hl (Nat.le_of_ble_eq_true rfl) rfl (fun ls hl => ?_)
    refine lv_aload_n hx hb dX6_turned_32 rfl (lv_at hl 1 rfl) ?_
    refine k_callVv (rest := []) X hk (c_X6_comesBack l G _  _ hw) (cwV 0 X.1.2.2.2.2 (gzV (aw_r18 _ (List.mem_of_getElem? (i := 10) rfl)) (aw_r18 _ (List.mem_of_getElem? (i := 11) rfl)) (aw_r18 _ (List.mem_of_getElem? (i := 12) rfl)) (aw_r1 _ (List.mem_of_getElem? (i := 5) rfl)) (aw_r18 _ (List.mem_of_getElem? (i := 13) rfl))) rfl rfl rfl hd_X6_comesBack ⟨(Nat.le_of_ble_eq_true rfl), (Nat.le_of_ble_eq_true rfl)⟩) (wg_30 G _) rfl rfl hl.1 rfl (Nat.le_of_ble_eq_true rfl) dX6_turned_33 ⟨Nat.zero_le _, Nat.zero_le _⟩ (fun σ10 H locs hw hk => ?_)
    refine lv_iload_n hx hb dX6_turned_36 rfl (lv_at hl 0 rfl) ?_
    exact k_iret X hk hw dX6_turned_37
  · replace hw := hw.1 c3
    refine lv_bipush (v := (-2 : Int32)) hx hb dX6_turned_14 (by decide) ?_
    exact k_iret X hk hw dX6_turned_16
def rm_X6_bestTurn : Room := { frames := 6, cells := 0, slots := 0, locals := 133 }
abbrev wz_X6_bestTurn : List Cond := Cond.code yX6_bestTurn cX6_bestTurn 10 (some .int) :: wsA
theorem hd_X6_bestTurn : yX6_bestTurn.cls = RX6 ∧ yX6_bestTurn.cls ≠ "java/lang/invoke/MethodHandle" ∧ yX6_bestTurn.cls ≠ "java/lang/invoke/VarHandle" ∧ (parseMethodDescriptor yX6_bestTurn.desc).map (fun d => d.parameters.length) = some 1 := by decide +kernel
def wp_X6_bestTurn_144 (Q : Int32 → Sg → Prop) (K47 : Int32 → Int32 → Int32 → Int32 → Int32 → Sg → Prop) (K57 : Int32 → Int32 → Int32 → Int32 → Int32 → Int32 → Sg → Prop) (x1 x3 x4 x5 x6 x7 : Int32) (σ : Sg) : Prop := ∀ x7_29 : Int32, x7_29 = (x7 + (1 : Int32)) → (K57 x1 x3 x4 x5 x6 x7_29 σ)
set_option maxHeartbeats 4000000 in
set_option maxRecDepth 100000 in
theorem t_X6_bestTurn_144 {p : Program} {l : Launch} {e : Env} {s : State} {m : MethodId} {args : Array Value} {below : List Frame} {meth : Method} {c : Code} {G : Gw} (X : KC p m meth c cX6_bestTurn 10 s args wz_X6_bestTurn RX6 (some .int) G) (Q : Int32 → Sg → Prop) (K47 : Int32 → Int32 → Int32 → Int32 → Int32 → Sg → Prop) (K57 : Int32 → Int32 → Int32 → Int32 → Int32 → Int32 → Sg → Prop) (hK47 : ∀ (σ : Sg) (x1 x3 x4 x5 x6 : Int32) (H : Heap) (locs : List Loc) (ls : Array Slot), K47 x1 x3 x4 x5 x6 σ → WK G s H locs σ → lv_has ls 10 [(0, .ref (G.1 30)), (1, .int x1), (3, .int x3), (4, .int x4), (5, .int x5), (6, .int x6)] → W p l e rm_X6_bestTurn s m args below meth c H locs 0 0 (ZI below args s G Q) (F0 m 47 ls [])) (hK57 : ∀ (σ : Sg) (x1 x3 x4 x5 x6 x7 : Int32) (H : Heap) (locs : List Loc) (ls : Array Slot), K57 x1 x3 x4 x5 x6 x7 σ → WK G s H locs σ → lv_has ls 10 [(0, .ref (G.1 30)), (1, .int x1), (3, .int x3), (4, .int x4), (5, .int x5), (6, .int x6), (7, .int x7)] → W p l e rm_X6_bestTurn s m args below meth c H locs 0 0 (ZI below args s G Q) (F0 m 57 ls [])) : ∀ (σ : Sg) (x1 x3 x4 x5 x6 x7 : Int32) (H : Heap) (locs : List Loc) (ls : Array Slot), wp_X6_bestTurn_144 Q K47 K57 x1 x3 x4 x5 x6 x7 σ → WK G s H locs σ → lv_has ls 10 [(0, .ref (G.1 30)), (1, .int x1), (3, .int x3), (4, .int x4), (5, .int x5), (6, .int x6), (7, .int x7)] → W p l e rm_X6_bestTurn s m args below meth c H locs 0 0 (ZI below args s G Q) (F0 m 144 ls []) := by
  have hx := X.1.1
  have hb := X.1.2.1
  intro σ x1 x3 x4 x5 x6 x7 H locs ls hw hk hl
  unfold wp_X6_bestTurn_144 at hw
  obtain ⟨x7_29, ex7_29⟩ : ∃ y : Int32, y = (x7 + (1 : Int32)) := ⟨_, rfl⟩
  replace hw := hw x7_29 ex7_29
  refine lv_iinc (v := x7_29) (lv' := [(7, .int x7_29), (0, .ref (G.1 30)), (1, .int x1), (3, .int x3), (4, .int x4), (5, .int x5), (6, .int x6)]) hx hb dX6_bestTurn_144 hl (k := 6) rfl (by rw [ex7_29]; rfl) (Nat.le_of_ble_eq_true rfl) rfl (fun ls hl => ?_)
  refine lv_goto (tgt := 57) hx hb dX6_bestTurn_147 (by decide) ?_
  exact hK57 _ _ _ _ _ _ _ _ _ _ hw hk (lv_sub hl [1, 2, 3, 4, 5, 6, 0] rfl)
def wp_X6_bestTurn_83 (Q : Int32 → Sg → Prop) (K47 : Int32 → Int32 → Int32 → Int32 → Int32 → Sg → Prop) (K57 : Int32 → Int32 → Int32 → Int32 → Int32 → Int32 → Sg → Prop) (x1 x3 x4 x5 x6 x7 y0 : Int32) (σ : Sg) : Prop := wp_X6_mayTurn σ (x7 / (2 : Int32)) y0 (fun r19 σ18 => (r19 = 0 → (wp_X6_bestTurn_144 Q K47 K57 x1 x3 x4 x5 x6 x7 σ18)) ∧ (¬ (r19 = 0) → (wp_X6_turnsRoad σ18 (x7 / (2 : Int32)) y0 (fun σ21 => wp_X6_quickestBelow σ21 x3 (fun r24 σ23 => wp_X6_comesBack σ23  (fun σ25 => (r24 = (-1 : Int32) → (wp_X6_bestTurn_144 Q K47 K57 x1 x3 x4 x5 x6 x7 σ25)) ∧ (¬ (r24 = (-1 : Int32)) → (∀ x4_28 : Int32, x4_28 = (x7 / (2 : Int32)) → (wp_X6_bestTurn_144 Q K47 K57 x1 r24 x4_28 y0 x6 x7 σ25)))))))))
set_option maxHeartbeats 4000000 in
set_option maxRecDepth 100000 in
theorem t_X6_bestTurn_83 {p : Program} {l : Launch} {e : Env} {s : State} {m : MethodId} {args : Array Value} {below : List Frame} {meth : Method} {c : Code} {G : Gw} (X : KC p m meth c cX6_bestTurn 10 s args wz_X6_bestTurn RX6 (some .int) G) (Q : Int32 → Sg → Prop) (K47 : Int32 → Int32 → Int32 → Int32 → Int32 → Sg → Prop) (K57 : Int32 → Int32 → Int32 → Int32 → Int32 → Int32 → Sg → Prop) (hK47 : ∀ (σ : Sg) (x1 x3 x4 x5 x6 : Int32) (H : Heap) (locs : List Loc) (ls : Array Slot), K47 x1 x3 x4 x5 x6 σ → WK G s H locs σ → lv_has ls 10 [(0, .ref (G.1 30)), (1, .int x1), (3, .int x3), (4, .int x4), (5, .int x5), (6, .int x6)] → W p l e rm_X6_bestTurn s m args below meth c H locs 0 0 (ZI below args s G Q) (F0 m 47 ls [])) (hK57 : ∀ (σ : Sg) (x1 x3 x4 x5 x6 x7 : Int32) (H : Heap) (locs : List Loc) (ls : Array Slot), K57 x1 x3 x4 x5 x6 x7 σ → WK G s H locs σ → lv_has ls 10 [(0, .ref (G.1 30)), (1, .int x1), (3, .int x3), (4, .int x4), (5, .int x5), (6, .int x6), (7, .int x7)] → W p l e rm_X6_bestTurn s m args below meth c H locs 0 0 (ZI below args s G Q) (F0 m 57 ls [])) : ∀ (σ : Sg) (x1 x3 x4 x5 x6 x7 y0 : Int32) (H : Heap) (locs : List Loc) (ls : Array Slot), wp_X6_bestTurn_83 Q K47 K57 x1 x3 x4 x5 x6 x7 y0 σ → WK G s H locs σ → lv_has ls 10 [(0, .ref (G.1 30)), (1, .int x1), (3, .int x3), (4, .int x4), (5, .int x5), (6, .int x6), (7, .int x7)] → W p l e rm_X6_bestTurn s m args below meth c H locs 0 0 (ZI below args s G Q) (F0 m 83 ls [.int y0]) := by
  have hx := X.1.1
  have hb := X.1.2.1
  intro σ x1 x3 x4 x5 x6 x7 y0 H locs ls hw hk hl
  unfold wp_X6_bestTurn_83 at hw
  refine lv_istore (lv' := [(8, .int y0), (0, .ref (G.1 30)), (1, .int x1), (3, .int x3), (4, .int x4), (5, .int x5), (6, .int x6), (7, .int x7)]) hx hb dX6_bestTurn_83 hl (Nat.le_of_ble_eq_true rfl) rfl (fun ls hl => ?_)
  refine lv_aload_n hx hb dX6_bestTurn_85 rfl (lv_at hl 1 rfl) ?_
  refine lv_iload hx hb dX6_bestTurn_86 (lv_at hl 7 rfl) ?_
  refine lv_iconst (v := (2 : Int32)) hx hb dX6_bestTurn_88 (by decide) ?_
  refine lv_idiv hx hb dX6_bestTurn_89 (by decide) ?_
  refine lv_iload hx hb dX6_bestTurn_90 (lv_at hl 0 rfl) ?_
  refine k_callVi (rest := []) X hk (c_X6_mayTurn l G _ _ _ _ hw) (cwV 2 X.1.2.2.2.2 (gzV (aw_r17 _ (List.mem_of_getElem? (i := 6) rfl)) (aw_r17 _ (List.mem_of_getElem? (i := 7) rfl)) (aw_r17 _ (List.mem_of_getElem? (i := 8) rfl)) (aw_r1 _ (List.mem_of_getElem? (i := 5) rfl)) (aw_r17 _ (List.mem_of_getElem? (i := 9) rfl))) rfl rfl rfl hd_X6_mayTurn ⟨(Nat.le_of_ble_eq_true rfl), (Nat.le_of_ble_eq_true rfl)⟩) (wg_30 G _) rfl rfl hl.1 rfl (Nat.le_of_ble_eq_true rfl) dX6_bestTurn_92 ⟨Nat.zero_le _, Nat.zero_le _⟩ (fun r19 σ18 H locs hw hk => ?_)
  refine lv_if_ne (tgt := 101) hx hb dX6_bestTurn_95 (by decide) (fun c20 => ?_) (fun c20 => ?_)
  · replace hw := hw.2 c20
    refine lv_aload_n hx hb dX6_bestTurn_101 rfl (lv_at hl 1 rfl) ?_
    refine lv_iload hx hb dX6_bestTurn_102 (lv_at hl 7 rfl) ?_
    refine lv_iconst (v := (2 : Int32)) hx hb dX6_bestTurn_104 (by decide) ?_
    refine lv_idiv hx hb dX6_bestTurn_105 (by decide) ?_
    refine lv_iload hx hb dX6_bestTurn_106 (lv_at hl 0 rfl) ?_
    refine k_callVv (rest := []) X hk (c_X6_turnsRoad l G _ _ _ _ hw) (cwV 2 X.1.2.2.2.2 (gzV (aw_r17 _ (List.mem_of_getElem? (i := 18) rfl)) (aw_r17 _ (List.mem_of_getElem? (i := 19) rfl)) (aw_r17 _ (List.mem_of_getElem? (i := 20) rfl)) (aw_r1 _ (List.mem_of_getElem? (i := 5) rfl)) (aw_r17 _ (List.mem_of_getElem? (i := 21) rfl))) rfl rfl rfl hd_X6_turnsRoad ⟨(Nat.le_of_ble_eq_true rfl), (Nat.le_of_ble_eq_true rfl)⟩) (wg_30 G _) rfl rfl hl.1 rfl (Nat.le_of_ble_eq_true rfl) dX6_bestTurn_108 ⟨Nat.zero_le _, Nat.zero_le _⟩ (fun σ21 H locs hw hk => ?_)
    refine lv_aload_n hx hb dX6_bestTurn_111 rfl (lv_at hl 1 rfl) ?_
    refine lv_iload_n hx hb dX6_bestTurn_112 rfl (lv_at hl 3 rfl) ?_
    refine k_callVi (rest := []) X hk (c_X6_quickestBelow l G _ _ _ hw) (cwV 1 X.1.2.2.2.2 (gzV (aw_r31 _ (List.mem_of_getElem? (i := 9) rfl)) (aw_r31 _ (List.mem_of_getElem? (i := 10) rfl)) (aw_r31 _ (List.mem_of_getElem? (i := 11) rfl)) (aw_r1 _ (List.mem_of_getElem? (i := 5) rfl)) (aw_r31 _ (List.mem_of_getElem? (i := 12) rfl))) rfl rfl rfl hd_X6_quickestBelow ⟨(Nat.le_of_ble_eq_true rfl), (Nat.le_of_ble_eq_true rfl)⟩) (wg_30 G _) rfl rfl hl.1 rfl (Nat.le_of_ble_eq_true rfl) dX6_bestTurn_113 ⟨Nat.zero_le _, Nat.zero_le _⟩ (fun r24 σ23 H locs hw hk => ?_)
    refine lv_istore (lv' := [(9, .int r24), (8, .int y0), (0, .ref (G.1 30)), (1, .int x1), (3, .int x3), (4, .int x4), (5, .int x5), (6, .int x6), (7, .int x7)]) hx hb dX6_bestTurn_116 hl (Nat.le_of_ble_eq_true rfl) rfl (fun ls hl => ?_)
    refine lv_aload_n hx hb dX6_bestTurn_118 rfl (lv_at hl 2 rfl) ?_
    refine k_callVv (rest := []) X hk (c_X6_comesBack l G _  _ hw) (cwV 0 X.1.2.2.2.2 (gzV (aw_r18 _ (List.mem_of_getElem? (i := 10) rfl)) (aw_r18 _ (List.mem_of_getElem? (i := 11) rfl)) (aw_r18 _ (List.mem_of_getElem? (i := 12) rfl)) (aw_r1 _ (List.mem_of_getElem? (i := 5) rfl)) (aw_r18 _ (List.mem_of_getElem? (i := 13) rfl))) rfl rfl rfl hd_X6_comesBack ⟨(Nat.le_of_ble_eq_true rfl), (Nat.le_of_ble_eq_true rfl)⟩) (wg_30 G _) rfl rfl hl.1 rfl (Nat.le_of_ble_eq_true rfl) dX6_bestTurn_119 ⟨Nat.zero_le _, Nat.zero_le _⟩ (fun σ25 H locs hw hk => ?_)
    refine lv_iload hx hb dX6_bestTurn_122 (lv_at hl 0 rfl) ?_
    refine lv_iconst (v := (-1 : Int32)) hx hb dX6_bestTurn_124 (by decide) ?_
    refine lv_icmp_ne (tgt := 131) hx hb dX6_bestTurn_125 (by decide) (fun c27 => ?_) (fun c27 => ?_)
    · replace hw := hw.2 c27
      refine lv_iload hx hb dX6_bestTurn_131 (lv_at hl 0 rfl) ?_
      refine lv_istore_n (lv' := [(3, .int r24), (9, .int r24), (8, .int y0), (0, .ref (G.1 30)), (1, .int x1), (4, .int x4), (5, .int x5), (6, .int x6), (7, .int x7)]) hx hb dX6_bestTurn_133 rfl hl (Nat.le_of_ble_eq_true rfl) rfl (fun ls hl => ?_)
      refine lv_iload hx hb dX6_bestTurn_134 (lv_at hl 8 rfl) ?_
      refine lv_iconst (v := (2 : Int32)) hx hb dX6_bestTurn_136 (by decide) ?_
      refine lv_idiv hx hb dX6_bestTurn_137 (by decide) ?_
      refine lv_topi (fun x4_28 ex4_28 => ?_)
      replace hw := hw x4_28 ex4_28
      refine lv_istore (lv' := [(4, .int x4_28), (3, .int r24), (9, .int r24), (8, .int y0), (0, .ref (G.1 30)), (1, .int x1), (5, .int x5), (6, .int x6), (7, .int x7)]) hx hb dX6_bestTurn_138 hl (Nat.le_of_ble_eq_true rfl) rfl (fun ls hl => ?_)
      refine lv_iload hx hb dX6_bestTurn_140 (lv_at hl 3 rfl) ?_
      refine lv_istore (lv' := [(5, .int y0), (4, .int x4_28), (3, .int r24), (9, .int r24), (8, .int y0), (0, .ref (G.1 30)), (1, .int x1), (6, .int x6), (7, .int x7)]) hx hb dX6_bestTurn_142 hl (Nat.le_of_ble_eq_true rfl) rfl (fun ls hl => ?_)
      exact t_X6_bestTurn_144 X Q _ _ hK47 hK57 _ _ _ _ _ _ _ _ _ _ hw hk (lv_sub hl [5, 6, 2, 1, 0, 7, 8] rfl)
    · replace hw := hw.1 c27
      refine lv_goto (tgt := 144) hx hb dX6_bestTurn_128 (by decide) ?_
      exact t_X6_bestTurn_144 X Q _ _ hK47 hK57 _ _ _ _ _ _ _ _ _ _ hw hk (lv_sub hl [2, 3, 4, 5, 6, 7, 8] rfl)
  · replace hw := hw.1 c20
    refine lv_goto (tgt := 144) hx hb dX6_bestTurn_98 (by decide) ?_
    exact t_X6_bestTurn_144 X Q _ _ hK47 hK57 _ _ _ _ _ _ _ _ _ _ hw hk (lv_sub hl [1, 2, 3, 4, 5, 6, 7] rfl)
def wp_X6_bestTurn_57 (Q : Int32 → Sg → Prop) (K47 : Int32 → Int32 → Int32 → Int32 → Int32 → Sg → Prop) : Nat → Int32 → Int32 → Int32 → Int32 → Int32 → Int32 → Sg → Prop
  | 0, _, _, _, _, _, _, _ => False
  | n + 1, x1, x3, x4, x5, x6, x7, σ => wp_X6_roads σ  (fun r14 σ13 => (((2 : Int32) * r14) ≤ x7 → (∀ x6_16 : Int32, x6_16 = (x6 + (1 : Int32)) → (K47 x1 x3 x4 x5 x6_16 σ13))) ∧ (¬ (((2 : Int32) * r14) ≤ x7) → (((x7 - x7 / (2 : Int32) * (2 : Int32)) = 0 → (wp_X6_bestTurn_83 Q K47 (fun z1 z3 z4 z5 z6 z7 σ => wp_X6_bestTurn_57 Q K47 n z1 z3 z4 z5 z6 z7 σ) x1 x3 x4 x5 x6 x7 x6 σ13)) ∧ (¬ ((x7 - x7 / (2 : Int32) * (2 : Int32)) = 0) → (wp_X6_bestTurn_83 Q K47 (fun z1 z3 z4 z5 z6 z7 σ => wp_X6_bestTurn_57 Q K47 n z1 z3 z4 z5 z6 z7 σ) x1 x3 x4 x5 x6 x7 (-x6) σ13)))))
set_option maxHeartbeats 4000000 in
set_option maxRecDepth 100000 in
theorem t_X6_bestTurn_57 {p : Program} {l : Launch} {e : Env} {s : State} {m : MethodId} {args : Array Value} {below : List Frame} {meth : Method} {c : Code} {G : Gw} (X : KC p m meth c cX6_bestTurn 10 s args wz_X6_bestTurn RX6 (some .int) G) (Q : Int32 → Sg → Prop) (K47 : Int32 → Int32 → Int32 → Int32 → Int32 → Sg → Prop) (hK47 : ∀ (σ : Sg) (x1 x3 x4 x5 x6 : Int32) (H : Heap) (locs : List Loc) (ls : Array Slot), K47 x1 x3 x4 x5 x6 σ → WK G s H locs σ → lv_has ls 10 [(0, .ref (G.1 30)), (1, .int x1), (3, .int x3), (4, .int x4), (5, .int x5), (6, .int x6)] → W p l e rm_X6_bestTurn s m args below meth c H locs 0 0 (ZI below args s G Q) (F0 m 47 ls [])) : ∀ (n : Nat) (σ : Sg) (x1 x3 x4 x5 x6 x7 : Int32) (H : Heap) (locs : List Loc) (ls : Array Slot), wp_X6_bestTurn_57 Q K47 n x1 x3 x4 x5 x6 x7 σ → WK G s H locs σ → lv_has ls 10 [(0, .ref (G.1 30)), (1, .int x1), (3, .int x3), (4, .int x4), (5, .int x5), (6, .int x6), (7, .int x7)] → W p l e rm_X6_bestTurn s m args below meth c H locs 0 0 (ZI below args s G Q) (F0 m 57 ls []) := by
  have hx := X.1.1
  have hb := X.1.2.1
  intro n
  induction n with
  | zero =>
    intro σ x1 x3 x4 x5 x6 x7 H locs ls hw hk hl
    exact False.elim hw
  | succ n ih =>
    intro σ x1 x3 x4 x5 x6 x7 H locs ls hw hk hl
    rw [wp_X6_bestTurn_57] at hw
    refine lv_iload hx hb dX6_bestTurn_57 (lv_at hl 6 rfl) ?_
    refine lv_iconst (v := (2 : Int32)) hx hb dX6_bestTurn_59 (by decide) ?_
    refine lv_aload_n hx hb dX6_bestTurn_60 rfl (lv_at hl 0 rfl) ?_
    refine k_callVi (rest := [.int (2 : Int32), .int x7]) X hk (c_X6_roads l G _  _ hw) (cwV 0 X.1.2.2.2.2 (gzV (aw_r16 _ (List.mem_of_getElem? (i := 18) rfl)) (aw_r16 _ (List.mem_of_getElem? (i := 19) rfl)) (aw_r16 _ (List.mem_of_getElem? (i := 20) rfl)) (aw_r1 _ (List.mem_of_getElem? (i := 5) rfl)) (aw_r16 _ (List.mem_of_getElem? (i := 21) rfl))) rfl rfl rfl hd_X6_roads ⟨(Nat.le_of_ble_eq_true rfl), (Nat.le_of_ble_eq_true rfl)⟩) (wg_30 G _) rfl rfl hl.1 rfl (Nat.le_of_ble_eq_true rfl) dX6_bestTurn_61 ⟨Nat.zero_le _, Nat.zero_le _⟩ (fun r14 σ13 H locs hw hk => ?_)
    refine lv_imul hx hb dX6_bestTurn_64 ?_
    refine lv_icmp_ge (tgt := 150) hx hb dX6_bestTurn_65 (by decide) (fun c15 => ?_) (fun c15 => ?_)
    · replace hw := hw.1 c15
      obtain ⟨x6_16, ex6_16⟩ : ∃ y : Int32, y = (x6 + (1 : Int32)) := ⟨_, rfl⟩
      replace hw := hw x6_16 ex6_16
      refine lv_iinc (v := x6_16) (lv' := [(6, .int x6_16), (0, .ref (G.1 30)), (1, .int x1), (3, .int x3), (4, .int x4), (5, .int x5), (7, .int x7)]) hx hb dX6_bestTurn_150 hl (k := 5) rfl (by rw [ex6_16]; rfl) (Nat.le_of_ble_eq_true rfl) rfl (fun ls hl => ?_)
      refine lv_goto (tgt := 47) hx hb dX6_bestTurn_153 (by decide) ?_
      exact hK47 _ _ _ _ _ _ _ _ _ hw hk (lv_sub hl [1, 2, 3, 4, 5, 0] rfl)
    · replace hw := hw.2 c15
      refine lv_iload hx hb dX6_bestTurn_68 (lv_at hl 6 rfl) ?_
      refine lv_iconst (v := (2 : Int32)) hx hb dX6_bestTurn_70 (by decide) ?_
      refine lv_irem hx hb dX6_bestTurn_71 (by decide) ?_
      refine lv_if_ne (tgt := 80) hx hb dX6_bestTurn_72 (by decide) (fun c17 => ?_) (fun c17 => ?_)
      · replace hw := hw.2 c17
        refine lv_iload hx hb dX6_bestTurn_80 (lv_at hl 5 rfl) ?_
        refine lv_ineg hx hb dX6_bestTurn_82 ?_
        exact t_X6_bestTurn_83 X Q _ _ hK47 ih _ _ _ _ _ _ _ _ _ _ _ hw hk hl
      · replace hw := hw.1 c17
        refine lv_iload hx hb dX6_bestTurn_75 (lv_at hl 5 rfl) ?_
        refine lv_goto (tgt := 83) hx hb dX6_bestTurn_77 (by decide) ?_
        exact t_X6_bestTurn_83 X Q _ _ hK47 ih _ _ _ _ _ _ _ _ _ _ _ hw hk hl
def wp_X6_bestTurn_47 (Q : Int32 → Sg → Prop)  : Nat → Int32 → Int32 → Int32 → Int32 → Int32 → Sg → Prop
  | 0, _, _, _, _, _, _ => False
  | n + 1, x1, x3, x4, x5, x6, σ => ((99 : Int32) ≤ x6 → ((x4 = (-1 : Int32) → (Q (-2 : Int32) σ)) ∧ (¬ (x4 = (-1 : Int32)) → ((x1 = 0 → (Q x3 σ)) ∧ (¬ (x1 = 0) → ((x1 = (1 : Int32) → (Q x4 σ)) ∧ (¬ (x1 = (1 : Int32)) → (Q x5 σ)))))))) ∧ (¬ ((99 : Int32) ≤ x6) → (∃ n0, wp_X6_bestTurn_57 Q (fun z1 z3 z4 z5 z6 σ => wp_X6_bestTurn_47 Q  n z1 z3 z4 z5 z6 σ) n0 x1 x3 x4 x5 x6 (0 : Int32) σ))
set_option maxHeartbeats 4000000 in
set_option maxRecDepth 100000 in
theorem t_X6_bestTurn_47 {p : Program} {l : Launch} {e : Env} {s : State} {m : MethodId} {args : Array Value} {below : List Frame} {meth : Method} {c : Code} {G : Gw} (X : KC p m meth c cX6_bestTurn 10 s args wz_X6_bestTurn RX6 (some .int) G) (Q : Int32 → Sg → Prop)  : ∀ (n : Nat) (σ : Sg) (x1 x3 x4 x5 x6 : Int32) (H : Heap) (locs : List Loc) (ls : Array Slot), wp_X6_bestTurn_47 Q  n x1 x3 x4 x5 x6 σ → WK G s H locs σ → lv_has ls 10 [(0, .ref (G.1 30)), (1, .int x1), (3, .int x3), (4, .int x4), (5, .int x5), (6, .int x6)] → W p l e rm_X6_bestTurn s m args below meth c H locs 0 0 (ZI below args s G Q) (F0 m 47 ls []) := by
  have hx := X.1.1
  have hb := X.1.2.1
  intro n
  induction n with
  | zero =>
    intro σ x1 x3 x4 x5 x6 H locs ls hw hk hl
    exact False.elim hw
  | succ n ih =>
    intro σ x1 x3 x4 x5 x6 H locs ls hw hk hl
    rw [wp_X6_bestTurn_47] at hw
    refine lv_iload hx hb dX6_bestTurn_47 (lv_at hl 5 rfl) ?_
    refine lv_bipush (v := (99 : Int32)) hx hb dX6_bestTurn_49 (by decide) ?_
    refine lv_icmp_ge (tgt := 156) hx hb dX6_bestTurn_51 (by decide) (fun c9 => ?_) (fun c9 => ?_)
    · replace hw := hw.1 c9
      refine lv_iload hx hb dX6_bestTurn_156 (lv_at hl 3 rfl) ?_
      refine lv_iconst (v := (-1 : Int32)) hx hb dX6_bestTurn_158 (by decide) ?_
      refine lv_icmp_ne (tgt := 165) hx hb dX6_bestTurn_159 (by decide) (fun c10 => ?_) (fun c10 => ?_)
      · replace hw := hw.2 c10
        refine lv_iload_n hx hb dX6_bestTurn_165 rfl (lv_at hl 1 rfl) ?_
        refine lv_if_ne (tgt := 173) hx hb dX6_bestTurn_166 (by decide) (fun c11 => ?_) (fun c11 => ?_)
        · replace hw := hw.2 c11
          refine lv_iload_n hx hb dX6_bestTurn_173 rfl (lv_at hl 1 rfl) ?_
          refine lv_iconst (v := (1 : Int32)) hx hb dX6_bestTurn_174 (by decide) ?_
          refine lv_icmp_ne (tgt := 183) hx hb dX6_bestTurn_175 (by decide) (fun c12 => ?_) (fun c12 => ?_)
          · replace hw := hw.2 c12
            refine lv_iload hx hb dX6_bestTurn_183 (lv_at hl 4 rfl) ?_
            exact k_iret X hk hw dX6_bestTurn_185
          · replace hw := hw.1 c12
            refine lv_iload hx hb dX6_bestTurn_178 (lv_at hl 3 rfl) ?_
            refine lv_goto (tgt := 185) hx hb dX6_bestTurn_180 (by decide) ?_
            exact k_iret X hk hw dX6_bestTurn_185
        · replace hw := hw.1 c11
          refine lv_iload_n hx hb dX6_bestTurn_169 rfl (lv_at hl 2 rfl) ?_
          refine lv_goto (tgt := 185) hx hb dX6_bestTurn_170 (by decide) ?_
          exact k_iret X hk hw dX6_bestTurn_185
      · replace hw := hw.1 c10
        refine lv_bipush (v := (-2 : Int32)) hx hb dX6_bestTurn_162 (by decide) ?_
        exact k_iret X hk hw dX6_bestTurn_164
    · replace hw := hw.2 c9
      refine lv_iconst (v := (0 : Int32)) hx hb dX6_bestTurn_54 (by decide) ?_
      refine lv_istore (lv' := [(7, .int (0 : Int32)), (0, .ref (G.1 30)), (1, .int x1), (3, .int x3), (4, .int x4), (5, .int x5), (6, .int x6)]) hx hb dX6_bestTurn_55 hl (Nat.le_of_ble_eq_true rfl) rfl (fun ls hl => ?_)
      obtain ⟨n0, hw⟩ := hw
      exact t_X6_bestTurn_57 X Q _ ih n0 _ _ _ _ _ _ _ _ _ _ hw hk (lv_sub hl [1, 2, 3, 4, 5, 6, 0] rfl)
def wp_X6_bestTurn_33 (Q : Int32 → Sg → Prop)  (x1 y0 : Int32) (σ : Sg) : Prop := wp_X6_keeps σ  (fun σ7 => ∃ n0, wp_X6_bestTurn_47 Q  n0 x1 y0 (-1 : Int32) (0 : Int32) (1 : Int32) σ7)
set_option maxHeartbeats 4000000 in
set_option maxRecDepth 100000 in
theorem t_X6_bestTurn_33 {p : Program} {l : Launch} {e : Env} {s : State} {m : MethodId} {args : Array Value} {below : List Frame} {meth : Method} {c : Code} {G : Gw} (X : KC p m meth c cX6_bestTurn 10 s args wz_X6_bestTurn RX6 (some .int) G) (Q : Int32 → Sg → Prop)  : ∀ (σ : Sg) (x1 y0 : Int32) (H : Heap) (locs : List Loc) (ls : Array Slot), wp_X6_bestTurn_33 Q  x1 y0 σ → WK G s H locs σ → lv_has ls 10 [(0, .ref (G.1 30)), (1, .int x1)] → W p l e rm_X6_bestTurn s m args below meth c H locs 0 0 (ZI below args s G Q) (F0 m 33 ls [.int y0]) := by
  have hx := X.1.1
  have hb := X.1.2.1
  intro σ x1 y0 H locs ls hw hk hl
  unfold wp_X6_bestTurn_33 at hw
  refine lv_istore_n (lv' := [(3, .int y0), (0, .ref (G.1 30)), (1, .int x1)]) hx hb dX6_bestTurn_33 rfl hl (Nat.le_of_ble_eq_true rfl) rfl (fun ls hl => ?_)
  refine lv_iconst (v := (-1 : Int32)) hx hb dX6_bestTurn_34 (by decide) ?_
  refine lv_istore (lv' := [(4, .int (-1 : Int32)), (3, .int y0), (0, .ref (G.1 30)), (1, .int x1)]) hx hb dX6_bestTurn_35 hl (Nat.le_of_ble_eq_true rfl) rfl (fun ls hl => ?_)
  refine lv_iconst (v := (0 : Int32)) hx hb dX6_bestTurn_37 (by decide) ?_
  refine lv_istore (lv' := [(5, .int (0 : Int32)), (4, .int (-1 : Int32)), (3, .int y0), (0, .ref (G.1 30)), (1, .int x1)]) hx hb dX6_bestTurn_38 hl (Nat.le_of_ble_eq_true rfl) rfl (fun ls hl => ?_)
  refine lv_aload_n hx hb dX6_bestTurn_40 rfl (lv_at hl 3 rfl) ?_
  refine k_callVv (rest := []) X hk (c_X6_keeps l G _  _ hw) (cwV 0 X.1.2.2.2.2 (gzV (aw_r14 _ (List.mem_of_getElem? (i := 14) rfl)) (aw_r14 _ (List.mem_of_getElem? (i := 15) rfl)) (aw_r14 _ (List.mem_of_getElem? (i := 16) rfl)) (aw_r1 _ (List.mem_of_getElem? (i := 5) rfl)) (aw_r14 _ (List.mem_of_getElem? (i := 17) rfl))) rfl rfl rfl hd_X6_keeps ⟨(Nat.le_of_ble_eq_true rfl), (Nat.le_of_ble_eq_true rfl)⟩) (wg_30 G _) rfl rfl hl.1 rfl (Nat.le_of_ble_eq_true rfl) dX6_bestTurn_41 ⟨Nat.zero_le _, Nat.zero_le _⟩ (fun σ7 H locs hw hk => ?_)
  refine lv_iconst (v := (1 : Int32)) hx hb dX6_bestTurn_44 (by decide) ?_
  refine lv_istore (lv' := [(6, .int (1 : Int32)), (5, .int (0 : Int32)), (4, .int (-1 : Int32)), (3, .int y0), (0, .ref (G.1 30)), (1, .int x1)]) hx hb dX6_bestTurn_45 hl (Nat.le_of_ble_eq_true rfl) rfl (fun ls hl => ?_)
  obtain ⟨n0, hw⟩ := hw
  exact t_X6_bestTurn_47 X Q   n0 _ _ _ _ _ _ _ _ _ hw hk (lv_sub hl [4, 5, 3, 2, 1, 0] rfl)
def wp_X6_bestTurn (σ : Sg) (p1 : Int32) (Q : Int32 → Sg → Prop) : Prop := wp_X6_isIn (put σ 30 0 (0 : Int32)) p1 (0 : Int32) (2 : Int32) (fun r2 σ1 => (r2 = 0 → (Q (-2 : Int32) σ1)) ∧ (¬ (r2 = 0) → (wp_X6_quickestNow σ1  (fun r5 σ4 => (r5 = (-1 : Int32) → (wp_X6_bestTurn_33 Q  p1 (41 : Int32) σ4)) ∧ (¬ (r5 = (-1 : Int32)) → (wp_X6_bestTurn_33 Q  p1 r5 σ4))))))
set_option maxHeartbeats 4000000 in
set_option maxRecDepth 100000 in
theorem c_X6_bestTurn (l : Launch) (G : Gw) (σ : Sg) (p1 : Int32) (Q : Int32 → Sg → Prop) (hw : wp_X6_bestTurn σ p1 Q) : MetI l yX6_bestTurn wz_X6_bestTurn rm_X6_bestTurn G σ [.ref (G.1 30), .int p1] Q := by
  refine MetI.of cX6_bestTurn 10 (some .int) (by decide) rfl (Nat.le_of_ble_eq_true rfl) ?_
  intro p e s m below meth c X hk ls hl
  have X : KC p m meth c cX6_bestTurn 10 s _ wz_X6_bestTurn RX6 (some .int) G := X
  have hl : lv_has ls 10 [(0, .ref (G.1 30)), (1, .int p1)] := hl
  unfold wp_X6_bestTurn at hw
  have hx := X.1.1
  have hb := X.1.2.1
  refine lv_aload_n hx hb dX6_bestTurn_0 rfl (lv_at hl 0 rfl) ?_
  refine lv_iconst (v := (0 : Int32)) hx hb dX6_bestTurn_1 (by decide) ?_
  refine k_put 0 X hk (wg_30 G _) rfl (hz_wsX60 _) tyX6_ok nmX6 (Nat.le_of_ble_eq_true rfl) (List.mem_cons_of_mem _ (aw_r6 _ (List.mem_of_getElem? (i := 3) rfl))) rfl rfl (Nat.le_of_ble_eq_true rfl) (ws_30_0 G _ _) dX6_bestTurn_2 (fun H locs hk => ?_)
  refine lv_iload_n hx hb dX6_bestTurn_5 rfl (lv_at hl 1 rfl) ?_
  refine lv_iconst (v := (0 : Int32)) hx hb dX6_bestTurn_6 (by decide) ?_
  refine lv_iconst (v := (2 : Int32)) hx hb dX6_bestTurn_7 (by decide) ?_
  refine k_callSi (rest := []) X hk (c_X6_isIn l G _ _ _ _ _ hw) (va_cwS 3 X.1.2.2.2.2 (gzS (aw_r6 _ (List.mem_of_getElem? (i := 17) rfl)) (aw_r6 _ (List.mem_of_getElem? (i := 18) rfl)) (aw_r1 _ (List.mem_of_getElem? (i := 5) rfl)) (aw_r6 _ (List.mem_of_getElem? (i := 19) rfl))) rfl rfl rfl hds_X6_isIn ⟨(Nat.le_of_ble_eq_true rfl), (Nat.le_of_ble_eq_true rfl)⟩) rfl hl.1 rfl (Nat.le_of_ble_eq_true rfl) dX6_bestTurn_8 ⟨Nat.zero_le _, Nat.zero_le _⟩ (fun r2 σ1 H locs hw hk => ?_)
  refine lv_if_ne (tgt := 17) hx hb dX6_bestTurn_11 (by decide) (fun c3 => ?_) (fun c3 => ?_)
  · replace hw := hw.2 c3
    refine lv_aload_n hx hb dX6_bestTurn_17 rfl (lv_at hl 0 rfl) ?_
    refine k_callVi (rest := []) X hk (c_X6_quickestNow l G _  _ hw) (cwV 0 X.1.2.2.2.2 (gzV (aw_r31 _ (List.mem_of_getElem? (i := 5) rfl)) (aw_r31 _ (List.mem_of_getElem? (i := 6) rfl)) (aw_r31 _ (List.mem_of_getElem? (i := 7) rfl)) (aw_r1 _ (List.mem_of_getElem? (i := 5) rfl)) (aw_r31 _ (List.mem_of_getElem? (i := 8) rfl))) rfl rfl rfl hd_X6_quickestNow ⟨(Nat.le_of_ble_eq_true rfl), (Nat.le_of_ble_eq_true rfl)⟩) (wg_30 G _) rfl rfl hl.1 rfl (Nat.le_of_ble_eq_true rfl) dX6_bestTurn_18 ⟨Nat.zero_le _, Nat.zero_le _⟩ (fun r5 σ4 H locs hw hk => ?_)
    refine lv_istore_n (lv' := [(2, .int r5), (0, .ref (G.1 30)), (1, .int p1)]) hx hb dX6_bestTurn_21 rfl hl (Nat.le_of_ble_eq_true rfl) rfl (fun ls hl => ?_)
    refine lv_iload_n hx hb dX6_bestTurn_22 rfl (lv_at hl 0 rfl) ?_
    refine lv_iconst (v := (-1 : Int32)) hx hb dX6_bestTurn_23 (by decide) ?_
    refine lv_icmp_ne (tgt := 32) hx hb dX6_bestTurn_24 (by decide) (fun c6 => ?_) (fun c6 => ?_)
    · replace hw := hw.2 c6
      refine lv_iload_n hx hb dX6_bestTurn_32 rfl (lv_at hl 0 rfl) ?_
      exact t_X6_bestTurn_33 X Q   _ _ _ _ _ _ hw hk (lv_sub hl [1, 2] rfl)
    · replace hw := hw.1 c6
      refine lv_bipush (v := (41 : Int32)) hx hb dX6_bestTurn_27 (by decide) ?_
      refine lv_goto (tgt := 33) hx hb dX6_bestTurn_29 (by decide) ?_
      exact t_X6_bestTurn_33 X Q   _ _ _ _ _ _ hw hk (lv_sub hl [1, 2] rfl)
  · replace hw := hw.1 c3
    refine lv_bipush (v := (-2 : Int32)) hx hb dX6_bestTurn_14 (by decide) ?_
    exact k_iret X hk hw dX6_bestTurn_16
def rm_X6_bits : Room := { frames := 0, cells := 0, slots := 0, locals := 0 }
abbrev wz_X6_bits : List Cond := Cond.code yX6_bits cX6_bits 3 (some .int) :: wsA
theorem hds_X6_bits : yX6_bits.cls ≠ "java/lang/invoke/MethodHandle" ∧ yX6_bits.cls ≠ "java/lang/invoke/VarHandle" ∧ (parseMethodDescriptor yX6_bits.desc).map (fun d => d.parameters.length) = some 1 := by decide +kernel
def wp_X6_bits_4 (Q : Int32 → Sg → Prop)  : Nat → Int32 → Int32 → Sg → Prop
  | 0, _, _, _ => False
  | n + 1, x1, x2, σ => (x2 ≤ 0 → (Q x1 σ)) ∧ (¬ (x2 ≤ 0) → (∀ x1_2 : Int32, x1_2 = (x1 + (x2 - x2 / (2 : Int32) * (2 : Int32))) → (∀ x2_3 : Int32, x2_3 = (x2 / (2 : Int32)) → (wp_X6_bits_4 Q  n x1_2 x2_3 σ))))
set_option maxHeartbeats 4000000 in
set_option maxRecDepth 100000 in
theorem t_X6_bits_4 {p : Program} {l : Launch} {e : Env} {s : State} {m : MethodId} {args : Array Value} {below : List Frame} {meth : Method} {c : Code} {G : Gw} (X : KC p m meth c cX6_bits 3 s args wz_X6_bits RX6 (some .int) G) (Q : Int32 → Sg → Prop)  : ∀ (n : Nat) (σ : Sg) (x1 x2 : Int32) (H : Heap) (locs : List Loc) (ls : Array Slot), wp_X6_bits_4 Q  n x1 x2 σ → WK G s H locs σ → lv_has ls 3 [(1, .int x1), (2, .int x2)] → W p l e rm_X6_bits s m args below meth c H locs 0 0 (ZI below args s G Q) (F0 m 4 ls []) := by
  have hx := X.1.1
  have hb := X.1.2.1
  intro n
  induction n with
  | zero =>
    intro σ x1 x2 H locs ls hw hk hl
    exact False.elim hw
  | succ n ih =>
    intro σ x1 x2 H locs ls hw hk hl
    rw [wp_X6_bits_4] at hw
    refine lv_iload_n hx hb dX6_bits_4 rfl (lv_at hl 1 rfl) ?_
    refine lv_if_le (tgt := 21) hx hb dX6_bits_5 (by decide) (fun c1 => ?_) (fun c1 => ?_)
    · replace hw := hw.1 c1
      refine lv_iload_n hx hb dX6_bits_21 rfl (lv_at hl 0 rfl) ?_
      exact k_iret X hk hw dX6_bits_22
    · replace hw := hw.2 c1
      refine lv_iload_n hx hb dX6_bits_8 rfl (lv_at hl 0 rfl) ?_
      refine lv_iload_n hx hb dX6_bits_9 rfl (lv_at hl 1 rfl) ?_
      refine lv_iconst (v := (2 : Int32)) hx hb dX6_bits_10 (by decide) ?_
      refine lv_irem hx hb dX6_bits_11 (by decide) ?_
      refine lv_iadd hx hb dX6_bits_12 ?_
      refine lv_topi (fun x1_2 ex1_2 => ?_)
      replace hw := hw x1_2 ex1_2
      refine lv_istore_n (lv' := [(1, .int x1_2), (2, .int x2)]) hx hb dX6_bits_13 rfl hl (Nat.le_of_ble_eq_true rfl) rfl (fun ls hl => ?_)
      refine lv_iload_n hx hb dX6_bits_14 rfl (lv_at hl 1 rfl) ?_
      refine lv_iconst (v := (2 : Int32)) hx hb dX6_bits_15 (by decide) ?_
      refine lv_idiv hx hb dX6_bits_16 (by decide) ?_
      refine lv_topi (fun x2_3 ex2_3 => ?_)
      replace hw := hw x2_3 ex2_3
      refine lv_istore_n (lv' := [(2, .int x2_3), (1, .int x1_2)]) hx hb dX6_bits_17 rfl hl (Nat.le_of_ble_eq_true rfl) rfl (fun ls hl => ?_)
      refine lv_goto (tgt := 4) hx hb dX6_bits_18 (by decide) ?_
      exact ih _ _ _ _ _ _ hw hk (lv_sub hl [1, 0] rfl)
def wp_X6_bits (σ : Sg) (p0 : Int32) (Q : Int32 → Sg → Prop) : Prop := ∃ n0, wp_X6_bits_4 Q  n0 (0 : Int32) p0 σ
set_option maxHeartbeats 4000000 in
set_option maxRecDepth 100000 in
theorem c_X6_bits (l : Launch) (G : Gw) (σ : Sg) (p0 : Int32) (Q : Int32 → Sg → Prop) (hw : wp_X6_bits σ p0 Q) : MetI l yX6_bits wz_X6_bits rm_X6_bits G σ [.int p0] Q := by
  refine MetI.of cX6_bits 3 (some .int) (by decide) rfl (Nat.le_of_ble_eq_true rfl) ?_
  intro p e s m below meth c X hk ls hl
  have X : KC p m meth c cX6_bits 3 s _ wz_X6_bits RX6 (some .int) G := X
  have hl : lv_has ls 3 [(0, .int p0)] := hl
  unfold wp_X6_bits at hw
  have hx := X.1.1
  have hb := X.1.2.1
  refine lv_iconst (v := (0 : Int32)) hx hb dX6_bits_0 (by decide) ?_
  refine lv_istore_n (lv' := [(1, .int (0 : Int32)), (0, .int p0)]) hx hb dX6_bits_1 rfl hl (Nat.le_of_ble_eq_true rfl) rfl (fun ls hl => ?_)
  refine lv_iload_n hx hb dX6_bits_2 rfl (lv_at hl 1 rfl) ?_
  refine lv_istore_n (lv' := [(2, .int p0), (1, .int (0 : Int32)), (0, .int p0)]) hx hb dX6_bits_3 rfl hl (Nat.le_of_ble_eq_true rfl) rfl (fun ls hl => ?_)
  obtain ⟨n0, hw⟩ := hw
  exact t_X6_bits_4 X Q   n0 _ _ _ _ _ _ hw hk (lv_sub hl [1, 0] rfl)
