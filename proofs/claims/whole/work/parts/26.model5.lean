def rm_X6_goes : Room := { frames := 3, cells := 0, slots := 0, locals := 71 }
abbrev wz_X6_goes : List Cond := Cond.code yX6_goes cX6_goes 5 none :: wsA
theorem hd_X6_goes : yX6_goes.cls = RX6 ∧ yX6_goes.cls ≠ "java/lang/invoke/MethodHandle" ∧ yX6_goes.cls ≠ "java/lang/invoke/VarHandle" ∧ (parseMethodDescriptor yX6_goes.desc).map (fun d => d.parameters.length) = some 1 := by decide +kernel
def wp_X6_goes_255 (Q : Sg → Prop) (K96 : Int32 → Int32 → Sg → Prop) (x1 x2 : Int32) (σ : Sg) : Prop := ∀ x2_13 : Int32, x2_13 = (x2 + (1 : Int32)) → (K96 x1 x2_13 σ)
set_option maxHeartbeats 4000000 in
set_option maxRecDepth 100000 in
theorem t_X6_goes_255 {p : Program} {l : Launch} {e : Env} {s : State} {m : MethodId} {args : Array Value} {below : List Frame} {meth : Method} {c : Code} {G : Gw} (X : KC p m meth c cX6_goes 5 s args wz_X6_goes RX6 none G) (Q : Sg → Prop) (K96 : Int32 → Int32 → Sg → Prop) (hK96 : ∀ (σ : Sg) (x1 x2 : Int32) (H : Heap) (locs : List Loc) (ls : Array Slot), K96 x1 x2 σ → WK G s H locs σ → lv_has ls 5 [(0, .ref (G.1 30)), (1, .int x1), (2, .int x2)] → W p l e rm_X6_goes s m args below meth c H locs 0 0 (ZV below args s G Q) (F0 m 96 ls [])) : ∀ (σ : Sg) (x1 x2 : Int32) (H : Heap) (locs : List Loc) (ls : Array Slot), wp_X6_goes_255 Q K96 x1 x2 σ → WK G s H locs σ → lv_has ls 5 [(0, .ref (G.1 30)), (1, .int x1), (2, .int x2)] → W p l e rm_X6_goes s m args below meth c H locs 0 0 (ZV below args s G Q) (F0 m 255 ls []) := by
  have hx := X.1.1
  have hb := X.1.2.1
  intro σ x1 x2 H locs ls hw hk hl
  unfold wp_X6_goes_255 at hw
  obtain ⟨x2_13, ex2_13⟩ : ∃ y : Int32, y = (x2 + (1 : Int32)) := ⟨_, rfl⟩
  replace hw := hw x2_13 ex2_13
  refine lv_iinc (v := x2_13) (lv' := [(2, .int x2_13), (0, .ref (G.1 30)), (1, .int x1)]) hx hb dX6_goes_255 hl (k := 2) rfl (by rw [ex2_13]; rfl) (Nat.le_of_ble_eq_true rfl) rfl (fun ls hl => ?_)
  refine lv_goto (tgt := 96) hx hb dX6_goes_258 (by decide) ?_
  exact hK96 _ _ _ _ _ _ hw hk (lv_sub hl [1, 2, 0] rfl)
def wp_X6_goes_243 (Q : Sg → Prop) (K96 : Int32 → Int32 → Sg → Prop) (x1 x2 : Int32) (σ : Sg) : Prop := ((σ 30 23) = 0 → (wp_X6_minuteEnds σ x2 (fun σ14 => wp_X6_goes_255 Q K96 x1 x2 σ14))) ∧ (¬ ((σ 30 23) = 0) → (wp_X6_goes_255 Q K96 x1 x2 σ))
set_option maxHeartbeats 4000000 in
set_option maxRecDepth 100000 in
theorem t_X6_goes_243 {p : Program} {l : Launch} {e : Env} {s : State} {m : MethodId} {args : Array Value} {below : List Frame} {meth : Method} {c : Code} {G : Gw} (X : KC p m meth c cX6_goes 5 s args wz_X6_goes RX6 none G) (Q : Sg → Prop) (K96 : Int32 → Int32 → Sg → Prop) (hK96 : ∀ (σ : Sg) (x1 x2 : Int32) (H : Heap) (locs : List Loc) (ls : Array Slot), K96 x1 x2 σ → WK G s H locs σ → lv_has ls 5 [(0, .ref (G.1 30)), (1, .int x1), (2, .int x2)] → W p l e rm_X6_goes s m args below meth c H locs 0 0 (ZV below args s G Q) (F0 m 96 ls [])) : ∀ (σ : Sg) (x1 x2 : Int32) (H : Heap) (locs : List Loc) (ls : Array Slot), wp_X6_goes_243 Q K96 x1 x2 σ → WK G s H locs σ → lv_has ls 5 [(0, .ref (G.1 30)), (1, .int x1), (2, .int x2)] → W p l e rm_X6_goes s m args below meth c H locs 0 0 (ZV below args s G Q) (F0 m 243 ls []) := by
  have hx := X.1.1
  have hb := X.1.2.1
  intro σ x1 x2 H locs ls hw hk hl
  unfold wp_X6_goes_243 at hw
  refine lv_aload_n hx hb dX6_goes_243 rfl (lv_at hl 0 rfl) ?_
  refine k_get 23 X hk (wg_30 G _) rfl (hz_wsX60 _) (Nat.le_of_ble_eq_true rfl) (List.mem_cons_of_mem _ (aw_r43 _ (List.mem_of_getElem? (i := 14) rfl))) rfl dX6_goes_244 ?_
  refine lv_if_ne (tgt := 255) hx hb dX6_goes_247 (by decide) (fun c12 => ?_) (fun c12 => ?_)
  · replace hw := hw.2 c12
    exact t_X6_goes_255 X Q _ hK96 _ _ _ _ _ _ hw hk hl
  · replace hw := hw.1 c12
    refine lv_aload_n hx hb dX6_goes_250 rfl (lv_at hl 0 rfl) ?_
    refine lv_iload_n hx hb dX6_goes_251 rfl (lv_at hl 2 rfl) ?_
    refine k_callVv (rest := []) X hk (c_X6_minuteEnds l G _ _ _ hw) (cwV 1 X.1.2.2.2.2 (gzV (aw_r44 _ (List.mem_of_getElem? (i := 10) rfl)) (aw_r44 _ (List.mem_of_getElem? (i := 11) rfl)) (aw_r44 _ (List.mem_of_getElem? (i := 12) rfl)) (aw_r1 _ (List.mem_of_getElem? (i := 5) rfl)) (aw_r44 _ (List.mem_of_getElem? (i := 13) rfl))) rfl rfl rfl hd_X6_minuteEnds ⟨(Nat.le_of_ble_eq_true rfl), (Nat.le_of_ble_eq_true rfl)⟩) (wg_30 G _) rfl rfl hl.1 rfl (Nat.le_of_ble_eq_true rfl) dX6_goes_252 ⟨Nat.zero_le _, Nat.zero_le _⟩ (fun σ14 H locs hw hk => ?_)
    exact t_X6_goes_255 X Q _ hK96 _ _ _ _ _ _ hw hk hl
def wp_X6_goes_237 (Q : Sg → Prop) (K96 : Int32 → Int32 → Sg → Prop) (K185 : Int32 → Int32 → Int32 → Sg → Prop) (x1 x2 x3 : Int32) (σ : Sg) : Prop := ∀ x3_23 : Int32, x3_23 = (x3 + (1 : Int32)) → (K185 x1 x2 x3_23 σ)
set_option maxHeartbeats 4000000 in
set_option maxRecDepth 100000 in
theorem t_X6_goes_237 {p : Program} {l : Launch} {e : Env} {s : State} {m : MethodId} {args : Array Value} {below : List Frame} {meth : Method} {c : Code} {G : Gw} (X : KC p m meth c cX6_goes 5 s args wz_X6_goes RX6 none G) (Q : Sg → Prop) (K96 : Int32 → Int32 → Sg → Prop) (K185 : Int32 → Int32 → Int32 → Sg → Prop) (hK96 : ∀ (σ : Sg) (x1 x2 : Int32) (H : Heap) (locs : List Loc) (ls : Array Slot), K96 x1 x2 σ → WK G s H locs σ → lv_has ls 5 [(0, .ref (G.1 30)), (1, .int x1), (2, .int x2)] → W p l e rm_X6_goes s m args below meth c H locs 0 0 (ZV below args s G Q) (F0 m 96 ls [])) (hK185 : ∀ (σ : Sg) (x1 x2 x3 : Int32) (H : Heap) (locs : List Loc) (ls : Array Slot), K185 x1 x2 x3 σ → WK G s H locs σ → lv_has ls 5 [(0, .ref (G.1 30)), (1, .int x1), (2, .int x2), (3, .int x3)] → W p l e rm_X6_goes s m args below meth c H locs 0 0 (ZV below args s G Q) (F0 m 185 ls [])) : ∀ (σ : Sg) (x1 x2 x3 : Int32) (H : Heap) (locs : List Loc) (ls : Array Slot), wp_X6_goes_237 Q K96 K185 x1 x2 x3 σ → WK G s H locs σ → lv_has ls 5 [(0, .ref (G.1 30)), (1, .int x1), (2, .int x2), (3, .int x3)] → W p l e rm_X6_goes s m args below meth c H locs 0 0 (ZV below args s G Q) (F0 m 237 ls []) := by
  have hx := X.1.1
  have hb := X.1.2.1
  intro σ x1 x2 x3 H locs ls hw hk hl
  unfold wp_X6_goes_237 at hw
  obtain ⟨x3_23, ex3_23⟩ : ∃ y : Int32, y = (x3 + (1 : Int32)) := ⟨_, rfl⟩
  replace hw := hw x3_23 ex3_23
  refine lv_iinc (v := x3_23) (lv' := [(3, .int x3_23), (0, .ref (G.1 30)), (1, .int x1), (2, .int x2)]) hx hb dX6_goes_237 hl (k := 3) rfl (by rw [ex3_23]; rfl) (Nat.le_of_ble_eq_true rfl) rfl (fun ls hl => ?_)
  refine lv_goto (tgt := 185) hx hb dX6_goes_240 (by decide) ?_
  exact hK185 _ _ _ _ _ _ _ hw hk (lv_sub hl [1, 2, 3, 0] rfl)
def wp_X6_goes_185 (Q : Sg → Prop) (K96 : Int32 → Int32 → Sg → Prop) : Nat → Int32 → Int32 → Int32 → Sg → Prop
  | 0, _, _, _, _ => False
  | n + 1, x1, x2, x3, σ => wp_X6_moves σ  (fun r10 σ9 => (r10 ≤ x3 → (wp_X6_goes_243 Q K96 x1 x2 σ9)) ∧ (¬ (r10 ≤ x3) → (((σ9 30 23) = 0 → (wp_X6_ofMove σ9 x3 (0 : Int32) (fun r18 σ17 => (r18 = x2 → (wp_X6_moves_ σ17 x3 x2 (fun r21 σ20 => (r21 = 0 → (wp_X6_goes_237 Q K96 (fun z1 z2 z3 σ => wp_X6_goes_185 Q K96 n z1 z2 z3 σ) x1 x2 x3 σ20)) ∧ (¬ (r21 = 0) → (wp_X6_goes_237 Q K96 (fun z1 z2 z3 σ => wp_X6_goes_185 Q K96 n z1 z2 z3 σ) x1 x2 x3 (put σ20 30 23 (r21 + ((8 : Int32) * x3)))))))) ∧ (¬ (r18 = x2) → (wp_X6_goes_237 Q K96 (fun z1 z2 z3 σ => wp_X6_goes_185 Q K96 n z1 z2 z3 σ) x1 x2 x3 σ17))))) ∧ (¬ ((σ9 30 23) = 0) → (wp_X6_goes_243 Q K96 x1 x2 σ9)))))
set_option maxHeartbeats 4000000 in
set_option maxRecDepth 100000 in
theorem t_X6_goes_185 {p : Program} {l : Launch} {e : Env} {s : State} {m : MethodId} {args : Array Value} {below : List Frame} {meth : Method} {c : Code} {G : Gw} (X : KC p m meth c cX6_goes 5 s args wz_X6_goes RX6 none G) (Q : Sg → Prop) (K96 : Int32 → Int32 → Sg → Prop) (hK96 : ∀ (σ : Sg) (x1 x2 : Int32) (H : Heap) (locs : List Loc) (ls : Array Slot), K96 x1 x2 σ → WK G s H locs σ → lv_has ls 5 [(0, .ref (G.1 30)), (1, .int x1), (2, .int x2)] → W p l e rm_X6_goes s m args below meth c H locs 0 0 (ZV below args s G Q) (F0 m 96 ls [])) : ∀ (n : Nat) (σ : Sg) (x1 x2 x3 : Int32) (H : Heap) (locs : List Loc) (ls : Array Slot), wp_X6_goes_185 Q K96 n x1 x2 x3 σ → WK G s H locs σ → lv_has ls 5 [(0, .ref (G.1 30)), (1, .int x1), (2, .int x2), (3, .int x3)] → W p l e rm_X6_goes s m args below meth c H locs 0 0 (ZV below args s G Q) (F0 m 185 ls []) := by
  have hx := X.1.1
  have hb := X.1.2.1
  intro n
  induction n with
  | zero =>
    intro σ x1 x2 x3 H locs ls hw hk hl
    exact False.elim hw
  | succ n ih =>
    intro σ x1 x2 x3 H locs ls hw hk hl
    rw [wp_X6_goes_185] at hw
    refine lv_iload_n hx hb dX6_goes_185 rfl (lv_at hl 3 rfl) ?_
    refine lv_aload_n hx hb dX6_goes_186 rfl (lv_at hl 0 rfl) ?_
    refine k_callVi (rest := [.int x3]) X hk (c_X6_moves l G _  _ hw) (cwV 0 X.1.2.2.2.2 (gzV (aw_r18 _ (List.mem_of_getElem? (i := 2) rfl)) (aw_r18 _ (List.mem_of_getElem? (i := 3) rfl)) (aw_r18 _ (List.mem_of_getElem? (i := 4) rfl)) (aw_r1 _ (List.mem_of_getElem? (i := 5) rfl)) (aw_r18 _ (List.mem_of_getElem? (i := 5) rfl))) rfl rfl rfl hd_X6_moves ⟨(Nat.le_of_ble_eq_true rfl), (Nat.le_of_ble_eq_true rfl)⟩) (wg_30 G _) rfl rfl hl.1 rfl (Nat.le_of_ble_eq_true rfl) dX6_goes_187 ⟨Nat.zero_le _, Nat.zero_le _⟩ (fun r10 σ9 H locs hw hk => ?_)
    refine lv_icmp_ge (tgt := 243) hx hb dX6_goes_190 (by decide) (fun c11 => ?_) (fun c11 => ?_)
    · replace hw := hw.1 c11
      exact t_X6_goes_243 X Q _ hK96 _ _ _ _ _ _ hw hk (lv_sub hl [0, 1, 2] rfl)
    · replace hw := hw.2 c11
      refine lv_aload_n hx hb dX6_goes_193 rfl (lv_at hl 0 rfl) ?_
      refine k_get 23 X hk (wg_30 G _) rfl (hz_wsX60 _) (Nat.le_of_ble_eq_true rfl) (List.mem_cons_of_mem _ (aw_r43 _ (List.mem_of_getElem? (i := 14) rfl))) rfl dX6_goes_194 ?_
      refine lv_if_ne (tgt := 243) hx hb dX6_goes_197 (by decide) (fun c16 => ?_) (fun c16 => ?_)
      · replace hw := hw.2 c16
        exact t_X6_goes_243 X Q _ hK96 _ _ _ _ _ _ hw hk (lv_sub hl [0, 1, 2] rfl)
      · replace hw := hw.1 c16
        refine lv_aload_n hx hb dX6_goes_200 rfl (lv_at hl 0 rfl) ?_
        refine lv_iload_n hx hb dX6_goes_201 rfl (lv_at hl 3 rfl) ?_
        refine lv_iconst (v := (0 : Int32)) hx hb dX6_goes_202 (by decide) ?_
        refine k_callVi (rest := []) X hk (c_X6_ofMove l G _ _ _ _ hw) (cwV 2 X.1.2.2.2.2 (gzV (aw_r22 _ (List.mem_of_getElem? (i := 1) rfl)) (aw_r22 _ (List.mem_of_getElem? (i := 2) rfl)) (aw_r22 _ (List.mem_of_getElem? (i := 3) rfl)) (aw_r1 _ (List.mem_of_getElem? (i := 5) rfl)) (aw_r22 _ (List.mem_of_getElem? (i := 4) rfl))) rfl rfl rfl hd_X6_ofMove ⟨(Nat.le_of_ble_eq_true rfl), (Nat.le_of_ble_eq_true rfl)⟩) (wg_30 G _) rfl rfl hl.1 rfl (Nat.le_of_ble_eq_true rfl) dX6_goes_203 ⟨Nat.zero_le _, Nat.zero_le _⟩ (fun r18 σ17 H locs hw hk => ?_)
        refine lv_iload_n hx hb dX6_goes_206 rfl (lv_at hl 2 rfl) ?_
        refine lv_icmp_eq (tgt := 213) hx hb dX6_goes_207 (by decide) (fun c19 => ?_) (fun c19 => ?_)
        · replace hw := hw.1 c19
          refine lv_aload_n hx hb dX6_goes_213 rfl (lv_at hl 0 rfl) ?_
          refine lv_iload_n hx hb dX6_goes_214 rfl (lv_at hl 3 rfl) ?_
          refine lv_iload_n hx hb dX6_goes_215 rfl (lv_at hl 2 rfl) ?_
          refine k_callVi (rest := []) X hk (c_X6_moves_ l G _ _ _ _ hw) (cwV 2 X.1.2.2.2.2 (gzV (aw_r44 _ (List.mem_of_getElem? (i := 6) rfl)) (aw_r44 _ (List.mem_of_getElem? (i := 7) rfl)) (aw_r44 _ (List.mem_of_getElem? (i := 8) rfl)) (aw_r1 _ (List.mem_of_getElem? (i := 5) rfl)) (aw_r44 _ (List.mem_of_getElem? (i := 9) rfl))) rfl rfl rfl hd_X6_moves_ ⟨(Nat.le_of_ble_eq_true rfl), (Nat.le_of_ble_eq_true rfl)⟩) (wg_30 G _) rfl rfl hl.1 rfl (Nat.le_of_ble_eq_true rfl) dX6_goes_216 ⟨Nat.zero_le _, Nat.zero_le _⟩ (fun r21 σ20 H locs hw hk => ?_)
          refine lv_istore (lv' := [(4, .int r21), (0, .ref (G.1 30)), (1, .int x1), (2, .int x2), (3, .int x3)]) hx hb dX6_goes_219 hl (Nat.le_of_ble_eq_true rfl) rfl (fun ls hl => ?_)
          refine lv_iload hx hb dX6_goes_221 (lv_at hl 0 rfl) ?_
          refine lv_if_eq (tgt := 237) hx hb dX6_goes_223 (by decide) (fun c22 => ?_) (fun c22 => ?_)
          · replace hw := hw.1 c22
            exact t_X6_goes_237 X Q _ _ hK96 ih _ _ _ _ _ _ _ hw hk (lv_sub hl [1, 2, 3, 4] rfl)
          · replace hw := hw.2 c22
            refine lv_aload_n hx hb dX6_goes_226 rfl (lv_at hl 1 rfl) ?_
            refine lv_iload hx hb dX6_goes_227 (lv_at hl 0 rfl) ?_
            refine lv_bipush (v := (8 : Int32)) hx hb dX6_goes_229 (by decide) ?_
            refine lv_iload_n hx hb dX6_goes_231 rfl (lv_at hl 4 rfl) ?_
            refine lv_imul hx hb dX6_goes_232 ?_
            refine lv_iadd hx hb dX6_goes_233 ?_
            refine k_put 23 X hk (wg_30 G _) rfl (hz_wsX60 _) tyX6_ok nmX6 (Nat.le_of_ble_eq_true rfl) (List.mem_cons_of_mem _ (aw_r43 _ (List.mem_of_getElem? (i := 14) rfl))) rfl rfl (Nat.le_of_ble_eq_true rfl) (ws_30_23 G _ _) dX6_goes_234 (fun H locs hk => ?_)
            exact t_X6_goes_237 X Q _ _ hK96 ih _ _ _ _ _ _ _ hw hk (lv_sub hl [1, 2, 3, 4] rfl)
        · replace hw := hw.2 c19
          refine lv_goto (tgt := 237) hx hb dX6_goes_210 (by decide) ?_
          exact t_X6_goes_237 X Q _ _ hK96 ih _ _ _ _ _ _ _ hw hk hl
def wp_X6_goes_164 (Q : Sg → Prop) (K96 : Int32 → Int32 → Sg → Prop) : Nat → Int32 → Int32 → Int32 → Sg → Prop
  | 0, _, _, _, _ => False
  | n + 1, x1, x2, x3, σ => ((24 : Int32) ≤ x3 → (∃ n0, wp_X6_goes_185 Q K96 n0 x1 x2 (0 : Int32) σ)) ∧ (¬ ((24 : Int32) ≤ x3) → (vp_in x3 24 ∧ (∀ x3_24 : Int32, x3_24 = (x3 + (1 : Int32)) → (wp_X6_goes_164 Q K96 n x1 x2 x3_24 (put σ 46 (x3).toNatClampNeg (0 : Int32))))))
set_option maxHeartbeats 4000000 in
set_option maxRecDepth 100000 in
theorem t_X6_goes_164 {p : Program} {l : Launch} {e : Env} {s : State} {m : MethodId} {args : Array Value} {below : List Frame} {meth : Method} {c : Code} {G : Gw} (X : KC p m meth c cX6_goes 5 s args wz_X6_goes RX6 none G) (Q : Sg → Prop) (K96 : Int32 → Int32 → Sg → Prop) (hK96 : ∀ (σ : Sg) (x1 x2 : Int32) (H : Heap) (locs : List Loc) (ls : Array Slot), K96 x1 x2 σ → WK G s H locs σ → lv_has ls 5 [(0, .ref (G.1 30)), (1, .int x1), (2, .int x2)] → W p l e rm_X6_goes s m args below meth c H locs 0 0 (ZV below args s G Q) (F0 m 96 ls [])) : ∀ (n : Nat) (σ : Sg) (x1 x2 x3 : Int32) (H : Heap) (locs : List Loc) (ls : Array Slot), wp_X6_goes_164 Q K96 n x1 x2 x3 σ → WK G s H locs σ → lv_has ls 5 [(0, .ref (G.1 30)), (1, .int x1), (2, .int x2), (3, .int x3)] → W p l e rm_X6_goes s m args below meth c H locs 0 0 (ZV below args s G Q) (F0 m 164 ls []) := by
  have hx := X.1.1
  have hb := X.1.2.1
  intro n
  induction n with
  | zero =>
    intro σ x1 x2 x3 H locs ls hw hk hl
    exact False.elim hw
  | succ n ih =>
    intro σ x1 x2 x3 H locs ls hw hk hl
    rw [wp_X6_goes_164] at hw
    refine lv_iload_n hx hb dX6_goes_164 rfl (lv_at hl 3 rfl) ?_
    refine lv_bipush (v := (24 : Int32)) hx hb dX6_goes_165 (by decide) ?_
    refine lv_icmp_ge (tgt := 183) hx hb dX6_goes_167 (by decide) (fun c8 => ?_) (fun c8 => ?_)
    · replace hw := hw.1 c8
      refine lv_iconst (v := (0 : Int32)) hx hb dX6_goes_183 (by decide) ?_
      refine lv_istore_n (lv' := [(3, .int (0 : Int32)), (0, .ref (G.1 30)), (1, .int x1), (2, .int x2)]) hx hb dX6_goes_184 rfl hl (Nat.le_of_ble_eq_true rfl) rfl (fun ls hl => ?_)
      obtain ⟨n0, hw⟩ := hw
      exact t_X6_goes_185 X Q _ hK96 n0 _ _ _ _ _ _ _ hw hk (lv_sub hl [1, 2, 3, 0] rfl)
    · replace hw := hw.2 c8
      refine lv_aload_n hx hb dX6_goes_170 rfl (lv_at hl 0 rfl) ?_
      refine k_get 22 X hk (wg_30 G _) rfl (hz_wsX60 _) (Nat.le_of_ble_eq_true rfl) (List.mem_cons_of_mem _ (aw_r5 _ (List.mem_of_getElem? (i := 8) rfl))) rfl dX6_goes_171 ?_
      refine lv_iload_n hx hb dX6_goes_174 rfl (lv_at hl 3 rfl) ?_
      refine lv_iconst (v := (0 : Int32)) hx hb dX6_goes_175 (by decide) ?_
      refine k_iast X hk (wg_46 G _) (ws_46 G _) rfl hw.1 dX6_goes_176 (fun H locs hk => ?_)
      replace hw := hw.2
      obtain ⟨x3_24, ex3_24⟩ : ∃ y : Int32, y = (x3 + (1 : Int32)) := ⟨_, rfl⟩
      replace hw := hw x3_24 ex3_24
      refine lv_iinc (v := x3_24) (lv' := [(3, .int x3_24), (0, .ref (G.1 30)), (1, .int x1), (2, .int x2)]) hx hb dX6_goes_177 hl (k := 3) rfl (by rw [ex3_24]; rfl) (Nat.le_of_ble_eq_true rfl) rfl (fun ls hl => ?_)
      refine lv_goto (tgt := 164) hx hb dX6_goes_180 (by decide) ?_
      exact ih _ _ _ _ _ _ _ hw hk (lv_sub hl [1, 2, 3, 0] rfl)
def wp_X6_goes_110 (Q : Sg → Prop) (K96 : Int32 → Int32 → Sg → Prop) : Nat → Int32 → Int32 → Int32 → Sg → Prop
  | 0, _, _, _, _ => False
  | n + 1, x1, x2, x3, σ => wp_X6_places σ  (fun r6 σ5 => (r6 ≤ x3 → (∃ n0, wp_X6_goes_164 Q K96 n0 x1 x2 (0 : Int32) σ5)) ∧ (¬ (r6 ≤ x3) → (vp_in x3 8 ∧ (vp_in (((8 : Int32) * x2) + x3) 480 ∧ (vp_in x3 8 ∧ (vp_in (((8 : Int32) * x2) + x3) 480 ∧ (wp_X6_shelters (put (put σ5 43 (x3).toNatClampNeg ((σ5 43 (x3).toNatClampNeg) + (σ5 41 ((((8 : Int32) * x2) + x3)).toNatClampNeg))) 41 ((((8 : Int32) * x2) + x3)).toNatClampNeg (0 : Int32)) x3 x2 (fun σ25 => ∀ x3_27 : Int32, x3_27 = (x3 + (1 : Int32)) → (wp_X6_goes_110 Q K96 n x1 x2 x3_27 σ25)))))))))
set_option maxHeartbeats 4000000 in
set_option maxRecDepth 100000 in
theorem t_X6_goes_110 {p : Program} {l : Launch} {e : Env} {s : State} {m : MethodId} {args : Array Value} {below : List Frame} {meth : Method} {c : Code} {G : Gw} (X : KC p m meth c cX6_goes 5 s args wz_X6_goes RX6 none G) (Q : Sg → Prop) (K96 : Int32 → Int32 → Sg → Prop) (hK96 : ∀ (σ : Sg) (x1 x2 : Int32) (H : Heap) (locs : List Loc) (ls : Array Slot), K96 x1 x2 σ → WK G s H locs σ → lv_has ls 5 [(0, .ref (G.1 30)), (1, .int x1), (2, .int x2)] → W p l e rm_X6_goes s m args below meth c H locs 0 0 (ZV below args s G Q) (F0 m 96 ls [])) : ∀ (n : Nat) (σ : Sg) (x1 x2 x3 : Int32) (H : Heap) (locs : List Loc) (ls : Array Slot), wp_X6_goes_110 Q K96 n x1 x2 x3 σ → WK G s H locs σ → lv_has ls 5 [(0, .ref (G.1 30)), (1, .int x1), (2, .int x2), (3, .int x3)] → W p l e rm_X6_goes s m args below meth c H locs 0 0 (ZV below args s G Q) (F0 m 110 ls []) := by
  have hx := X.1.1
  have hb := X.1.2.1
  intro n
  induction n with
  | zero =>
    intro σ x1 x2 x3 H locs ls hw hk hl
    exact False.elim hw
  | succ n ih =>
    intro σ x1 x2 x3 H locs ls hw hk hl
    rw [wp_X6_goes_110] at hw
    refine lv_iload_n hx hb dX6_goes_110 rfl (lv_at hl 3 rfl) ?_
    refine lv_aload_n hx hb dX6_goes_111 rfl (lv_at hl 0 rfl) ?_
    refine k_callVi (rest := [.int x3]) X hk (c_X6_places l G _  _ hw) (cwV 0 X.1.2.2.2.2 (gzV (aw_r15 _ (List.mem_of_getElem? (i := 14) rfl)) (aw_r15 _ (List.mem_of_getElem? (i := 15) rfl)) (aw_r15 _ (List.mem_of_getElem? (i := 16) rfl)) (aw_r1 _ (List.mem_of_getElem? (i := 5) rfl)) (aw_r15 _ (List.mem_of_getElem? (i := 17) rfl))) rfl rfl rfl hd_X6_places ⟨(Nat.le_of_ble_eq_true rfl), (Nat.le_of_ble_eq_true rfl)⟩) (wg_30 G _) rfl rfl hl.1 rfl (Nat.le_of_ble_eq_true rfl) dX6_goes_112 ⟨Nat.zero_le _, Nat.zero_le _⟩ (fun r6 σ5 H locs hw hk => ?_)
    refine lv_icmp_ge (tgt := 162) hx hb dX6_goes_115 (by decide) (fun c7 => ?_) (fun c7 => ?_)
    · replace hw := hw.1 c7
      refine lv_iconst (v := (0 : Int32)) hx hb dX6_goes_162 (by decide) ?_
      refine lv_istore_n (lv' := [(3, .int (0 : Int32)), (0, .ref (G.1 30)), (1, .int x1), (2, .int x2)]) hx hb dX6_goes_163 rfl hl (Nat.le_of_ble_eq_true rfl) rfl (fun ls hl => ?_)
      obtain ⟨n0, hw⟩ := hw
      exact t_X6_goes_164 X Q _ hK96 n0 _ _ _ _ _ _ _ hw hk (lv_sub hl [1, 2, 3, 0] rfl)
    · replace hw := hw.2 c7
      refine lv_aload_n hx hb dX6_goes_118 rfl (lv_at hl 0 rfl) ?_
      refine k_get 19 X hk (wg_30 G _) rfl (hz_wsX60 _) (Nat.le_of_ble_eq_true rfl) (List.mem_cons_of_mem _ (aw_r5 _ (List.mem_of_getElem? (i := 5) rfl))) rfl dX6_goes_119 ?_
      refine lv_iload_n hx hb dX6_goes_122 rfl (lv_at hl 3 rfl) ?_
      refine lv_dup2_11 hx hb dX6_goes_123 rfl rfl ?_
      refine k_iald X hk (wg_43 G _) hw.1 dX6_goes_124 ?_
      replace hw := hw.2
      refine lv_aload_n hx hb dX6_goes_125 rfl (lv_at hl 0 rfl) ?_
      refine k_get 17 X hk (wg_30 G _) rfl (hz_wsX60 _) (Nat.le_of_ble_eq_true rfl) (List.mem_cons_of_mem _ (aw_r5 _ (List.mem_of_getElem? (i := 3) rfl))) rfl dX6_goes_126 ?_
      refine lv_bipush (v := (8 : Int32)) hx hb dX6_goes_129 (by decide) ?_
      refine lv_iload_n hx hb dX6_goes_131 rfl (lv_at hl 2 rfl) ?_
      refine lv_imul hx hb dX6_goes_132 ?_
      refine lv_iload_n hx hb dX6_goes_133 rfl (lv_at hl 3 rfl) ?_
      refine lv_iadd hx hb dX6_goes_134 ?_
      refine k_iald X hk (wg_41 G _) hw.1 dX6_goes_135 ?_
      replace hw := hw.2
      refine lv_iadd hx hb dX6_goes_136 ?_
      refine k_iast X hk (wg_43 G _) (ws_43 G _) rfl hw.1 dX6_goes_137 (fun H locs hk => ?_)
      replace hw := hw.2
      refine lv_aload_n hx hb dX6_goes_138 rfl (lv_at hl 0 rfl) ?_
      refine k_get 17 X hk (wg_30 G _) rfl (hz_wsX60 _) (Nat.le_of_ble_eq_true rfl) (List.mem_cons_of_mem _ (aw_r5 _ (List.mem_of_getElem? (i := 3) rfl))) rfl dX6_goes_139 ?_
      refine lv_bipush (v := (8 : Int32)) hx hb dX6_goes_142 (by decide) ?_
      refine lv_iload_n hx hb dX6_goes_144 rfl (lv_at hl 2 rfl) ?_
      refine lv_imul hx hb dX6_goes_145 ?_
      refine lv_iload_n hx hb dX6_goes_146 rfl (lv_at hl 3 rfl) ?_
      refine lv_iadd hx hb dX6_goes_147 ?_
      refine lv_iconst (v := (0 : Int32)) hx hb dX6_goes_148 (by decide) ?_
      refine k_iast X hk (wg_41 G _) (ws_41 G _) rfl hw.1 dX6_goes_149 (fun H locs hk => ?_)
      replace hw := hw.2
      refine lv_aload_n hx hb dX6_goes_150 rfl (lv_at hl 0 rfl) ?_
      refine lv_iload_n hx hb dX6_goes_151 rfl (lv_at hl 3 rfl) ?_
      refine lv_iload_n hx hb dX6_goes_152 rfl (lv_at hl 2 rfl) ?_
      refine k_callVv (rest := []) X hk (c_X6_shelters l G _ _ _ _ hw) (cwV 2 X.1.2.2.2.2 (gzV (aw_r43 _ (List.mem_of_getElem? (i := 22) rfl)) (aw_r43 _ (List.mem_of_getElem? (i := 23) rfl)) (aw_r44 _ (List.mem_of_getElem? (i := 0) rfl)) (aw_r1 _ (List.mem_of_getElem? (i := 5) rfl)) (aw_r44 _ (List.mem_of_getElem? (i := 1) rfl))) rfl rfl rfl hd_X6_shelters ⟨(Nat.le_of_ble_eq_true rfl), (Nat.le_of_ble_eq_true rfl)⟩) (wg_30 G _) rfl rfl hl.1 rfl (Nat.le_of_ble_eq_true rfl) dX6_goes_153 ⟨Nat.zero_le _, Nat.zero_le _⟩ (fun σ25 H locs hw hk => ?_)
      obtain ⟨x3_27, ex3_27⟩ : ∃ y : Int32, y = (x3 + (1 : Int32)) := ⟨_, rfl⟩
      replace hw := hw x3_27 ex3_27
      refine lv_iinc (v := x3_27) (lv' := [(3, .int x3_27), (0, .ref (G.1 30)), (1, .int x1), (2, .int x2)]) hx hb dX6_goes_156 hl (k := 3) rfl (by rw [ex3_27]; rfl) (Nat.le_of_ble_eq_true rfl) rfl (fun ls hl => ?_)
      refine lv_goto (tgt := 110) hx hb dX6_goes_159 (by decide) ?_
      exact ih _ _ _ _ _ _ _ hw hk (lv_sub hl [1, 2, 3, 0] rfl)
def wp_X6_goes_96 (Q : Sg → Prop)  : Nat → Int32 → Int32 → Sg → Prop
  | 0, _, _, _ => False
  | n + 1, x1, x2, σ => (x1 < x2 → (Q σ)) ∧ (¬ (x1 < x2) → (((σ 30 23) = 0 → (∃ n0, wp_X6_goes_110 Q (fun z1 z2 σ => wp_X6_goes_96 Q  n z1 z2 σ) n0 x1 x2 (0 : Int32) σ)) ∧ (¬ ((σ 30 23) = 0) → (Q σ))))
set_option maxHeartbeats 4000000 in
set_option maxRecDepth 100000 in
theorem t_X6_goes_96 {p : Program} {l : Launch} {e : Env} {s : State} {m : MethodId} {args : Array Value} {below : List Frame} {meth : Method} {c : Code} {G : Gw} (X : KC p m meth c cX6_goes 5 s args wz_X6_goes RX6 none G) (Q : Sg → Prop)  : ∀ (n : Nat) (σ : Sg) (x1 x2 : Int32) (H : Heap) (locs : List Loc) (ls : Array Slot), wp_X6_goes_96 Q  n x1 x2 σ → WK G s H locs σ → lv_has ls 5 [(0, .ref (G.1 30)), (1, .int x1), (2, .int x2)] → W p l e rm_X6_goes s m args below meth c H locs 0 0 (ZV below args s G Q) (F0 m 96 ls []) := by
  have hx := X.1.1
  have hb := X.1.2.1
  intro n
  induction n with
  | zero =>
    intro σ x1 x2 H locs ls hw hk hl
    exact False.elim hw
  | succ n ih =>
    intro σ x1 x2 H locs ls hw hk hl
    rw [wp_X6_goes_96] at hw
    refine lv_iload_n hx hb dX6_goes_96 rfl (lv_at hl 2 rfl) ?_
    refine lv_iload_n hx hb dX6_goes_97 rfl (lv_at hl 1 rfl) ?_
    refine lv_icmp_gt (tgt := 261) hx hb dX6_goes_98 (by decide) (fun c3 => ?_) (fun c3 => ?_)
    · replace hw := hw.1 c3
      exact k_vret X hk hw dX6_goes_261
    · replace hw := hw.2 c3
      refine lv_aload_n hx hb dX6_goes_101 rfl (lv_at hl 0 rfl) ?_
      refine k_get 23 X hk (wg_30 G _) rfl (hz_wsX60 _) (Nat.le_of_ble_eq_true rfl) (List.mem_cons_of_mem _ (aw_r43 _ (List.mem_of_getElem? (i := 14) rfl))) rfl dX6_goes_102 ?_
      refine lv_if_ne (tgt := 261) hx hb dX6_goes_105 (by decide) (fun c4 => ?_) (fun c4 => ?_)
      · replace hw := hw.2 c4
        exact k_vret X hk hw dX6_goes_261
      · replace hw := hw.1 c4
        refine lv_iconst (v := (0 : Int32)) hx hb dX6_goes_108 (by decide) ?_
        refine lv_istore_n (lv' := [(3, .int (0 : Int32)), (0, .ref (G.1 30)), (1, .int x1), (2, .int x2)]) hx hb dX6_goes_109 rfl hl (Nat.le_of_ble_eq_true rfl) rfl (fun ls hl => ?_)
        obtain ⟨n0, hw⟩ := hw
        exact t_X6_goes_110 X Q _ ih n0 _ _ _ _ _ _ _ hw hk (lv_sub hl [1, 2, 3, 0] rfl)
def wp_X6_goes_53 (Q : Sg → Prop) (K24 : Int32 → Int32 → Sg → Prop) (x1 x2 y1 y2 : Int32) (σ : Sg) : Prop := vp_in y1 8 ∧ (vp_in x2 8 ∧ (vp_in x2 8 ∧ (∀ x2_31 : Int32, x2_31 = (x2 + (1 : Int32)) → (K24 x1 x2_31 (put (put (put σ 42 (y1).toNatClampNeg y2) 43 (x2).toNatClampNeg (0 : Int32)) 44 (x2).toNatClampNeg (0 : Int32))))))
set_option maxHeartbeats 4000000 in
set_option maxRecDepth 100000 in
theorem t_X6_goes_53 {p : Program} {l : Launch} {e : Env} {s : State} {m : MethodId} {args : Array Value} {below : List Frame} {meth : Method} {c : Code} {G : Gw} (X : KC p m meth c cX6_goes 5 s args wz_X6_goes RX6 none G) (Q : Sg → Prop) (K24 : Int32 → Int32 → Sg → Prop) (hK24 : ∀ (σ : Sg) (x1 x2 : Int32) (H : Heap) (locs : List Loc) (ls : Array Slot), K24 x1 x2 σ → WK G s H locs σ → lv_has ls 5 [(0, .ref (G.1 30)), (1, .int x1), (2, .int x2)] → W p l e rm_X6_goes s m args below meth c H locs 0 0 (ZV below args s G Q) (F0 m 24 ls [])) : ∀ (σ : Sg) (x1 x2 y1 y2 : Int32) (H : Heap) (locs : List Loc) (ls : Array Slot), wp_X6_goes_53 Q K24 x1 x2 y1 y2 σ → WK G s H locs σ → lv_has ls 5 [(0, .ref (G.1 30)), (1, .int x1), (2, .int x2)] → W p l e rm_X6_goes s m args below meth c H locs 0 0 (ZV below args s G Q) (F0 m 53 ls [.int y2, .int y1, .ref (G.1 42)]) := by
  have hx := X.1.1
  have hb := X.1.2.1
  intro σ x1 x2 y1 y2 H locs ls hw hk hl
  unfold wp_X6_goes_53 at hw
  refine k_iast X hk (wg_42 G _) (ws_42 G _) rfl hw.1 dX6_goes_53 (fun H locs hk => ?_)
  replace hw := hw.2
  refine lv_aload_n hx hb dX6_goes_54 rfl (lv_at hl 0 rfl) ?_
  refine k_get 19 X hk (wg_30 G _) rfl (hz_wsX60 _) (Nat.le_of_ble_eq_true rfl) (List.mem_cons_of_mem _ (aw_r5 _ (List.mem_of_getElem? (i := 5) rfl))) rfl dX6_goes_55 ?_
  refine lv_iload_n hx hb dX6_goes_58 rfl (lv_at hl 2 rfl) ?_
  refine lv_iconst (v := (0 : Int32)) hx hb dX6_goes_59 (by decide) ?_
  refine k_iast X hk (wg_43 G _) (ws_43 G _) rfl hw.1 dX6_goes_60 (fun H locs hk => ?_)
  replace hw := hw.2
  refine lv_aload_n hx hb dX6_goes_61 rfl (lv_at hl 0 rfl) ?_
  refine k_get 20 X hk (wg_30 G _) rfl (hz_wsX60 _) (Nat.le_of_ble_eq_true rfl) (List.mem_cons_of_mem _ (aw_r5 _ (List.mem_of_getElem? (i := 6) rfl))) rfl dX6_goes_62 ?_
  refine lv_iload_n hx hb dX6_goes_65 rfl (lv_at hl 2 rfl) ?_
  refine lv_iconst (v := (0 : Int32)) hx hb dX6_goes_66 (by decide) ?_
  refine k_iast X hk (wg_44 G _) (ws_44 G _) rfl hw.1 dX6_goes_67 (fun H locs hk => ?_)
  replace hw := hw.2
  obtain ⟨x2_31, ex2_31⟩ : ∃ y : Int32, y = (x2 + (1 : Int32)) := ⟨_, rfl⟩
  replace hw := hw x2_31 ex2_31
  refine lv_iinc (v := x2_31) (lv' := [(2, .int x2_31), (0, .ref (G.1 30)), (1, .int x1)]) hx hb dX6_goes_68 hl (k := 2) rfl (by rw [ex2_31]; rfl) (Nat.le_of_ble_eq_true rfl) rfl (fun ls hl => ?_)
  refine lv_goto (tgt := 24) hx hb dX6_goes_71 (by decide) ?_
  exact hK24 _ _ _ _ _ _ hw hk (lv_sub hl [1, 2, 0] rfl)
def wp_X6_goes_24 (Q : Sg → Prop)  : Nat → Int32 → Int32 → Sg → Prop
  | 0, _, _, _ => False
  | n + 1, x1, x2, σ => ((8 : Int32) ≤ x2 → (∃ n0, wp_X6_goes_96 Q  n0 x1 (0 : Int32) (put (put (put (put σ 30 23 (0 : Int32)) 30 24 (0 : Int32)) 30 25 (0 : Int32)) 30 26 (-1 : Int32)))) ∧ (¬ ((8 : Int32) ≤ x2) → (wp_X6_places σ  (fun r29 σ28 => (r29 ≤ x2 → (wp_X6_goes_53 Q (fun z1 z2 σ => wp_X6_goes_24 Q  n z1 z2 σ) x1 x2 x2 (0 : Int32) σ28)) ∧ (¬ (r29 ≤ x2) → (wp_X6_ofPlace σ28 x2 (0 : Int32) (fun r33 σ32 => wp_X6_goes_53 Q (fun z1 z2 σ => wp_X6_goes_24 Q  n z1 z2 σ) x1 x2 x2 r33 σ32))))))
set_option maxHeartbeats 4000000 in
set_option maxRecDepth 100000 in
theorem t_X6_goes_24 {p : Program} {l : Launch} {e : Env} {s : State} {m : MethodId} {args : Array Value} {below : List Frame} {meth : Method} {c : Code} {G : Gw} (X : KC p m meth c cX6_goes 5 s args wz_X6_goes RX6 none G) (Q : Sg → Prop)  : ∀ (n : Nat) (σ : Sg) (x1 x2 : Int32) (H : Heap) (locs : List Loc) (ls : Array Slot), wp_X6_goes_24 Q  n x1 x2 σ → WK G s H locs σ → lv_has ls 5 [(0, .ref (G.1 30)), (1, .int x1), (2, .int x2)] → W p l e rm_X6_goes s m args below meth c H locs 0 0 (ZV below args s G Q) (F0 m 24 ls []) := by
  have hx := X.1.1
  have hb := X.1.2.1
  intro n
  induction n with
  | zero =>
    intro σ x1 x2 H locs ls hw hk hl
    exact False.elim hw
  | succ n ih =>
    intro σ x1 x2 H locs ls hw hk hl
    rw [wp_X6_goes_24] at hw
    refine lv_iload_n hx hb dX6_goes_24 rfl (lv_at hl 2 rfl) ?_
    refine lv_bipush (v := (8 : Int32)) hx hb dX6_goes_25 (by decide) ?_
    refine lv_icmp_ge (tgt := 74) hx hb dX6_goes_27 (by decide) (fun c2 => ?_) (fun c2 => ?_)
    · replace hw := hw.1 c2
      refine lv_aload_n hx hb dX6_goes_74 rfl (lv_at hl 0 rfl) ?_
      refine lv_iconst (v := (0 : Int32)) hx hb dX6_goes_75 (by decide) ?_
      refine k_put 23 X hk (wg_30 G _) rfl (hz_wsX60 _) tyX6_ok nmX6 (Nat.le_of_ble_eq_true rfl) (List.mem_cons_of_mem _ (aw_r43 _ (List.mem_of_getElem? (i := 14) rfl))) rfl rfl (Nat.le_of_ble_eq_true rfl) (ws_30_23 G _ _) dX6_goes_76 (fun H locs hk => ?_)
      refine lv_aload_n hx hb dX6_goes_79 rfl (lv_at hl 0 rfl) ?_
      refine lv_iconst (v := (0 : Int32)) hx hb dX6_goes_80 (by decide) ?_
      refine k_put 24 X hk (wg_30 G _) rfl (hz_wsX60 _) tyX6_ok nmX6 (Nat.le_of_ble_eq_true rfl) (List.mem_cons_of_mem _ (aw_r43 _ (List.mem_of_getElem? (i := 15) rfl))) rfl rfl (Nat.le_of_ble_eq_true rfl) (ws_30_24 G _ _) dX6_goes_81 (fun H locs hk => ?_)
      refine lv_aload_n hx hb dX6_goes_84 rfl (lv_at hl 0 rfl) ?_
      refine lv_iconst (v := (0 : Int32)) hx hb dX6_goes_85 (by decide) ?_
      refine k_put 25 X hk (wg_30 G _) rfl (hz_wsX60 _) tyX6_ok nmX6 (Nat.le_of_ble_eq_true rfl) (List.mem_cons_of_mem _ (aw_r43 _ (List.mem_of_getElem? (i := 20) rfl))) rfl rfl (Nat.le_of_ble_eq_true rfl) (ws_30_25 G _ _) dX6_goes_86 (fun H locs hk => ?_)
      refine lv_aload_n hx hb dX6_goes_89 rfl (lv_at hl 0 rfl) ?_
      refine lv_iconst (v := (-1 : Int32)) hx hb dX6_goes_90 (by decide) ?_
      refine k_put 26 X hk (wg_30 G _) rfl (hz_wsX60 _) tyX6_ok nmX6 (Nat.le_of_ble_eq_true rfl) (List.mem_cons_of_mem _ (aw_r43 _ (List.mem_of_getElem? (i := 21) rfl))) rfl rfl (Nat.le_of_ble_eq_true rfl) (ws_30_26 G _ _) dX6_goes_91 (fun H locs hk => ?_)
      refine lv_iconst (v := (0 : Int32)) hx hb dX6_goes_94 (by decide) ?_
      refine lv_istore_n (lv' := [(2, .int (0 : Int32)), (0, .ref (G.1 30)), (1, .int x1)]) hx hb dX6_goes_95 rfl hl (Nat.le_of_ble_eq_true rfl) rfl (fun ls hl => ?_)
      obtain ⟨n0, hw⟩ := hw
      exact t_X6_goes_96 X Q   n0 _ _ _ _ _ _ hw hk (lv_sub hl [1, 2, 0] rfl)
    · replace hw := hw.2 c2
      refine lv_aload_n hx hb dX6_goes_30 rfl (lv_at hl 0 rfl) ?_
      refine k_get 18 X hk (wg_30 G _) rfl (hz_wsX60 _) (Nat.le_of_ble_eq_true rfl) (List.mem_cons_of_mem _ (aw_r5 _ (List.mem_of_getElem? (i := 4) rfl))) rfl dX6_goes_31 ?_
      refine lv_iload_n hx hb dX6_goes_34 rfl (lv_at hl 2 rfl) ?_
      refine lv_iload_n hx hb dX6_goes_35 rfl (lv_at hl 2 rfl) ?_
      refine lv_aload_n hx hb dX6_goes_36 rfl (lv_at hl 0 rfl) ?_
      refine k_callVi (rest := [.int x2, .int x2, .ref (G.1 42)]) X hk (c_X6_places l G _  _ hw) (cwV 0 X.1.2.2.2.2 (gzV (aw_r15 _ (List.mem_of_getElem? (i := 14) rfl)) (aw_r15 _ (List.mem_of_getElem? (i := 15) rfl)) (aw_r15 _ (List.mem_of_getElem? (i := 16) rfl)) (aw_r1 _ (List.mem_of_getElem? (i := 5) rfl)) (aw_r15 _ (List.mem_of_getElem? (i := 17) rfl))) rfl rfl rfl hd_X6_places ⟨(Nat.le_of_ble_eq_true rfl), (Nat.le_of_ble_eq_true rfl)⟩) (wg_30 G _) rfl rfl hl.1 rfl (Nat.le_of_ble_eq_true rfl) dX6_goes_37 ⟨Nat.zero_le _, Nat.zero_le _⟩ (fun r29 σ28 H locs hw hk => ?_)
      refine lv_icmp_ge (tgt := 52) hx hb dX6_goes_40 (by decide) (fun c30 => ?_) (fun c30 => ?_)
      · replace hw := hw.1 c30
        refine lv_iconst (v := (0 : Int32)) hx hb dX6_goes_52 (by decide) ?_
        exact t_X6_goes_53 X Q _ ih _ _ _ _ _ _ _ _ hw hk hl
      · replace hw := hw.2 c30
        refine lv_aload_n hx hb dX6_goes_43 rfl (lv_at hl 0 rfl) ?_
        refine lv_iload_n hx hb dX6_goes_44 rfl (lv_at hl 2 rfl) ?_
        refine lv_iconst (v := (0 : Int32)) hx hb dX6_goes_45 (by decide) ?_
        refine k_callVi (rest := [.int x2, .ref (G.1 42)]) X hk (c_X6_ofPlace l G _ _ _ _ hw) (cwV 2 X.1.2.2.2.2 (gzV (aw_r21 _ (List.mem_of_getElem? (i := 4) rfl)) (aw_r21 _ (List.mem_of_getElem? (i := 5) rfl)) (aw_r21 _ (List.mem_of_getElem? (i := 6) rfl)) (aw_r1 _ (List.mem_of_getElem? (i := 5) rfl)) (aw_r21 _ (List.mem_of_getElem? (i := 7) rfl))) rfl rfl rfl hd_X6_ofPlace ⟨(Nat.le_of_ble_eq_true rfl), (Nat.le_of_ble_eq_true rfl)⟩) (wg_30 G _) rfl rfl hl.1 rfl (Nat.le_of_ble_eq_true rfl) dX6_goes_46 ⟨Nat.zero_le _, Nat.zero_le _⟩ (fun r33 σ32 H locs hw hk => ?_)
        refine lv_goto (tgt := 53) hx hb dX6_goes_49 (by decide) ?_
        exact t_X6_goes_53 X Q _ ih _ _ _ _ _ _ _ _ hw hk hl
def wp_X6_goes_2 (Q : Sg → Prop)  : Nat → Int32 → Int32 → Sg → Prop
  | 0, _, _, _ => False
  | n + 1, x1, x2, σ => ((480 : Int32) ≤ x2 → (∃ n0, wp_X6_goes_24 Q  n0 x1 (0 : Int32) σ)) ∧ (¬ ((480 : Int32) ≤ x2) → (vp_in x2 480 ∧ (∀ x2_34 : Int32, x2_34 = (x2 + (1 : Int32)) → (wp_X6_goes_2 Q  n x1 x2_34 (put σ 41 (x2).toNatClampNeg (0 : Int32))))))
set_option maxHeartbeats 4000000 in
set_option maxRecDepth 100000 in
theorem t_X6_goes_2 {p : Program} {l : Launch} {e : Env} {s : State} {m : MethodId} {args : Array Value} {below : List Frame} {meth : Method} {c : Code} {G : Gw} (X : KC p m meth c cX6_goes 5 s args wz_X6_goes RX6 none G) (Q : Sg → Prop)  : ∀ (n : Nat) (σ : Sg) (x1 x2 : Int32) (H : Heap) (locs : List Loc) (ls : Array Slot), wp_X6_goes_2 Q  n x1 x2 σ → WK G s H locs σ → lv_has ls 5 [(0, .ref (G.1 30)), (1, .int x1), (2, .int x2)] → W p l e rm_X6_goes s m args below meth c H locs 0 0 (ZV below args s G Q) (F0 m 2 ls []) := by
  have hx := X.1.1
  have hb := X.1.2.1
  intro n
  induction n with
  | zero =>
    intro σ x1 x2 H locs ls hw hk hl
    exact False.elim hw
  | succ n ih =>
    intro σ x1 x2 H locs ls hw hk hl
    rw [wp_X6_goes_2] at hw
    refine lv_iload_n hx hb dX6_goes_2 rfl (lv_at hl 2 rfl) ?_
    refine lv_sipush (v := (480 : Int32)) hx hb dX6_goes_3 (by decide) ?_
    refine lv_icmp_ge (tgt := 22) hx hb dX6_goes_6 (by decide) (fun c1 => ?_) (fun c1 => ?_)
    · replace hw := hw.1 c1
      refine lv_iconst (v := (0 : Int32)) hx hb dX6_goes_22 (by decide) ?_
      refine lv_istore_n (lv' := [(2, .int (0 : Int32)), (0, .ref (G.1 30)), (1, .int x1)]) hx hb dX6_goes_23 rfl hl (Nat.le_of_ble_eq_true rfl) rfl (fun ls hl => ?_)
      obtain ⟨n0, hw⟩ := hw
      exact t_X6_goes_24 X Q   n0 _ _ _ _ _ _ hw hk (lv_sub hl [1, 2, 0] rfl)
    · replace hw := hw.2 c1
      refine lv_aload_n hx hb dX6_goes_9 rfl (lv_at hl 0 rfl) ?_
      refine k_get 17 X hk (wg_30 G _) rfl (hz_wsX60 _) (Nat.le_of_ble_eq_true rfl) (List.mem_cons_of_mem _ (aw_r5 _ (List.mem_of_getElem? (i := 3) rfl))) rfl dX6_goes_10 ?_
      refine lv_iload_n hx hb dX6_goes_13 rfl (lv_at hl 2 rfl) ?_
      refine lv_iconst (v := (0 : Int32)) hx hb dX6_goes_14 (by decide) ?_
      refine k_iast X hk (wg_41 G _) (ws_41 G _) rfl hw.1 dX6_goes_15 (fun H locs hk => ?_)
      replace hw := hw.2
      obtain ⟨x2_34, ex2_34⟩ : ∃ y : Int32, y = (x2 + (1 : Int32)) := ⟨_, rfl⟩
      replace hw := hw x2_34 ex2_34
      refine lv_iinc (v := x2_34) (lv' := [(2, .int x2_34), (0, .ref (G.1 30)), (1, .int x1)]) hx hb dX6_goes_16 hl (k := 2) rfl (by rw [ex2_34]; rfl) (Nat.le_of_ble_eq_true rfl) rfl (fun ls hl => ?_)
      refine lv_goto (tgt := 2) hx hb dX6_goes_19 (by decide) ?_
      exact ih _ _ _ _ _ _ hw hk (lv_sub hl [1, 2, 0] rfl)
def wp_X6_goes (σ : Sg) (p1 : Int32) (Q : Sg → Prop) : Prop := ∃ n0, wp_X6_goes_2 Q  n0 p1 (0 : Int32) σ
set_option maxHeartbeats 4000000 in
set_option maxRecDepth 100000 in
theorem c_X6_goes (l : Launch) (G : Gw) (σ : Sg) (p1 : Int32) (Q : Sg → Prop) (hw : wp_X6_goes σ p1 Q) : MetV l yX6_goes wz_X6_goes rm_X6_goes G σ [.ref (G.1 30), .int p1] Q := by
  refine MetV.of cX6_goes 5 none (by decide) rfl (Nat.le_of_ble_eq_true rfl) ?_
  intro p e s m below meth c X hk ls hl
  have X : KC p m meth c cX6_goes 5 s _ wz_X6_goes RX6 none G := X
  have hl : lv_has ls 5 [(0, .ref (G.1 30)), (1, .int p1)] := hl
  unfold wp_X6_goes at hw
  have hx := X.1.1
  have hb := X.1.2.1
  refine lv_iconst (v := (0 : Int32)) hx hb dX6_goes_0 (by decide) ?_
  refine lv_istore_n (lv' := [(2, .int (0 : Int32)), (0, .ref (G.1 30)), (1, .int p1)]) hx hb dX6_goes_1 rfl hl (Nat.le_of_ble_eq_true rfl) rfl (fun ls hl => ?_)
  obtain ⟨n0, hw⟩ := hw
  exact t_X6_goes_2 X Q   n0 _ _ _ _ _ _ hw hk (lv_sub hl [1, 2, 0] rfl)
def rm_X6_plans : Room := { frames := 4, cells := 0, slots := 0, locals := 95 }
abbrev wz_X6_plans : List Cond := Cond.code yX6_plans cX6_plans 2 (some .int) :: wsA
theorem hd_X6_plans : yX6_plans.cls = RX6 ∧ yX6_plans.cls ≠ "java/lang/invoke/MethodHandle" ∧ yX6_plans.cls ≠ "java/lang/invoke/VarHandle" ∧ (parseMethodDescriptor yX6_plans.desc).map (fun d => d.parameters.length) = some 0 := by decide +kernel
def wp_X6_plans_20 (Q : Int32 → Sg → Prop)  (σ : Sg) : Prop := Q (σ 30 23) σ
set_option maxHeartbeats 4000000 in
set_option maxRecDepth 100000 in
theorem t_X6_plans_20 {p : Program} {l : Launch} {e : Env} {s : State} {m : MethodId} {args : Array Value} {below : List Frame} {meth : Method} {c : Code} {G : Gw} (X : KC p m meth c cX6_plans 2 s args wz_X6_plans RX6 (some .int) G) (Q : Int32 → Sg → Prop)  : ∀ (σ : Sg) (H : Heap) (locs : List Loc) (ls : Array Slot), wp_X6_plans_20 Q   σ → WK G s H locs σ → lv_has ls 2 [(0, .ref (G.1 30))] → W p l e rm_X6_plans s m args below meth c H locs 0 0 (ZI below args s G Q) (F0 m 20 ls []) := by
  have hx := X.1.1
  have hb := X.1.2.1
  intro σ H locs ls hw hk hl
  unfold wp_X6_plans_20 at hw
  refine lv_aload_n hx hb dX6_plans_20 rfl (lv_at hl 0 rfl) ?_
  refine k_get 23 X hk (wg_30 G _) rfl (hz_wsX60 _) (Nat.le_of_ble_eq_true rfl) (List.mem_cons_of_mem _ (aw_r43 _ (List.mem_of_getElem? (i := 14) rfl))) rfl dX6_plans_21 ?_
  exact k_iret X hk hw dX6_plans_24
def wp_X6_plans (σ : Sg) (Q : Int32 → Sg → Prop) : Prop := wp_X6_goes σ (50 : Int32) (fun σ1 => ((σ1 30 23) = 0 → (((σ1 30 24) = 0 → (wp_X6_plans_20 Q   σ1)) ∧ (¬ ((σ1 30 24) = 0) → (∀ x1_5 : Int32, x1_5 = ((σ1 30 24) - (σ1 30 24) / (1000 : Int32) * (1000 : Int32)) → (wp_X6_goes σ1 ((σ1 30 24) / (1000 : Int32)) (fun σ6 => Q x1_5 σ6)))))) ∧ (¬ ((σ1 30 23) = 0) → (wp_X6_plans_20 Q   σ1)))
set_option maxHeartbeats 4000000 in
set_option maxRecDepth 100000 in
theorem c_X6_plans (l : Launch) (G : Gw) (σ : Sg) (Q : Int32 → Sg → Prop) (hw : wp_X6_plans σ  Q) : MetI l yX6_plans wz_X6_plans rm_X6_plans G σ [.ref (G.1 30)] Q := by
  refine MetI.of cX6_plans 2 (some .int) (by decide) rfl (Nat.le_of_ble_eq_true rfl) ?_
  intro p e s m below meth c X hk ls hl
  have X : KC p m meth c cX6_plans 2 s _ wz_X6_plans RX6 (some .int) G := X
  have hl : lv_has ls 2 [(0, .ref (G.1 30))] := hl
  unfold wp_X6_plans at hw
  have hx := X.1.1
  have hb := X.1.2.1
  refine lv_aload_n hx hb dX6_plans_0 rfl (lv_at hl 0 rfl) ?_
  refine lv_bipush (v := (50 : Int32)) hx hb dX6_plans_1 (by decide) ?_
  refine k_callVv (rest := []) X hk (c_X6_goes l G _ _ _ hw) (cwV 1 X.1.2.2.2.2 (gzV (aw_r43 _ (List.mem_of_getElem? (i := 16) rfl)) (aw_r43 _ (List.mem_of_getElem? (i := 17) rfl)) (aw_r43 _ (List.mem_of_getElem? (i := 18) rfl)) (aw_r1 _ (List.mem_of_getElem? (i := 5) rfl)) (aw_r43 _ (List.mem_of_getElem? (i := 19) rfl))) rfl rfl rfl hd_X6_goes ⟨(Nat.le_of_ble_eq_true rfl), (Nat.le_of_ble_eq_true rfl)⟩) (wg_30 G _) rfl rfl hl.1 rfl (Nat.le_of_ble_eq_true rfl) dX6_plans_3 ⟨Nat.zero_le _, Nat.zero_le _⟩ (fun σ1 H locs hw hk => ?_)
  refine lv_aload_n hx hb dX6_plans_6 rfl (lv_at hl 0 rfl) ?_
  refine k_get 23 X hk (wg_30 G _) rfl (hz_wsX60 _) (Nat.le_of_ble_eq_true rfl) (List.mem_cons_of_mem _ (aw_r43 _ (List.mem_of_getElem? (i := 14) rfl))) rfl dX6_plans_7 ?_
  refine lv_if_ne (tgt := 20) hx hb dX6_plans_10 (by decide) (fun c3 => ?_) (fun c3 => ?_)
  · replace hw := hw.2 c3
    exact t_X6_plans_20 X Q   _  _ _ _ hw hk hl
  · replace hw := hw.1 c3
    refine lv_aload_n hx hb dX6_plans_13 rfl (lv_at hl 0 rfl) ?_
    refine k_get 24 X hk (wg_30 G _) rfl (hz_wsX60 _) (Nat.le_of_ble_eq_true rfl) (List.mem_cons_of_mem _ (aw_r43 _ (List.mem_of_getElem? (i := 15) rfl))) rfl dX6_plans_14 ?_
    refine lv_if_ne (tgt := 25) hx hb dX6_plans_17 (by decide) (fun c4 => ?_) (fun c4 => ?_)
    · replace hw := hw.2 c4
      refine lv_aload_n hx hb dX6_plans_25 rfl (lv_at hl 0 rfl) ?_
      refine k_get 24 X hk (wg_30 G _) rfl (hz_wsX60 _) (Nat.le_of_ble_eq_true rfl) (List.mem_cons_of_mem _ (aw_r43 _ (List.mem_of_getElem? (i := 15) rfl))) rfl dX6_plans_26 ?_
      refine lv_sipush (v := (1000 : Int32)) hx hb dX6_plans_29 (by decide) ?_
      refine lv_irem hx hb dX6_plans_32 (by decide) ?_
      refine lv_topi (fun x1_5 ex1_5 => ?_)
      replace hw := hw x1_5 ex1_5
      refine lv_istore_n (lv' := [(1, .int x1_5), (0, .ref (G.1 30))]) hx hb dX6_plans_33 rfl hl (Nat.le_of_ble_eq_true rfl) rfl (fun ls hl => ?_)
      refine lv_aload_n hx hb dX6_plans_34 rfl (lv_at hl 1 rfl) ?_
      refine lv_aload_n hx hb dX6_plans_35 rfl (lv_at hl 1 rfl) ?_
      refine k_get 24 X hk (wg_30 G _) rfl (hz_wsX60 _) (Nat.le_of_ble_eq_true rfl) (List.mem_cons_of_mem _ (aw_r43 _ (List.mem_of_getElem? (i := 15) rfl))) rfl dX6_plans_36 ?_
      refine lv_sipush (v := (1000 : Int32)) hx hb dX6_plans_39 (by decide) ?_
      refine lv_idiv hx hb dX6_plans_42 (by decide) ?_
      refine k_callVv (rest := []) X hk (c_X6_goes l G _ _ _ hw) (cwV 1 X.1.2.2.2.2 (gzV (aw_r43 _ (List.mem_of_getElem? (i := 16) rfl)) (aw_r43 _ (List.mem_of_getElem? (i := 17) rfl)) (aw_r43 _ (List.mem_of_getElem? (i := 18) rfl)) (aw_r1 _ (List.mem_of_getElem? (i := 5) rfl)) (aw_r43 _ (List.mem_of_getElem? (i := 19) rfl))) rfl rfl rfl hd_X6_goes ⟨(Nat.le_of_ble_eq_true rfl), (Nat.le_of_ble_eq_true rfl)⟩) (wg_30 G _) rfl rfl hl.1 rfl (Nat.le_of_ble_eq_true rfl) dX6_plans_43 ⟨Nat.zero_le _, Nat.zero_le _⟩ (fun σ6 H locs hw hk => ?_)
      refine lv_iload_n hx hb dX6_plans_46 rfl (lv_at hl 0 rfl) ?_
      exact k_iret X hk hw dX6_plans_47
    · replace hw := hw.1 c4
      exact t_X6_plans_20 X Q   _  _ _ _ hw hk hl
def rm_X6_wrong : Room := { frames := 5, cells := 0, slots := 0, locals := 116 }
abbrev wz_X6_wrong : List Cond := Cond.code yX6_wrong cX6_wrong 1 (some .int) :: wsA
theorem hd_X6_wrong : yX6_wrong.cls = RX6 ∧ yX6_wrong.cls ≠ "java/lang/invoke/MethodHandle" ∧ yX6_wrong.cls ≠ "java/lang/invoke/VarHandle" ∧ (parseMethodDescriptor yX6_wrong.desc).map (fun d => d.parameters.length) = some 0 := by decide +kernel
def wp_X6_wrong (σ : Sg) (Q : Int32 → Sg → Prop) : Prop := wp_X6_plans (put σ 30 0 (0 : Int32))  (fun r2 σ1 => Q r2 σ1)
set_option maxHeartbeats 4000000 in
set_option maxRecDepth 100000 in
theorem c_X6_wrong (l : Launch) (G : Gw) (σ : Sg) (Q : Int32 → Sg → Prop) (hw : wp_X6_wrong σ  Q) : MetI l yX6_wrong wz_X6_wrong rm_X6_wrong G σ [.ref (G.1 30)] Q := by
  refine MetI.of cX6_wrong 1 (some .int) (by decide) rfl (Nat.le_of_ble_eq_true rfl) ?_
  intro p e s m below meth c X hk ls hl
  have X : KC p m meth c cX6_wrong 1 s _ wz_X6_wrong RX6 (some .int) G := X
  have hl : lv_has ls 1 [(0, .ref (G.1 30))] := hl
  unfold wp_X6_wrong at hw
  have hx := X.1.1
  have hb := X.1.2.1
  refine lv_aload_n hx hb dX6_wrong_0 rfl (lv_at hl 0 rfl) ?_
  refine lv_iconst (v := (0 : Int32)) hx hb dX6_wrong_1 (by decide) ?_
  refine k_put 0 X hk (wg_30 G _) rfl (hz_wsX60 _) tyX6_ok nmX6 (Nat.le_of_ble_eq_true rfl) (List.mem_cons_of_mem _ (aw_r6 _ (List.mem_of_getElem? (i := 3) rfl))) rfl rfl (Nat.le_of_ble_eq_true rfl) (ws_30_0 G _ _) dX6_wrong_2 (fun H locs hk => ?_)
  refine lv_aload_n hx hb dX6_wrong_5 rfl (lv_at hl 0 rfl) ?_
  refine k_callVi (rest := []) X hk (c_X6_plans l G _  _ hw) (cwV 0 X.1.2.2.2.2 (gzV (aw_r43 _ (List.mem_of_getElem? (i := 10) rfl)) (aw_r43 _ (List.mem_of_getElem? (i := 11) rfl)) (aw_r43 _ (List.mem_of_getElem? (i := 12) rfl)) (aw_r1 _ (List.mem_of_getElem? (i := 5) rfl)) (aw_r43 _ (List.mem_of_getElem? (i := 13) rfl))) rfl rfl rfl hd_X6_plans ⟨(Nat.le_of_ble_eq_true rfl), (Nat.le_of_ble_eq_true rfl)⟩) (wg_30 G _) rfl rfl hl.1 rfl (Nat.le_of_ble_eq_true rfl) dX6_wrong_6 ⟨Nat.zero_le _, Nat.zero_le _⟩ (fun r2 σ1 H locs hw hk => ?_)
  exact k_iret X hk hw dX6_wrong_9
def rm_X6_planned : Room := { frames := 0, cells := 0, slots := 0, locals := 0 }
abbrev wz_X6_planned : List Cond := Cond.code yX6_planned cX6_planned 3 (some .int) :: wsA
theorem hd_X6_planned : yX6_planned.cls = RX6 ∧ yX6_planned.cls ≠ "java/lang/invoke/MethodHandle" ∧ yX6_planned.cls ≠ "java/lang/invoke/VarHandle" ∧ (parseMethodDescriptor yX6_planned.desc).map (fun d => d.parameters.length) = some 0 := by decide +kernel
def wp_X6_planned_4 (Q : Int32 → Sg → Prop)  : Nat → Int32 → Int32 → Sg → Prop
  | 0, _, _, _ => False
  | n + 1, x1, x2, σ => ((480 : Int32) ≤ x2 → (Q x1 σ)) ∧ (¬ ((480 : Int32) ≤ x2) → (vp_in x2 480 ∧ (∀ x1_2 : Int32, x1_2 = (x1 + (σ 41 (x2).toNatClampNeg)) → (∀ x2_3 : Int32, x2_3 = (x2 + (1 : Int32)) → (wp_X6_planned_4 Q  n x1_2 x2_3 σ)))))
set_option maxHeartbeats 4000000 in
set_option maxRecDepth 100000 in
theorem t_X6_planned_4 {p : Program} {l : Launch} {e : Env} {s : State} {m : MethodId} {args : Array Value} {below : List Frame} {meth : Method} {c : Code} {G : Gw} (X : KC p m meth c cX6_planned 3 s args wz_X6_planned RX6 (some .int) G) (Q : Int32 → Sg → Prop)  : ∀ (n : Nat) (σ : Sg) (x1 x2 : Int32) (H : Heap) (locs : List Loc) (ls : Array Slot), wp_X6_planned_4 Q  n x1 x2 σ → WK G s H locs σ → lv_has ls 3 [(0, .ref (G.1 30)), (1, .int x1), (2, .int x2)] → W p l e rm_X6_planned s m args below meth c H locs 0 0 (ZI below args s G Q) (F0 m 4 ls []) := by
  have hx := X.1.1
  have hb := X.1.2.1
  intro n
  induction n with
  | zero =>
    intro σ x1 x2 H locs ls hw hk hl
    exact False.elim hw
  | succ n ih =>
    intro σ x1 x2 H locs ls hw hk hl
    rw [wp_X6_planned_4] at hw
    refine lv_iload_n hx hb dX6_planned_4 rfl (lv_at hl 2 rfl) ?_
    refine lv_sipush (v := (480 : Int32)) hx hb dX6_planned_5 (by decide) ?_
    refine lv_icmp_ge (tgt := 26) hx hb dX6_planned_8 (by decide) (fun c1 => ?_) (fun c1 => ?_)
    · replace hw := hw.1 c1
      refine lv_iload_n hx hb dX6_planned_26 rfl (lv_at hl 1 rfl) ?_
      exact k_iret X hk hw dX6_planned_27
    · replace hw := hw.2 c1
      refine lv_iload_n hx hb dX6_planned_11 rfl (lv_at hl 1 rfl) ?_
      refine lv_aload_n hx hb dX6_planned_12 rfl (lv_at hl 0 rfl) ?_
      refine k_get 17 X hk (wg_30 G _) rfl (hz_wsX60 _) (Nat.le_of_ble_eq_true rfl) (List.mem_cons_of_mem _ (aw_r5 _ (List.mem_of_getElem? (i := 3) rfl))) rfl dX6_planned_13 ?_
      refine lv_iload_n hx hb dX6_planned_16 rfl (lv_at hl 2 rfl) ?_
      refine k_iald X hk (wg_41 G _) hw.1 dX6_planned_17 ?_
      replace hw := hw.2
      refine lv_iadd hx hb dX6_planned_18 ?_
      refine lv_topi (fun x1_2 ex1_2 => ?_)
      replace hw := hw x1_2 ex1_2
      refine lv_istore_n (lv' := [(1, .int x1_2), (0, .ref (G.1 30)), (2, .int x2)]) hx hb dX6_planned_19 rfl hl (Nat.le_of_ble_eq_true rfl) rfl (fun ls hl => ?_)
      obtain ⟨x2_3, ex2_3⟩ : ∃ y : Int32, y = (x2 + (1 : Int32)) := ⟨_, rfl⟩
      replace hw := hw x2_3 ex2_3
      refine lv_iinc (v := x2_3) (lv' := [(2, .int x2_3), (1, .int x1_2), (0, .ref (G.1 30))]) hx hb dX6_planned_20 hl (k := 2) rfl (by rw [ex2_3]; rfl) (Nat.le_of_ble_eq_true rfl) rfl (fun ls hl => ?_)
      refine lv_goto (tgt := 4) hx hb dX6_planned_23 (by decide) ?_
      exact ih _ _ _ _ _ _ hw hk (lv_sub hl [2, 1, 0] rfl)
def wp_X6_planned (σ : Sg) (Q : Int32 → Sg → Prop) : Prop := ∃ n0, wp_X6_planned_4 Q  n0 (0 : Int32) (0 : Int32) σ
set_option maxHeartbeats 4000000 in
set_option maxRecDepth 100000 in
theorem c_X6_planned (l : Launch) (G : Gw) (σ : Sg) (Q : Int32 → Sg → Prop) (hw : wp_X6_planned σ  Q) : MetI l yX6_planned wz_X6_planned rm_X6_planned G σ [.ref (G.1 30)] Q := by
  refine MetI.of cX6_planned 3 (some .int) (by decide) rfl (Nat.le_of_ble_eq_true rfl) ?_
  intro p e s m below meth c X hk ls hl
  have X : KC p m meth c cX6_planned 3 s _ wz_X6_planned RX6 (some .int) G := X
  have hl : lv_has ls 3 [(0, .ref (G.1 30))] := hl
  unfold wp_X6_planned at hw
  have hx := X.1.1
  have hb := X.1.2.1
  refine lv_iconst (v := (0 : Int32)) hx hb dX6_planned_0 (by decide) ?_
  refine lv_istore_n (lv' := [(1, .int (0 : Int32)), (0, .ref (G.1 30))]) hx hb dX6_planned_1 rfl hl (Nat.le_of_ble_eq_true rfl) rfl (fun ls hl => ?_)
  refine lv_iconst (v := (0 : Int32)) hx hb dX6_planned_2 (by decide) ?_
  refine lv_istore_n (lv' := [(2, .int (0 : Int32)), (1, .int (0 : Int32)), (0, .ref (G.1 30))]) hx hb dX6_planned_3 rfl hl (Nat.le_of_ble_eq_true rfl) rfl (fun ls hl => ?_)
  obtain ⟨n0, hw⟩ := hw
  exact t_X6_planned_4 X Q   n0 _ _ _ _ _ _ hw hk (lv_sub hl [2, 1, 0] rfl)
def rm_X6_planned_ : Room := { frames := 5, cells := 0, slots := 0, locals := 116 }
abbrev wz_X6_planned_ : List Cond := Cond.code yX6_planned_ cX6_planned_ 5 (some .int) :: wsA
theorem hd_X6_planned_ : yX6_planned_.cls = RX6 ∧ yX6_planned_.cls ≠ "java/lang/invoke/MethodHandle" ∧ yX6_planned_.cls ≠ "java/lang/invoke/VarHandle" ∧ (parseMethodDescriptor yX6_planned_.desc).map (fun d => d.parameters.length) = some 1 := by decide +kernel
def wp_X6_planned__61 (Q : Int32 → Sg → Prop) (K15 : Int32 → Int32 → Int32 → Sg → Prop) (x1 x4 y0 y1 : Int32) (σ : Sg) : Prop := ∀ x3_15 : Int32, x3_15 = (y0 + y1) → (∀ x4_16 : Int32, x4_16 = (x4 + (1 : Int32)) → (K15 x1 x3_15 x4_16 σ))
set_option maxHeartbeats 4000000 in
set_option maxRecDepth 100000 in
theorem t_X6_planned__61 {p : Program} {l : Launch} {e : Env} {s : State} {m : MethodId} {args : Array Value} {below : List Frame} {meth : Method} {c : Code} {G : Gw} (X : KC p m meth c cX6_planned_ 5 s args wz_X6_planned_ RX6 (some .int) G) (Q : Int32 → Sg → Prop) (K15 : Int32 → Int32 → Int32 → Sg → Prop) (hK15 : ∀ (σ : Sg) (x1 x3 x4 : Int32) (H : Heap) (locs : List Loc) (ls : Array Slot), K15 x1 x3 x4 σ → WK G s H locs σ → lv_has ls 5 [(0, .ref (G.1 30)), (1, .int x1), (3, .int x3), (4, .int x4)] → W p l e rm_X6_planned_ s m args below meth c H locs 0 0 (ZI below args s G Q) (F0 m 15 ls [])) : ∀ (σ : Sg) (x1 x4 y0 y1 : Int32) (H : Heap) (locs : List Loc) (ls : Array Slot), wp_X6_planned__61 Q K15 x1 x4 y0 y1 σ → WK G s H locs σ → lv_has ls 5 [(0, .ref (G.1 30)), (1, .int x1), (4, .int x4)] → W p l e rm_X6_planned_ s m args below meth c H locs 0 0 (ZI below args s G Q) (F0 m 61 ls [.int y1, .int y0]) := by
  have hx := X.1.1
  have hb := X.1.2.1
  intro σ x1 x4 y0 y1 H locs ls hw hk hl
  unfold wp_X6_planned__61 at hw
  refine lv_iadd hx hb dX6_planned__61 ?_
  refine lv_topi (fun x3_15 ex3_15 => ?_)
  replace hw := hw x3_15 ex3_15
  refine lv_istore_n (lv' := [(3, .int x3_15), (0, .ref (G.1 30)), (1, .int x1), (4, .int x4)]) hx hb dX6_planned__62 rfl hl (Nat.le_of_ble_eq_true rfl) rfl (fun ls hl => ?_)
  obtain ⟨x4_16, ex4_16⟩ : ∃ y : Int32, y = (x4 + (1 : Int32)) := ⟨_, rfl⟩
  replace hw := hw x4_16 ex4_16
  refine lv_iinc (v := x4_16) (lv' := [(4, .int x4_16), (3, .int x3_15), (0, .ref (G.1 30)), (1, .int x1)]) hx hb dX6_planned__63 hl (k := 3) rfl (by rw [ex4_16]; rfl) (Nat.le_of_ble_eq_true rfl) rfl (fun ls hl => ?_)
  refine lv_goto (tgt := 15) hx hb dX6_planned__66 (by decide) ?_
  exact hK15 _ _ _ _ _ _ _ hw hk (lv_sub hl [2, 3, 1, 0] rfl)
def wp_X6_planned__15 (Q : Int32 → Sg → Prop)  : Nat → Int32 → Int32 → Int32 → Sg → Prop
  | 0, _, _, _, _ => False
  | n + 1, x1, x3, x4, σ => wp_X6_places σ  (fun r4 σ3 => (r4 ≤ x4 → ((x1 = (0 : Int32) → (Q x3 σ3)) ∧ (x1 = (1 : Int32) → (Q (σ3 30 26) σ3)) ∧ (x1 = (2 : Int32) → (wp_X6_planned σ3  (fun r10 σ9 => Q r10 σ9))) ∧ (x1 = (3 : Int32) → (Q x3 σ3)) ∧ (x1 = (4 : Int32) → (Q x3 σ3)) ∧ (¬ x1 = (0 : Int32) → ¬ x1 = (1 : Int32) → ¬ x1 = (2 : Int32) → ¬ x1 = (3 : Int32) → ¬ x1 = (4 : Int32) → (Q (-1 : Int32) σ3)))) ∧ (¬ (r4 ≤ x4) → ((x1 = 0 → (vp_in x4 8 ∧ (wp_X6_planned__61 Q (fun z1 z3 z4 σ => wp_X6_planned__15 Q  n z1 z3 z4 σ) x1 x4 x3 (σ3 44 (x4).toNatClampNeg) σ3))) ∧ (¬ (x1 = 0) → ((x1 = (3 : Int32) → (vp_in x4 8 ∧ (wp_X6_planned__61 Q (fun z1 z3 z4 σ => wp_X6_planned__15 Q  n z1 z3 z4 σ) x1 x4 x3 (σ3 42 (x4).toNatClampNeg) σ3))) ∧ (¬ (x1 = (3 : Int32)) → (vp_in x4 8 ∧ (wp_X6_planned__61 Q (fun z1 z3 z4 σ => wp_X6_planned__15 Q  n z1 z3 z4 σ) x1 x4 x3 (σ3 43 (x4).toNatClampNeg) σ3))))))))
set_option maxHeartbeats 4000000 in
set_option maxRecDepth 100000 in
theorem t_X6_planned__15 {p : Program} {l : Launch} {e : Env} {s : State} {m : MethodId} {args : Array Value} {below : List Frame} {meth : Method} {c : Code} {G : Gw} (X : KC p m meth c cX6_planned_ 5 s args wz_X6_planned_ RX6 (some .int) G) (Q : Int32 → Sg → Prop)  : ∀ (n : Nat) (σ : Sg) (x1 x3 x4 : Int32) (H : Heap) (locs : List Loc) (ls : Array Slot), wp_X6_planned__15 Q  n x1 x3 x4 σ → WK G s H locs σ → lv_has ls 5 [(0, .ref (G.1 30)), (1, .int x1), (3, .int x3), (4, .int x4)] → W p l e rm_X6_planned_ s m args below meth c H locs 0 0 (ZI below args s G Q) (F0 m 15 ls []) := by
  have hx := X.1.1
  have hb := X.1.2.1
  intro n
  induction n with
  | zero =>
    intro σ x1 x3 x4 H locs ls hw hk hl
    exact False.elim hw
  | succ n ih =>
    intro σ x1 x3 x4 H locs ls hw hk hl
    rw [wp_X6_planned__15] at hw
    refine lv_iload hx hb dX6_planned__15 (lv_at hl 3 rfl) ?_
    refine lv_aload_n hx hb dX6_planned__17 rfl (lv_at hl 0 rfl) ?_
    refine k_callVi (rest := [.int x4]) X hk (c_X6_places l G _  _ hw) (cwV 0 X.1.2.2.2.2 (gzV (aw_r15 _ (List.mem_of_getElem? (i := 14) rfl)) (aw_r15 _ (List.mem_of_getElem? (i := 15) rfl)) (aw_r15 _ (List.mem_of_getElem? (i := 16) rfl)) (aw_r1 _ (List.mem_of_getElem? (i := 5) rfl)) (aw_r15 _ (List.mem_of_getElem? (i := 17) rfl))) rfl rfl rfl hd_X6_places ⟨(Nat.le_of_ble_eq_true rfl), (Nat.le_of_ble_eq_true rfl)⟩) (wg_30 G _) rfl rfl hl.1 rfl (Nat.le_of_ble_eq_true rfl) dX6_planned__18 ⟨Nat.zero_le _, Nat.zero_le _⟩ (fun r4 σ3 H locs hw hk => ?_)
    refine lv_icmp_ge (tgt := 69) hx hb dX6_planned__21 (by decide) (fun c5 => ?_) (fun c5 => ?_)
    · replace hw := hw.1 c5
      refine lv_iload_n hx hb dX6_planned__69 rfl (lv_at hl 1 rfl) ?_
      by_cases c6 : x1 = (0 : Int32)
      · have ec6 : (x1).toInt = 0 := by rw [c6]; rfl
        refine lv_tableIn (tgt := 104) hx hb dX6_planned__70 (by rw [ec6]; decide) (by rw [ec6]; decide) (by rw [ec6]; rfl) (by decide) ?_
        replace hw := hw.1 c6
        refine lv_iload_n hx hb dX6_planned__104 rfl (lv_at hl 2 rfl) ?_
        exact k_iret X hk hw dX6_planned__105
      replace hw := hw.2
      by_cases c7 : x1 = (1 : Int32)
      · have ec7 : (x1).toInt = 1 := by rw [c7]; rfl
        refine lv_tableIn (tgt := 106) hx hb dX6_planned__70 (by rw [ec7]; decide) (by rw [ec7]; decide) (by rw [ec7]; rfl) (by decide) ?_
        replace hw := hw.1 c7
        refine lv_aload_n hx hb dX6_planned__106 rfl (lv_at hl 0 rfl) ?_
        refine k_get 26 X hk (wg_30 G _) rfl (hz_wsX60 _) (Nat.le_of_ble_eq_true rfl) (List.mem_cons_of_mem _ (aw_r43 _ (List.mem_of_getElem? (i := 21) rfl))) rfl dX6_planned__107 ?_
        exact k_iret X hk hw dX6_planned__110
      replace hw := hw.2
      by_cases c8 : x1 = (2 : Int32)
      · have ec8 : (x1).toInt = 2 := by rw [c8]; rfl
        refine lv_tableIn (tgt := 111) hx hb dX6_planned__70 (by rw [ec8]; decide) (by rw [ec8]; decide) (by rw [ec8]; rfl) (by decide) ?_
        replace hw := hw.1 c8
        refine lv_aload_n hx hb dX6_planned__111 rfl (lv_at hl 0 rfl) ?_
        refine k_callVi (rest := []) X hk (c_X6_planned l G _  _ hw) (cwV 0 X.1.2.2.2.2 (gzV (aw_r45 _ (List.mem_of_getElem? (i := 7) rfl)) (aw_r45 _ (List.mem_of_getElem? (i := 8) rfl)) (aw_r45 _ (List.mem_of_getElem? (i := 9) rfl)) (aw_r1 _ (List.mem_of_getElem? (i := 5) rfl)) (aw_r45 _ (List.mem_of_getElem? (i := 10) rfl))) rfl rfl rfl hd_X6_planned ⟨(Nat.le_of_ble_eq_true rfl), (Nat.le_of_ble_eq_true rfl)⟩) (wg_30 G _) rfl rfl hl.1 rfl (Nat.le_of_ble_eq_true rfl) dX6_planned__112 ⟨Nat.zero_le _, Nat.zero_le _⟩ (fun r10 σ9 H locs hw hk => ?_)
        exact k_iret X hk hw dX6_planned__115
      replace hw := hw.2
      by_cases c11 : x1 = (3 : Int32)
      · have ec11 : (x1).toInt = 3 := by rw [c11]; rfl
        refine lv_tableIn (tgt := 104) hx hb dX6_planned__70 (by rw [ec11]; decide) (by rw [ec11]; decide) (by rw [ec11]; rfl) (by decide) ?_
        replace hw := hw.1 c11
        refine lv_iload_n hx hb dX6_planned__104 rfl (lv_at hl 2 rfl) ?_
        exact k_iret X hk hw dX6_planned__105
      replace hw := hw.2
      by_cases c12 : x1 = (4 : Int32)
      · have ec12 : (x1).toInt = 4 := by rw [c12]; rfl
        refine lv_tableIn (tgt := 104) hx hb dX6_planned__70 (by rw [ec12]; decide) (by rw [ec12]; decide) (by rw [ec12]; rfl) (by decide) ?_
        replace hw := hw.1 c12
        refine lv_iload_n hx hb dX6_planned__104 rfl (lv_at hl 2 rfl) ?_
        exact k_iret X hk hw dX6_planned__105
      replace hw := hw.2
      have ec6 := lv_neT (a := 0) c6 rfl
      have ec7 := lv_neT (a := 1) c7 rfl
      have ec8 := lv_neT (a := 2) c8 rfl
      have ec11 := lv_neT (a := 3) c11 rfl
      have ec12 := lv_neT (a := 4) c12 rfl
      refine lv_tableOut (tgt := 116) hx hb dX6_planned__70 (by omega) (by decide) ?_
      replace hw := hw c6 c7 c8 c11 c12
      refine lv_iconst (v := (-1 : Int32)) hx hb dX6_planned__116 (by decide) ?_
      exact k_iret X hk hw dX6_planned__117
    · replace hw := hw.2 c5
      refine lv_iload_n hx hb dX6_planned__24 rfl (lv_at hl 2 rfl) ?_
      refine lv_iload_n hx hb dX6_planned__25 rfl (lv_at hl 1 rfl) ?_
      refine lv_if_ne (tgt := 39) hx hb dX6_planned__26 (by decide) (fun c13 => ?_) (fun c13 => ?_)
      · replace hw := hw.2 c13
        refine lv_iload_n hx hb dX6_planned__39 rfl (lv_at hl 1 rfl) ?_
        refine lv_iconst (v := (3 : Int32)) hx hb dX6_planned__40 (by decide) ?_
        refine lv_icmp_ne (tgt := 54) hx hb dX6_planned__41 (by decide) (fun c14 => ?_) (fun c14 => ?_)
        · replace hw := hw.2 c14
          refine lv_aload_n hx hb dX6_planned__54 rfl (lv_at hl 0 rfl) ?_
          refine k_get 19 X hk (wg_30 G _) rfl (hz_wsX60 _) (Nat.le_of_ble_eq_true rfl) (List.mem_cons_of_mem _ (aw_r5 _ (List.mem_of_getElem? (i := 5) rfl))) rfl dX6_planned__55 ?_
          refine lv_iload hx hb dX6_planned__58 (lv_at hl 3 rfl) ?_
          refine k_iald X hk (wg_43 G _) hw.1 dX6_planned__60 ?_
          replace hw := hw.2
          exact t_X6_planned__61 X Q _ ih _ _ _ _ _ _ _ _ hw hk (lv_sub hl [0, 1, 3] rfl)
        · replace hw := hw.1 c14
          refine lv_aload_n hx hb dX6_planned__44 rfl (lv_at hl 0 rfl) ?_
          refine k_get 18 X hk (wg_30 G _) rfl (hz_wsX60 _) (Nat.le_of_ble_eq_true rfl) (List.mem_cons_of_mem _ (aw_r5 _ (List.mem_of_getElem? (i := 4) rfl))) rfl dX6_planned__45 ?_
          refine lv_iload hx hb dX6_planned__48 (lv_at hl 3 rfl) ?_
          refine k_iald X hk (wg_42 G _) hw.1 dX6_planned__50 ?_
          replace hw := hw.2
          refine lv_goto (tgt := 61) hx hb dX6_planned__51 (by decide) ?_
          exact t_X6_planned__61 X Q _ ih _ _ _ _ _ _ _ _ hw hk (lv_sub hl [0, 1, 3] rfl)
      · replace hw := hw.1 c13
        refine lv_aload_n hx hb dX6_planned__29 rfl (lv_at hl 0 rfl) ?_
        refine k_get 20 X hk (wg_30 G _) rfl (hz_wsX60 _) (Nat.le_of_ble_eq_true rfl) (List.mem_cons_of_mem _ (aw_r5 _ (List.mem_of_getElem? (i := 6) rfl))) rfl dX6_planned__30 ?_
        refine lv_iload hx hb dX6_planned__33 (lv_at hl 3 rfl) ?_
        refine k_iald X hk (wg_44 G _) hw.1 dX6_planned__35 ?_
        replace hw := hw.2
        refine lv_goto (tgt := 61) hx hb dX6_planned__36 (by decide) ?_
        exact t_X6_planned__61 X Q _ ih _ _ _ _ _ _ _ _ hw hk (lv_sub hl [0, 1, 3] rfl)
def wp_X6_planned_ (σ : Sg) (p1 : Int32) (Q : Int32 → Sg → Prop) : Prop := wp_X6_plans (put σ 30 0 (0 : Int32))  (fun r2 σ1 => ∃ n0, wp_X6_planned__15 Q  n0 p1 (0 : Int32) (0 : Int32) σ1)
set_option maxHeartbeats 4000000 in
set_option maxRecDepth 100000 in
theorem c_X6_planned_ (l : Launch) (G : Gw) (σ : Sg) (p1 : Int32) (Q : Int32 → Sg → Prop) (hw : wp_X6_planned_ σ p1 Q) : MetI l yX6_planned_ wz_X6_planned_ rm_X6_planned_ G σ [.ref (G.1 30), .int p1] Q := by
  refine MetI.of cX6_planned_ 5 (some .int) (by decide) rfl (Nat.le_of_ble_eq_true rfl) ?_
  intro p e s m below meth c X hk ls hl
  have X : KC p m meth c cX6_planned_ 5 s _ wz_X6_planned_ RX6 (some .int) G := X
  have hl : lv_has ls 5 [(0, .ref (G.1 30)), (1, .int p1)] := hl
  unfold wp_X6_planned_ at hw
  have hx := X.1.1
  have hb := X.1.2.1
  refine lv_aload_n hx hb dX6_planned__0 rfl (lv_at hl 0 rfl) ?_
  refine lv_iconst (v := (0 : Int32)) hx hb dX6_planned__1 (by decide) ?_
  refine k_put 0 X hk (wg_30 G _) rfl (hz_wsX60 _) tyX6_ok nmX6 (Nat.le_of_ble_eq_true rfl) (List.mem_cons_of_mem _ (aw_r6 _ (List.mem_of_getElem? (i := 3) rfl))) rfl rfl (Nat.le_of_ble_eq_true rfl) (ws_30_0 G _ _) dX6_planned__2 (fun H locs hk => ?_)
  refine lv_aload_n hx hb dX6_planned__5 rfl (lv_at hl 0 rfl) ?_
  refine k_callVi (rest := []) X hk (c_X6_plans l G _  _ hw) (cwV 0 X.1.2.2.2.2 (gzV (aw_r43 _ (List.mem_of_getElem? (i := 10) rfl)) (aw_r43 _ (List.mem_of_getElem? (i := 11) rfl)) (aw_r43 _ (List.mem_of_getElem? (i := 12) rfl)) (aw_r1 _ (List.mem_of_getElem? (i := 5) rfl)) (aw_r43 _ (List.mem_of_getElem? (i := 13) rfl))) rfl rfl rfl hd_X6_plans ⟨(Nat.le_of_ble_eq_true rfl), (Nat.le_of_ble_eq_true rfl)⟩) (wg_30 G _) rfl rfl hl.1 rfl (Nat.le_of_ble_eq_true rfl) dX6_planned__6 ⟨Nat.zero_le _, Nat.zero_le _⟩ (fun r2 σ1 H locs hw hk => ?_)
  refine lv_istore_n (lv' := [(2, .int r2), (0, .ref (G.1 30)), (1, .int p1)]) hx hb dX6_planned__9 rfl hl (Nat.le_of_ble_eq_true rfl) rfl (fun ls hl => ?_)
  refine lv_iconst (v := (0 : Int32)) hx hb dX6_planned__10 (by decide) ?_
  refine lv_istore_n (lv' := [(3, .int (0 : Int32)), (2, .int r2), (0, .ref (G.1 30)), (1, .int p1)]) hx hb dX6_planned__11 rfl hl (Nat.le_of_ble_eq_true rfl) rfl (fun ls hl => ?_)
  refine lv_iconst (v := (0 : Int32)) hx hb dX6_planned__12 (by decide) ?_
  refine lv_istore (lv' := [(4, .int (0 : Int32)), (3, .int (0 : Int32)), (2, .int r2), (0, .ref (G.1 30)), (1, .int p1)]) hx hb dX6_planned__13 hl (Nat.le_of_ble_eq_true rfl) rfl (fun ls hl => ?_)
  obtain ⟨n0, hw⟩ := hw
  exact t_X6_planned__15 X Q   n0 _ _ _ _ _ _ _ hw hk (lv_sub hl [3, 4, 1, 0] rfl)
def rm_X6_there : Room := { frames := 5, cells := 0, slots := 0, locals := 116 }
abbrev wz_X6_there : List Cond := Cond.code yX6_there cX6_there 5 (some .int) :: wsA
theorem hd_X6_there : yX6_there.cls = RX6 ∧ yX6_there.cls ≠ "java/lang/invoke/MethodHandle" ∧ yX6_there.cls ≠ "java/lang/invoke/VarHandle" ∧ (parseMethodDescriptor yX6_there.desc).map (fun d => d.parameters.length) = some 3 := by decide +kernel
def wp_X6_there (σ : Sg) (p1 p2 p3 : Int32) (Q : Int32 → Sg → Prop) : Prop := wp_X6_isPlace (put σ 30 0 (0 : Int32)) p1 (fun r2 σ1 => (r2 = 0 → (Q (-1 : Int32) σ1)) ∧ (¬ (r2 = 0) → (wp_X6_isIn σ1 p2 (0 : Int32) (50 : Int32) (fun r5 σ4 => (r5 = 0 → (Q (-1 : Int32) σ4)) ∧ (¬ (r5 = 0) → (wp_X6_isIn σ4 p3 (0 : Int32) (2 : Int32) (fun r8 σ7 => (r8 = 0 → (Q (-1 : Int32) σ7)) ∧ (¬ (r8 = 0) → (wp_X6_plans σ7  (fun r11 σ10 => ((σ10 30 25) ≤ p2 → (Q (-1 : Int32) σ10)) ∧ (¬ ((σ10 30 25) ≤ p2) → (vp_in ((((24 : Int32) * p2) + ((3 : Int32) * p1)) + p3) 1224 ∧ (Q (σ10 45 (((((24 : Int32) * p2) + ((3 : Int32) * p1)) + p3)).toNatClampNeg) σ10)))))))))))))
set_option maxHeartbeats 4000000 in
set_option maxRecDepth 100000 in
theorem c_X6_there (l : Launch) (G : Gw) (σ : Sg) (p1 p2 p3 : Int32) (Q : Int32 → Sg → Prop) (hw : wp_X6_there σ p1 p2 p3 Q) : MetI l yX6_there wz_X6_there rm_X6_there G σ [.ref (G.1 30), .int p1, .int p2, .int p3] Q := by
  refine MetI.of cX6_there 5 (some .int) (by decide) rfl (Nat.le_of_ble_eq_true rfl) ?_
  intro p e s m below meth c X hk ls hl
  have X : KC p m meth c cX6_there 5 s _ wz_X6_there RX6 (some .int) G := X
  have hl : lv_has ls 5 [(0, .ref (G.1 30)), (1, .int p1), (2, .int p2), (3, .int p3)] := hl
  unfold wp_X6_there at hw
  have hx := X.1.1
  have hb := X.1.2.1
  refine lv_aload_n hx hb dX6_there_0 rfl (lv_at hl 0 rfl) ?_
  refine lv_iconst (v := (0 : Int32)) hx hb dX6_there_1 (by decide) ?_
  refine k_put 0 X hk (wg_30 G _) rfl (hz_wsX60 _) tyX6_ok nmX6 (Nat.le_of_ble_eq_true rfl) (List.mem_cons_of_mem _ (aw_r6 _ (List.mem_of_getElem? (i := 3) rfl))) rfl rfl (Nat.le_of_ble_eq_true rfl) (ws_30_0 G _ _) dX6_there_2 (fun H locs hk => ?_)
  refine lv_aload_n hx hb dX6_there_5 rfl (lv_at hl 0 rfl) ?_
  refine lv_iload_n hx hb dX6_there_6 rfl (lv_at hl 1 rfl) ?_
  refine k_callVi (rest := []) X hk (c_X6_isPlace l G _ _ _ hw) (cwV 1 X.1.2.2.2.2 (gzV (aw_r20 _ (List.mem_of_getElem? (i := 0) rfl)) (aw_r20 _ (List.mem_of_getElem? (i := 1) rfl)) (aw_r20 _ (List.mem_of_getElem? (i := 2) rfl)) (aw_r1 _ (List.mem_of_getElem? (i := 5) rfl)) (aw_r20 _ (List.mem_of_getElem? (i := 3) rfl))) rfl rfl rfl hd_X6_isPlace ⟨(Nat.le_of_ble_eq_true rfl), (Nat.le_of_ble_eq_true rfl)⟩) (wg_30 G _) rfl rfl hl.1 rfl (Nat.le_of_ble_eq_true rfl) dX6_there_7 ⟨Nat.zero_le _, Nat.zero_le _⟩ (fun r2 σ1 H locs hw hk => ?_)
  refine lv_if_eq (tgt := 32) hx hb dX6_there_10 (by decide) (fun c3 => ?_) (fun c3 => ?_)
  · replace hw := hw.1 c3
    refine lv_iconst (v := (-1 : Int32)) hx hb dX6_there_32 (by decide) ?_
    exact k_iret X hk hw dX6_there_33
  · replace hw := hw.2 c3
    refine lv_iload_n hx hb dX6_there_13 rfl (lv_at hl 2 rfl) ?_
    refine lv_iconst (v := (0 : Int32)) hx hb dX6_there_14 (by decide) ?_
    refine lv_bipush (v := (50 : Int32)) hx hb dX6_there_15 (by decide) ?_
    refine k_callSi (rest := []) X hk (c_X6_isIn l G _ _ _ _ _ hw) (va_cwS 3 X.1.2.2.2.2 (gzS (aw_r6 _ (List.mem_of_getElem? (i := 17) rfl)) (aw_r6 _ (List.mem_of_getElem? (i := 18) rfl)) (aw_r1 _ (List.mem_of_getElem? (i := 5) rfl)) (aw_r6 _ (List.mem_of_getElem? (i := 19) rfl))) rfl rfl rfl hds_X6_isIn ⟨(Nat.le_of_ble_eq_true rfl), (Nat.le_of_ble_eq_true rfl)⟩) rfl hl.1 rfl (Nat.le_of_ble_eq_true rfl) dX6_there_17 ⟨Nat.zero_le _, Nat.zero_le _⟩ (fun r5 σ4 H locs hw hk => ?_)
    refine lv_if_eq (tgt := 32) hx hb dX6_there_20 (by decide) (fun c6 => ?_) (fun c6 => ?_)
    · replace hw := hw.1 c6
      refine lv_iconst (v := (-1 : Int32)) hx hb dX6_there_32 (by decide) ?_
      exact k_iret X hk hw dX6_there_33
    · replace hw := hw.2 c6
      refine lv_iload_n hx hb dX6_there_23 rfl (lv_at hl 3 rfl) ?_
      refine lv_iconst (v := (0 : Int32)) hx hb dX6_there_24 (by decide) ?_
      refine lv_iconst (v := (2 : Int32)) hx hb dX6_there_25 (by decide) ?_
      refine k_callSi (rest := []) X hk (c_X6_isIn l G _ _ _ _ _ hw) (va_cwS 3 X.1.2.2.2.2 (gzS (aw_r6 _ (List.mem_of_getElem? (i := 17) rfl)) (aw_r6 _ (List.mem_of_getElem? (i := 18) rfl)) (aw_r1 _ (List.mem_of_getElem? (i := 5) rfl)) (aw_r6 _ (List.mem_of_getElem? (i := 19) rfl))) rfl rfl rfl hds_X6_isIn ⟨(Nat.le_of_ble_eq_true rfl), (Nat.le_of_ble_eq_true rfl)⟩) rfl hl.1 rfl (Nat.le_of_ble_eq_true rfl) dX6_there_26 ⟨Nat.zero_le _, Nat.zero_le _⟩ (fun r8 σ7 H locs hw hk => ?_)
      refine lv_if_ne (tgt := 34) hx hb dX6_there_29 (by decide) (fun c9 => ?_) (fun c9 => ?_)
      · replace hw := hw.2 c9
        refine lv_aload_n hx hb dX6_there_34 rfl (lv_at hl 0 rfl) ?_
        refine k_callVi (rest := []) X hk (c_X6_plans l G _  _ hw) (cwV 0 X.1.2.2.2.2 (gzV (aw_r43 _ (List.mem_of_getElem? (i := 10) rfl)) (aw_r43 _ (List.mem_of_getElem? (i := 11) rfl)) (aw_r43 _ (List.mem_of_getElem? (i := 12) rfl)) (aw_r1 _ (List.mem_of_getElem? (i := 5) rfl)) (aw_r43 _ (List.mem_of_getElem? (i := 13) rfl))) rfl rfl rfl hd_X6_plans ⟨(Nat.le_of_ble_eq_true rfl), (Nat.le_of_ble_eq_true rfl)⟩) (wg_30 G _) rfl rfl hl.1 rfl (Nat.le_of_ble_eq_true rfl) dX6_there_35 ⟨Nat.zero_le _, Nat.zero_le _⟩ (fun r11 σ10 H locs hw hk => ?_)
        refine lv_istore (lv' := [(4, .int r11), (0, .ref (G.1 30)), (1, .int p1), (2, .int p2), (3, .int p3)]) hx hb dX6_there_38 hl (Nat.le_of_ble_eq_true rfl) rfl (fun ls hl => ?_)
        refine lv_iload_n hx hb dX6_there_40 rfl (lv_at hl 3 rfl) ?_
        refine lv_aload_n hx hb dX6_there_41 rfl (lv_at hl 1 rfl) ?_
        refine k_get 25 X hk (wg_30 G _) rfl (hz_wsX60 _) (Nat.le_of_ble_eq_true rfl) (List.mem_cons_of_mem _ (aw_r43 _ (List.mem_of_getElem? (i := 20) rfl))) rfl dX6_there_42 ?_
        refine lv_icmp_ge (tgt := 66) hx hb dX6_there_45 (by decide) (fun c12 => ?_) (fun c12 => ?_)
        · replace hw := hw.1 c12
          refine lv_iconst (v := (-1 : Int32)) hx hb dX6_there_66 (by decide) ?_
          exact k_iret X hk hw dX6_there_67
        · replace hw := hw.2 c12
          refine lv_aload_n hx hb dX6_there_48 rfl (lv_at hl 1 rfl) ?_
          refine k_get 21 X hk (wg_30 G _) rfl (hz_wsX60 _) (Nat.le_of_ble_eq_true rfl) (List.mem_cons_of_mem _ (aw_r5 _ (List.mem_of_getElem? (i := 7) rfl))) rfl dX6_there_49 ?_
          refine lv_bipush (v := (24 : Int32)) hx hb dX6_there_52 (by decide) ?_
          refine lv_iload_n hx hb dX6_there_54 rfl (lv_at hl 3 rfl) ?_
          refine lv_imul hx hb dX6_there_55 ?_
          refine lv_iconst (v := (3 : Int32)) hx hb dX6_there_56 (by decide) ?_
          refine lv_iload_n hx hb dX6_there_57 rfl (lv_at hl 2 rfl) ?_
          refine lv_imul hx hb dX6_there_58 ?_
          refine lv_iadd hx hb dX6_there_59 ?_
          refine lv_iload_n hx hb dX6_there_60 rfl (lv_at hl 4 rfl) ?_
          refine lv_iadd hx hb dX6_there_61 ?_
          refine k_iald X hk (wg_45 G _) hw.1 dX6_there_62 ?_
          replace hw := hw.2
          refine lv_goto (tgt := 67) hx hb dX6_there_63 (by decide) ?_
          exact k_iret X hk hw dX6_there_67
      · replace hw := hw.1 c9
        refine lv_iconst (v := (-1 : Int32)) hx hb dX6_there_32 (by decide) ?_
        exact k_iret X hk hw dX6_there_33
