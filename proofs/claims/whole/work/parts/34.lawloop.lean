def wp_L_law_1375 (xs : Nat → Int32) (L : Nat) (K23 : Int32 → Sg → Prop) (x4 : Int32) (σ : Sg) : Prop := ∀ x4_8 : Int32, x4_8 = (x4 + (6 : Int32)) → (K23 x4_8 σ)
set_option maxHeartbeats 8000000 in
set_option maxRecDepth 100000 in
theorem t_L_law_1375 {p : Program} {l : Launch} {e : Env} {s : State} {m : MethodId} {below : List Frame} {meth : Method} {c : Code} {G : Gw} {b L : Nat} {xs : Nat → Int32} (C : LC p l s m meth c b L xs G) (n : Nat) (K23 : Int32 → Sg → Prop) (hK23 : ∀ (cells slots : Nat), cells + n ≤ 1073 → slots + 6 * n ≤ 38820 → ∀ (σ : Sg) (x4 : Int32) (H : Heap) (locs : List Loc) (ls : Array Slot), K23 x4 σ → WK G s H locs σ → lv_has ls 7 [(0, .ref b), (1, .ref (G.1 0)), (2, .ref (G.1 30)), (3, .ref (G.1 47)), (4, .int x4)] → W p l e room_1 s m #[Value.ref b] below meth c H locs cells slots (lw_Z below #[Value.ref b] s) (F0 m 23 ls [])) : ∀ (cells slots : Nat), cells + n + 1 ≤ 1073 → slots + 6 * n + 6 ≤ 38820 → ∀ (σ : Sg) (x4 : Int32) (H : Heap) (locs : List Loc) (ls : Array Slot), wp_L_law_1375 xs L K23 x4 σ → WK G s H locs σ → lv_has ls 7 [(0, .ref b), (1, .ref (G.1 0)), (2, .ref (G.1 30)), (3, .ref (G.1 47)), (4, .int x4)] → W p l e room_1 s m #[Value.ref b] below meth c H locs cells slots (lw_Z below #[Value.ref b] s) (F0 m 1375 ls []) := by
  obtain ⟨X, hX, hbl, hbA, hG, hst⟩ := C
  have C : LC p l s m meth c b L xs G := ⟨X, hX, hbl, hbA, hG, hst⟩
  have hx := X.1.1
  have hb := X.1.2.1
  intro cells slots hc1 hc2 σ x4 H locs ls hw hk hl
  unfold wp_L_law_1375 at hw
  obtain ⟨x4_8, ex4_8⟩ : ∃ y : Int32, y = (x4 + (6 : Int32)) := ⟨_, rfl⟩
  replace hw := hw x4_8 ex4_8
  refine lv_iinc (v := x4_8) (lv' := [(4, .int x4_8), (0, .ref b), (1, .ref (G.1 0)), (2, .ref (G.1 30)), (3, .ref (G.1 47))]) hx hb dL_law_1375 hl (k := 4) rfl (by rw [ex4_8]; rfl) (Nat.le_of_ble_eq_true rfl) rfl (fun ls hl => ?_)
  refine lv_goto (tgt := 23) hx hb dL_law_1378 (by decide) ?_
  exact hK23 cells slots (by omega) (by omega) _ _ _ _ _ hw hk (lv_sub hl [1, 2, 3, 4, 0] rfl)
def wp_L_law_604 (xs : Nat → Int32) (L : Nat) (K23 : Int32 → Sg → Prop) (x4 y0 y2 y3 y4 : Int32) (σ : Sg) : Prop := vp_in (x4 + (4 : Int32)) L ∧ (wp_X6_move σ y2 y3 y4 (xs ((x4 + (4 : Int32))).toNatClampNeg) (fun r63 σ62 => (y0 = r63 → (wp_L_law_1375 xs L K23 x4 σ62)) ∧ (¬ (y0 = r63) → (False))))
set_option maxHeartbeats 8000000 in
set_option maxRecDepth 100000 in
theorem t_L_law_604 {p : Program} {l : Launch} {e : Env} {s : State} {m : MethodId} {below : List Frame} {meth : Method} {c : Code} {G : Gw} {b L : Nat} {xs : Nat → Int32} (C : LC p l s m meth c b L xs G) (n : Nat) (K23 : Int32 → Sg → Prop) (hK23 : ∀ (cells slots : Nat), cells + n ≤ 1073 → slots + 6 * n ≤ 38820 → ∀ (σ : Sg) (x4 : Int32) (H : Heap) (locs : List Loc) (ls : Array Slot), K23 x4 σ → WK G s H locs σ → lv_has ls 7 [(0, .ref b), (1, .ref (G.1 0)), (2, .ref (G.1 30)), (3, .ref (G.1 47)), (4, .int x4)] → W p l e room_1 s m #[Value.ref b] below meth c H locs cells slots (lw_Z below #[Value.ref b] s) (F0 m 23 ls [])) : ∀ (cells slots : Nat), cells + n + 1 ≤ 1073 → slots + 6 * n + 6 ≤ 38820 → ∀ (σ : Sg) (x4 y0 y2 y3 y4 : Int32) (H : Heap) (locs : List Loc) (ls : Array Slot), wp_L_law_604 xs L K23 x4 y0 y2 y3 y4 σ → WK G s H locs σ → lv_has ls 7 [(0, .ref b), (1, .ref (G.1 0)), (2, .ref (G.1 30)), (3, .ref (G.1 47)), (4, .int x4)] → W p l e room_1 s m #[Value.ref b] below meth c H locs cells slots (lw_Z below #[Value.ref b] s) (F0 m 604 ls [.int y4, .int y3, .int y2, .ref (G.1 30), .int y0]) := by
  obtain ⟨X, hX, hbl, hbA, hG, hst⟩ := C
  have C : LC p l s m meth c b L xs G := ⟨X, hX, hbl, hbA, hG, hst⟩
  have hx := X.1.1
  have hb := X.1.2.1
  intro cells slots hc1 hc2 σ x4 y0 y2 y3 y4 H locs ls hw hk hl
  unfold wp_L_law_604 at hw
  refine lv_aload_n hx hb dL_law_604 rfl (lv_at hl 0 rfl) ?_
  refine lv_iload hx hb dL_law_605 (lv_at hl 4 rfl) ?_
  refine lv_iconst (v := (4 : Int32)) hx hb dL_law_607 (by decide) ?_
  refine lv_iadd hx hb dL_law_608 ?_
  refine va_sld hx hb hX hbl hbA hk.2.2.2 hw.1 dL_law_609 ?_
  replace hw := hw.2
  refine k_callVi (rest := [.int y0]) X hk (c_X6_move l G _ _ _ _ _ _ hw) (cwV 4 X.1.2.2.2.2 (gzV (aw_r22 _ (List.mem_of_getElem? (i := 16) rfl)) (aw_r22 _ (List.mem_of_getElem? (i := 17) rfl)) (aw_r22 _ (List.mem_of_getElem? (i := 18) rfl)) (aw_r1 _ (List.mem_of_getElem? (i := 5) rfl)) (aw_r22 _ (List.mem_of_getElem? (i := 19) rfl))) rfl rfl rfl hd_X6_move ⟨(Nat.le_of_ble_eq_true rfl), (Nat.le_of_ble_eq_true rfl)⟩) (wg_30 G _) rfl rfl hl.1 rfl (Nat.le_of_ble_eq_true rfl) dL_law_610 ⟨(by show cells ≤ 1073; omega), (by show slots ≤ 38820; omega)⟩ (fun r63 σ62 H locs hw hk => ?_)
  refine lv_icmp_eq (tgt := 1375) hx hb dL_law_613 (by decide) (fun c64 => ?_) (fun c64 => ?_)
  · replace hw := hw.1 c64
    exact t_L_law_1375 C n _ hK23 cells slots (by omega) (by omega) _ _ _ _ _ hw hk hl
  · replace hw := hw.2 c64
    refine lv_iconst (v := (0 : Int32)) hx hb dL_law_616 (by decide) ?_
    exact False.elim hw
def wp_L_law_568 (xs : Nat → Int32) (L : Nat) (K23 : Int32 → Sg → Prop) (x4 y1 y2 y3 : Int32) (σ : Sg) : Prop := vp_in (x4 + (4 : Int32)) L ∧ (wp_X5_move σ y1 y2 y3 (xs ((x4 + (4 : Int32))).toNatClampNeg) (fun r60 σ59 => vp_in (x4 + (1 : Int32)) L ∧ (vp_in (x4 + (2 : Int32)) L ∧ (vp_in (x4 + (3 : Int32)) L ∧ (((xs ((x4 + (3 : Int32))).toNatClampNeg) = 0 → (wp_L_law_604 xs L K23 x4 r60 (xs ((x4 + (1 : Int32))).toNatClampNeg) (xs ((x4 + (2 : Int32))).toNatClampNeg) (0 : Int32) σ59)) ∧ (¬ ((xs ((x4 + (3 : Int32))).toNatClampNeg) = 0) → (wp_L_law_604 xs L K23 x4 r60 (xs ((x4 + (1 : Int32))).toNatClampNeg) (xs ((x4 + (2 : Int32))).toNatClampNeg) (1 : Int32) σ59)))))))
set_option maxHeartbeats 8000000 in
set_option maxRecDepth 100000 in
theorem t_L_law_568 {p : Program} {l : Launch} {e : Env} {s : State} {m : MethodId} {below : List Frame} {meth : Method} {c : Code} {G : Gw} {b L : Nat} {xs : Nat → Int32} (C : LC p l s m meth c b L xs G) (n : Nat) (K23 : Int32 → Sg → Prop) (hK23 : ∀ (cells slots : Nat), cells + n ≤ 1073 → slots + 6 * n ≤ 38820 → ∀ (σ : Sg) (x4 : Int32) (H : Heap) (locs : List Loc) (ls : Array Slot), K23 x4 σ → WK G s H locs σ → lv_has ls 7 [(0, .ref b), (1, .ref (G.1 0)), (2, .ref (G.1 30)), (3, .ref (G.1 47)), (4, .int x4)] → W p l e room_1 s m #[Value.ref b] below meth c H locs cells slots (lw_Z below #[Value.ref b] s) (F0 m 23 ls [])) : ∀ (cells slots : Nat), cells + n + 1 ≤ 1073 → slots + 6 * n + 6 ≤ 38820 → ∀ (σ : Sg) (x4 y1 y2 y3 : Int32) (H : Heap) (locs : List Loc) (ls : Array Slot), wp_L_law_568 xs L K23 x4 y1 y2 y3 σ → WK G s H locs σ → lv_has ls 7 [(0, .ref b), (1, .ref (G.1 0)), (2, .ref (G.1 30)), (3, .ref (G.1 47)), (4, .int x4)] → W p l e room_1 s m #[Value.ref b] below meth c H locs cells slots (lw_Z below #[Value.ref b] s) (F0 m 568 ls [.int y3, .int y2, .int y1, .ref (G.1 0)]) := by
  obtain ⟨X, hX, hbl, hbA, hG, hst⟩ := C
  have C : LC p l s m meth c b L xs G := ⟨X, hX, hbl, hbA, hG, hst⟩
  have hx := X.1.1
  have hb := X.1.2.1
  intro cells slots hc1 hc2 σ x4 y1 y2 y3 H locs ls hw hk hl
  unfold wp_L_law_568 at hw
  refine lv_aload_n hx hb dL_law_568 rfl (lv_at hl 0 rfl) ?_
  refine lv_iload hx hb dL_law_569 (lv_at hl 4 rfl) ?_
  refine lv_iconst (v := (4 : Int32)) hx hb dL_law_571 (by decide) ?_
  refine lv_iadd hx hb dL_law_572 ?_
  refine va_sld hx hb hX hbl hbA hk.2.2.2 hw.1 dL_law_573 ?_
  replace hw := hw.2
  refine k_callVi (rest := []) X hk (c_X5_move l G _ _ _ _ _ _ hw) (cwV 4 X.1.2.2.2.2 (gzV (aw_r22 _ (List.mem_of_getElem? (i := 9) rfl)) (aw_r22 _ (List.mem_of_getElem? (i := 10) rfl)) (aw_r22 _ (List.mem_of_getElem? (i := 11) rfl)) (aw_r1 _ (List.mem_of_getElem? (i := 2) rfl)) (aw_r22 _ (List.mem_of_getElem? (i := 12) rfl))) rfl rfl rfl hd_X5_move ⟨(Nat.le_of_ble_eq_true rfl), (Nat.le_of_ble_eq_true rfl)⟩) (wg_0 G _) rfl rfl hl.1 rfl (Nat.le_of_ble_eq_true rfl) dL_law_574 ⟨(by show cells ≤ 1073; omega), (by show slots ≤ 38820; omega)⟩ (fun r60 σ59 H locs hw hk => ?_)
  refine lv_aload_n hx hb dL_law_577 rfl (lv_at hl 2 rfl) ?_
  refine lv_aload_n hx hb dL_law_578 rfl (lv_at hl 0 rfl) ?_
  refine lv_iload hx hb dL_law_579 (lv_at hl 4 rfl) ?_
  refine lv_iconst (v := (1 : Int32)) hx hb dL_law_581 (by decide) ?_
  refine lv_iadd hx hb dL_law_582 ?_
  refine va_sld hx hb hX hbl hbA hk.2.2.2 hw.1 dL_law_583 ?_
  replace hw := hw.2
  refine lv_aload_n hx hb dL_law_584 rfl (lv_at hl 0 rfl) ?_
  refine lv_iload hx hb dL_law_585 (lv_at hl 4 rfl) ?_
  refine lv_iconst (v := (2 : Int32)) hx hb dL_law_587 (by decide) ?_
  refine lv_iadd hx hb dL_law_588 ?_
  refine va_sld hx hb hX hbl hbA hk.2.2.2 hw.1 dL_law_589 ?_
  replace hw := hw.2
  refine lv_aload_n hx hb dL_law_590 rfl (lv_at hl 0 rfl) ?_
  refine lv_iload hx hb dL_law_591 (lv_at hl 4 rfl) ?_
  refine lv_iconst (v := (3 : Int32)) hx hb dL_law_593 (by decide) ?_
  refine lv_iadd hx hb dL_law_594 ?_
  refine va_sld hx hb hX hbl hbA hk.2.2.2 hw.1 dL_law_595 ?_
  replace hw := hw.2
  refine lv_if_eq (tgt := 603) hx hb dL_law_596 (by decide) (fun c61 => ?_) (fun c61 => ?_)
  · replace hw := hw.1 c61
    refine lv_iconst (v := (0 : Int32)) hx hb dL_law_603 (by decide) ?_
    exact t_L_law_604 C n _ hK23 cells slots (by omega) (by omega) _ _ _ _ _ _ _ _ _ hw hk hl
  · replace hw := hw.2 c61
    refine lv_iconst (v := (1 : Int32)) hx hb dL_law_599 (by decide) ?_
    refine lv_goto (tgt := 604) hx hb dL_law_600 (by decide) ?_
    exact t_L_law_604 C n _ hK23 cells slots (by omega) (by omega) _ _ _ _ _ _ _ _ _ hw hk hl
def wp_L_law_973 (xs : Nat → Int32) (L : Nat) (K23 : Int32 → Sg → Prop) (x4 y0 y2 y3 : Int32) (σ : Sg) : Prop := vp_in (x4 + (3 : Int32)) L ∧ (wp_X6_wider σ y2 y3 (xs ((x4 + (3 : Int32))).toNatClampNeg) (fun r131 σ130 => (y0 = r131 → (wp_L_law_1375 xs L K23 x4 σ130)) ∧ (¬ (y0 = r131) → (False))))
set_option maxHeartbeats 8000000 in
set_option maxRecDepth 100000 in
theorem t_L_law_973 {p : Program} {l : Launch} {e : Env} {s : State} {m : MethodId} {below : List Frame} {meth : Method} {c : Code} {G : Gw} {b L : Nat} {xs : Nat → Int32} (C : LC p l s m meth c b L xs G) (n : Nat) (K23 : Int32 → Sg → Prop) (hK23 : ∀ (cells slots : Nat), cells + n ≤ 1073 → slots + 6 * n ≤ 38820 → ∀ (σ : Sg) (x4 : Int32) (H : Heap) (locs : List Loc) (ls : Array Slot), K23 x4 σ → WK G s H locs σ → lv_has ls 7 [(0, .ref b), (1, .ref (G.1 0)), (2, .ref (G.1 30)), (3, .ref (G.1 47)), (4, .int x4)] → W p l e room_1 s m #[Value.ref b] below meth c H locs cells slots (lw_Z below #[Value.ref b] s) (F0 m 23 ls [])) : ∀ (cells slots : Nat), cells + n + 1 ≤ 1073 → slots + 6 * n + 6 ≤ 38820 → ∀ (σ : Sg) (x4 y0 y2 y3 : Int32) (H : Heap) (locs : List Loc) (ls : Array Slot), wp_L_law_973 xs L K23 x4 y0 y2 y3 σ → WK G s H locs σ → lv_has ls 7 [(0, .ref b), (1, .ref (G.1 0)), (2, .ref (G.1 30)), (3, .ref (G.1 47)), (4, .int x4)] → W p l e room_1 s m #[Value.ref b] below meth c H locs cells slots (lw_Z below #[Value.ref b] s) (F0 m 973 ls [.int y3, .int y2, .ref (G.1 30), .int y0]) := by
  obtain ⟨X, hX, hbl, hbA, hG, hst⟩ := C
  have C : LC p l s m meth c b L xs G := ⟨X, hX, hbl, hbA, hG, hst⟩
  have hx := X.1.1
  have hb := X.1.2.1
  intro cells slots hc1 hc2 σ x4 y0 y2 y3 H locs ls hw hk hl
  unfold wp_L_law_973 at hw
  refine lv_aload_n hx hb dL_law_973 rfl (lv_at hl 0 rfl) ?_
  refine lv_iload hx hb dL_law_974 (lv_at hl 4 rfl) ?_
  refine lv_iconst (v := (3 : Int32)) hx hb dL_law_976 (by decide) ?_
  refine lv_iadd hx hb dL_law_977 ?_
  refine va_sld hx hb hX hbl hbA hk.2.2.2 hw.1 dL_law_978 ?_
  replace hw := hw.2
  refine k_callVi (rest := [.int y0]) X hk (c_X6_wider l G _ _ _ _ _ hw) (cwV 3 X.1.2.2.2.2 (gzV (aw_r33 _ (List.mem_of_getElem? (i := 21) rfl)) (aw_r33 _ (List.mem_of_getElem? (i := 22) rfl)) (aw_r33 _ (List.mem_of_getElem? (i := 23) rfl)) (aw_r1 _ (List.mem_of_getElem? (i := 5) rfl)) (aw_r34 _ (List.mem_of_getElem? (i := 0) rfl))) rfl rfl rfl hd_X6_wider ⟨(Nat.le_of_ble_eq_true rfl), (Nat.le_of_ble_eq_true rfl)⟩) (wg_30 G _) rfl rfl hl.1 rfl (Nat.le_of_ble_eq_true rfl) dL_law_979 ⟨(by show cells ≤ 1073; omega), (by show slots ≤ 38820; omega)⟩ (fun r131 σ130 H locs hw hk => ?_)
  refine lv_icmp_eq (tgt := 1375) hx hb dL_law_982 (by decide) (fun c132 => ?_) (fun c132 => ?_)
  · replace hw := hw.1 c132
    exact t_L_law_1375 C n _ hK23 cells slots (by omega) (by omega) _ _ _ _ _ hw hk hl
  · replace hw := hw.2 c132
    refine lv_iconst (v := (0 : Int32)) hx hb dL_law_985 (by decide) ?_
    exact False.elim hw
def wp_L_law_943 (xs : Nat → Int32) (L : Nat) (K23 : Int32 → Sg → Prop) (x4 y1 y2 : Int32) (σ : Sg) : Prop := vp_in (x4 + (3 : Int32)) L ∧ (wp_X5_wider σ y1 y2 (xs ((x4 + (3 : Int32))).toNatClampNeg) (fun r128 σ127 => vp_in (x4 + (1 : Int32)) L ∧ (vp_in (x4 + (2 : Int32)) L ∧ (((xs ((x4 + (2 : Int32))).toNatClampNeg) = 0 → (wp_L_law_973 xs L K23 x4 r128 (xs ((x4 + (1 : Int32))).toNatClampNeg) (0 : Int32) σ127)) ∧ (¬ ((xs ((x4 + (2 : Int32))).toNatClampNeg) = 0) → (wp_L_law_973 xs L K23 x4 r128 (xs ((x4 + (1 : Int32))).toNatClampNeg) (1 : Int32) σ127))))))
set_option maxHeartbeats 8000000 in
set_option maxRecDepth 100000 in
theorem t_L_law_943 {p : Program} {l : Launch} {e : Env} {s : State} {m : MethodId} {below : List Frame} {meth : Method} {c : Code} {G : Gw} {b L : Nat} {xs : Nat → Int32} (C : LC p l s m meth c b L xs G) (n : Nat) (K23 : Int32 → Sg → Prop) (hK23 : ∀ (cells slots : Nat), cells + n ≤ 1073 → slots + 6 * n ≤ 38820 → ∀ (σ : Sg) (x4 : Int32) (H : Heap) (locs : List Loc) (ls : Array Slot), K23 x4 σ → WK G s H locs σ → lv_has ls 7 [(0, .ref b), (1, .ref (G.1 0)), (2, .ref (G.1 30)), (3, .ref (G.1 47)), (4, .int x4)] → W p l e room_1 s m #[Value.ref b] below meth c H locs cells slots (lw_Z below #[Value.ref b] s) (F0 m 23 ls [])) : ∀ (cells slots : Nat), cells + n + 1 ≤ 1073 → slots + 6 * n + 6 ≤ 38820 → ∀ (σ : Sg) (x4 y1 y2 : Int32) (H : Heap) (locs : List Loc) (ls : Array Slot), wp_L_law_943 xs L K23 x4 y1 y2 σ → WK G s H locs σ → lv_has ls 7 [(0, .ref b), (1, .ref (G.1 0)), (2, .ref (G.1 30)), (3, .ref (G.1 47)), (4, .int x4)] → W p l e room_1 s m #[Value.ref b] below meth c H locs cells slots (lw_Z below #[Value.ref b] s) (F0 m 943 ls [.int y2, .int y1, .ref (G.1 0)]) := by
  obtain ⟨X, hX, hbl, hbA, hG, hst⟩ := C
  have C : LC p l s m meth c b L xs G := ⟨X, hX, hbl, hbA, hG, hst⟩
  have hx := X.1.1
  have hb := X.1.2.1
  intro cells slots hc1 hc2 σ x4 y1 y2 H locs ls hw hk hl
  unfold wp_L_law_943 at hw
  refine lv_aload_n hx hb dL_law_943 rfl (lv_at hl 0 rfl) ?_
  refine lv_iload hx hb dL_law_944 (lv_at hl 4 rfl) ?_
  refine lv_iconst (v := (3 : Int32)) hx hb dL_law_946 (by decide) ?_
  refine lv_iadd hx hb dL_law_947 ?_
  refine va_sld hx hb hX hbl hbA hk.2.2.2 hw.1 dL_law_948 ?_
  replace hw := hw.2
  refine k_callVi (rest := []) X hk (c_X5_wider l G _ _ _ _ _ hw) (cwV 3 X.1.2.2.2.2 (gzV (aw_r33 _ (List.mem_of_getElem? (i := 14) rfl)) (aw_r33 _ (List.mem_of_getElem? (i := 15) rfl)) (aw_r33 _ (List.mem_of_getElem? (i := 16) rfl)) (aw_r1 _ (List.mem_of_getElem? (i := 2) rfl)) (aw_r33 _ (List.mem_of_getElem? (i := 17) rfl))) rfl rfl rfl hd_X5_wider ⟨(Nat.le_of_ble_eq_true rfl), (Nat.le_of_ble_eq_true rfl)⟩) (wg_0 G _) rfl rfl hl.1 rfl (Nat.le_of_ble_eq_true rfl) dL_law_949 ⟨(by show cells ≤ 1073; omega), (by show slots ≤ 38820; omega)⟩ (fun r128 σ127 H locs hw hk => ?_)
  refine lv_aload_n hx hb dL_law_952 rfl (lv_at hl 2 rfl) ?_
  refine lv_aload_n hx hb dL_law_953 rfl (lv_at hl 0 rfl) ?_
  refine lv_iload hx hb dL_law_954 (lv_at hl 4 rfl) ?_
  refine lv_iconst (v := (1 : Int32)) hx hb dL_law_956 (by decide) ?_
  refine lv_iadd hx hb dL_law_957 ?_
  refine va_sld hx hb hX hbl hbA hk.2.2.2 hw.1 dL_law_958 ?_
  replace hw := hw.2
  refine lv_aload_n hx hb dL_law_959 rfl (lv_at hl 0 rfl) ?_
  refine lv_iload hx hb dL_law_960 (lv_at hl 4 rfl) ?_
  refine lv_iconst (v := (2 : Int32)) hx hb dL_law_962 (by decide) ?_
  refine lv_iadd hx hb dL_law_963 ?_
  refine va_sld hx hb hX hbl hbA hk.2.2.2 hw.1 dL_law_964 ?_
  replace hw := hw.2
  refine lv_if_eq (tgt := 972) hx hb dL_law_965 (by decide) (fun c129 => ?_) (fun c129 => ?_)
  · replace hw := hw.1 c129
    refine lv_iconst (v := (0 : Int32)) hx hb dL_law_972 (by decide) ?_
    exact t_L_law_973 C n _ hK23 cells slots (by omega) (by omega) _ _ _ _ _ _ _ _ hw hk hl
  · replace hw := hw.2 c129
    refine lv_iconst (v := (1 : Int32)) hx hb dL_law_968 (by decide) ?_
    refine lv_goto (tgt := 973) hx hb dL_law_969 (by decide) ?_
    exact t_L_law_973 C n _ hK23 cells slots (by omega) (by omega) _ _ _ _ _ _ _ _ hw hk hl
def wp_L_law_1243 (xs : Nat → Int32) (L : Nat) (K23 : Int32 → Sg → Prop) (x4 y0 y2 y3 y4 : Int32) (σ : Sg) : Prop := wp_X6_lacks σ y2 y3 y4 (fun r181 σ180 => (y0 = r181 → (wp_L_law_1375 xs L K23 x4 σ180)) ∧ (¬ (y0 = r181) → (False)))
set_option maxHeartbeats 8000000 in
set_option maxRecDepth 100000 in
theorem t_L_law_1243 {p : Program} {l : Launch} {e : Env} {s : State} {m : MethodId} {below : List Frame} {meth : Method} {c : Code} {G : Gw} {b L : Nat} {xs : Nat → Int32} (C : LC p l s m meth c b L xs G) (n : Nat) (K23 : Int32 → Sg → Prop) (hK23 : ∀ (cells slots : Nat), cells + n ≤ 1073 → slots + 6 * n ≤ 38820 → ∀ (σ : Sg) (x4 : Int32) (H : Heap) (locs : List Loc) (ls : Array Slot), K23 x4 σ → WK G s H locs σ → lv_has ls 7 [(0, .ref b), (1, .ref (G.1 0)), (2, .ref (G.1 30)), (3, .ref (G.1 47)), (4, .int x4)] → W p l e room_1 s m #[Value.ref b] below meth c H locs cells slots (lw_Z below #[Value.ref b] s) (F0 m 23 ls [])) : ∀ (cells slots : Nat), cells + n + 1 ≤ 1073 → slots + 6 * n + 6 ≤ 38820 → ∀ (σ : Sg) (x4 y0 y2 y3 y4 : Int32) (H : Heap) (locs : List Loc) (ls : Array Slot), wp_L_law_1243 xs L K23 x4 y0 y2 y3 y4 σ → WK G s H locs σ → lv_has ls 7 [(0, .ref b), (1, .ref (G.1 0)), (2, .ref (G.1 30)), (3, .ref (G.1 47)), (4, .int x4)] → W p l e room_1 s m #[Value.ref b] below meth c H locs cells slots (lw_Z below #[Value.ref b] s) (F0 m 1243 ls [.int y4, .int y3, .int y2, .ref (G.1 30), .int y0]) := by
  obtain ⟨X, hX, hbl, hbA, hG, hst⟩ := C
  have C : LC p l s m meth c b L xs G := ⟨X, hX, hbl, hbA, hG, hst⟩
  have hx := X.1.1
  have hb := X.1.2.1
  intro cells slots hc1 hc2 σ x4 y0 y2 y3 y4 H locs ls hw hk hl
  unfold wp_L_law_1243 at hw
  refine k_callVi (rest := [.int y0]) X hk (c_X6_lacks l G _ _ _ _ _ hw) (cwV 3 X.1.2.2.2.2 (gzV (aw_r40 _ (List.mem_of_getElem? (i := 11) rfl)) (aw_r40 _ (List.mem_of_getElem? (i := 12) rfl)) (aw_r40 _ (List.mem_of_getElem? (i := 13) rfl)) (aw_r1 _ (List.mem_of_getElem? (i := 5) rfl)) (aw_r40 _ (List.mem_of_getElem? (i := 14) rfl))) rfl rfl rfl hd_X6_lacks ⟨(Nat.le_of_ble_eq_true rfl), (Nat.le_of_ble_eq_true rfl)⟩) (wg_30 G _) rfl rfl hl.1 rfl (Nat.le_of_ble_eq_true rfl) dL_law_1243 ⟨(by show cells ≤ 1073; omega), (by show slots ≤ 38820; omega)⟩ (fun r181 σ180 H locs hw hk => ?_)
  refine lv_icmp_eq (tgt := 1375) hx hb dL_law_1246 (by decide) (fun c182 => ?_) (fun c182 => ?_)
  · replace hw := hw.1 c182
    exact t_L_law_1375 C n _ hK23 cells slots (by omega) (by omega) _ _ _ _ _ hw hk hl
  · replace hw := hw.2 c182
    refine lv_iconst (v := (0 : Int32)) hx hb dL_law_1249 (by decide) ?_
    exact False.elim hw
def wp_L_law_1213 (xs : Nat → Int32) (L : Nat) (K23 : Int32 → Sg → Prop) (x4 y1 y2 y3 : Int32) (σ : Sg) : Prop := wp_X5_lacks σ y1 y2 y3 (fun r178 σ177 => vp_in (x4 + (1 : Int32)) L ∧ (vp_in (x4 + (2 : Int32)) L ∧ (vp_in (x4 + (3 : Int32)) L ∧ (((xs ((x4 + (3 : Int32))).toNatClampNeg) = 0 → (wp_L_law_1243 xs L K23 x4 r178 (xs ((x4 + (1 : Int32))).toNatClampNeg) (xs ((x4 + (2 : Int32))).toNatClampNeg) (0 : Int32) σ177)) ∧ (¬ ((xs ((x4 + (3 : Int32))).toNatClampNeg) = 0) → (wp_L_law_1243 xs L K23 x4 r178 (xs ((x4 + (1 : Int32))).toNatClampNeg) (xs ((x4 + (2 : Int32))).toNatClampNeg) (1 : Int32) σ177))))))
set_option maxHeartbeats 8000000 in
set_option maxRecDepth 100000 in
theorem t_L_law_1213 {p : Program} {l : Launch} {e : Env} {s : State} {m : MethodId} {below : List Frame} {meth : Method} {c : Code} {G : Gw} {b L : Nat} {xs : Nat → Int32} (C : LC p l s m meth c b L xs G) (n : Nat) (K23 : Int32 → Sg → Prop) (hK23 : ∀ (cells slots : Nat), cells + n ≤ 1073 → slots + 6 * n ≤ 38820 → ∀ (σ : Sg) (x4 : Int32) (H : Heap) (locs : List Loc) (ls : Array Slot), K23 x4 σ → WK G s H locs σ → lv_has ls 7 [(0, .ref b), (1, .ref (G.1 0)), (2, .ref (G.1 30)), (3, .ref (G.1 47)), (4, .int x4)] → W p l e room_1 s m #[Value.ref b] below meth c H locs cells slots (lw_Z below #[Value.ref b] s) (F0 m 23 ls [])) : ∀ (cells slots : Nat), cells + n + 1 ≤ 1073 → slots + 6 * n + 6 ≤ 38820 → ∀ (σ : Sg) (x4 y1 y2 y3 : Int32) (H : Heap) (locs : List Loc) (ls : Array Slot), wp_L_law_1213 xs L K23 x4 y1 y2 y3 σ → WK G s H locs σ → lv_has ls 7 [(0, .ref b), (1, .ref (G.1 0)), (2, .ref (G.1 30)), (3, .ref (G.1 47)), (4, .int x4)] → W p l e room_1 s m #[Value.ref b] below meth c H locs cells slots (lw_Z below #[Value.ref b] s) (F0 m 1213 ls [.int y3, .int y2, .int y1, .ref (G.1 0)]) := by
  obtain ⟨X, hX, hbl, hbA, hG, hst⟩ := C
  have C : LC p l s m meth c b L xs G := ⟨X, hX, hbl, hbA, hG, hst⟩
  have hx := X.1.1
  have hb := X.1.2.1
  intro cells slots hc1 hc2 σ x4 y1 y2 y3 H locs ls hw hk hl
  unfold wp_L_law_1213 at hw
  refine k_callVi (rest := []) X hk (c_X5_lacks l G _ _ _ _ _ hw) (cwV 3 X.1.2.2.2.2 (gzV (aw_r40 _ (List.mem_of_getElem? (i := 3) rfl)) (aw_r40 _ (List.mem_of_getElem? (i := 4) rfl)) (aw_r40 _ (List.mem_of_getElem? (i := 5) rfl)) (aw_r1 _ (List.mem_of_getElem? (i := 2) rfl)) (aw_r40 _ (List.mem_of_getElem? (i := 6) rfl))) rfl rfl rfl hd_X5_lacks ⟨(Nat.le_of_ble_eq_true rfl), (Nat.le_of_ble_eq_true rfl)⟩) (wg_0 G _) rfl rfl hl.1 rfl (Nat.le_of_ble_eq_true rfl) dL_law_1213 ⟨(by show cells ≤ 1073; omega), (by show slots ≤ 38820; omega)⟩ (fun r178 σ177 H locs hw hk => ?_)
  refine lv_aload_n hx hb dL_law_1216 rfl (lv_at hl 2 rfl) ?_
  refine lv_aload_n hx hb dL_law_1217 rfl (lv_at hl 0 rfl) ?_
  refine lv_iload hx hb dL_law_1218 (lv_at hl 4 rfl) ?_
  refine lv_iconst (v := (1 : Int32)) hx hb dL_law_1220 (by decide) ?_
  refine lv_iadd hx hb dL_law_1221 ?_
  refine va_sld hx hb hX hbl hbA hk.2.2.2 hw.1 dL_law_1222 ?_
  replace hw := hw.2
  refine lv_aload_n hx hb dL_law_1223 rfl (lv_at hl 0 rfl) ?_
  refine lv_iload hx hb dL_law_1224 (lv_at hl 4 rfl) ?_
  refine lv_iconst (v := (2 : Int32)) hx hb dL_law_1226 (by decide) ?_
  refine lv_iadd hx hb dL_law_1227 ?_
  refine va_sld hx hb hX hbl hbA hk.2.2.2 hw.1 dL_law_1228 ?_
  replace hw := hw.2
  refine lv_aload_n hx hb dL_law_1229 rfl (lv_at hl 0 rfl) ?_
  refine lv_iload hx hb dL_law_1230 (lv_at hl 4 rfl) ?_
  refine lv_iconst (v := (3 : Int32)) hx hb dL_law_1232 (by decide) ?_
  refine lv_iadd hx hb dL_law_1233 ?_
  refine va_sld hx hb hX hbl hbA hk.2.2.2 hw.1 dL_law_1234 ?_
  replace hw := hw.2
  refine lv_if_eq (tgt := 1242) hx hb dL_law_1235 (by decide) (fun c179 => ?_) (fun c179 => ?_)
  · replace hw := hw.1 c179
    refine lv_iconst (v := (0 : Int32)) hx hb dL_law_1242 (by decide) ?_
    exact t_L_law_1243 C n _ hK23 cells slots (by omega) (by omega) _ _ _ _ _ _ _ _ _ hw hk hl
  · replace hw := hw.2 c179
    refine lv_iconst (v := (1 : Int32)) hx hb dL_law_1238 (by decide) ?_
    refine lv_goto (tgt := 1243) hx hb dL_law_1239 (by decide) ?_
    exact t_L_law_1243 C n _ hK23 cells slots (by omega) (by omega) _ _ _ _ _ _ _ _ _ hw hk hl
def wp_L_law_23 (xs : Nat → Int32) (L : Nat) : Nat → Int32 → Sg → Prop
  | 0, _, _ => False
  | n + 1, x4, σ => (((nI L) - (6 : Int32)) < x4 → (True)) ∧ (¬ (((nI L) - (6 : Int32)) < x4) → (vp_in x4 L ∧ ((((xs (x4).toNatClampNeg) &&& (31 : Int32)) = (0 : Int32) → (vp_in (x4 + (1 : Int32)) L ∧ (vp_in (x4 + (2 : Int32)) L ∧ (vp_in (x4 + (3 : Int32)) L ∧ (vp_in (x4 + (4 : Int32)) L ∧ (vp_in (x4 + (5 : Int32)) L ∧ (wp_X5_feed σ (xs ((x4 + (1 : Int32))).toNatClampNeg) (xs ((x4 + (2 : Int32))).toNatClampNeg) (xs ((x4 + (3 : Int32))).toNatClampNeg) (xs ((x4 + (4 : Int32))).toNatClampNeg) (xs ((x4 + (5 : Int32))).toNatClampNeg) (fun r4 σ3 => vp_in (x4 + (1 : Int32)) L ∧ (vp_in (x4 + (2 : Int32)) L ∧ (vp_in (x4 + (3 : Int32)) L ∧ (vp_in (x4 + (4 : Int32)) L ∧ (vp_in (x4 + (5 : Int32)) L ∧ (wp_X6_feed σ3 (xs ((x4 + (1 : Int32))).toNatClampNeg) (xs ((x4 + (2 : Int32))).toNatClampNeg) (xs ((x4 + (3 : Int32))).toNatClampNeg) (xs ((x4 + (4 : Int32))).toNatClampNeg) (xs ((x4 + (5 : Int32))).toNatClampNeg) (fun r6 σ5 => (r4 = r6 → (wp_L_law_1375 xs L (fun z4 σ => wp_L_law_23 xs L n z4 σ) x4 σ5)) ∧ (¬ (r4 = r6) → (False)))))))))))))))) ∧ (((xs (x4).toNatClampNeg) &&& (31 : Int32)) = (1 : Int32) → (vp_in (x4 + (1 : Int32)) L ∧ (wp_X5_end σ (xs ((x4 + (1 : Int32))).toNatClampNeg) (fun r11 σ10 => vp_in (x4 + (1 : Int32)) L ∧ (wp_X6_end σ10 (xs ((x4 + (1 : Int32))).toNatClampNeg) (fun r13 σ12 => (r11 = r13 → (wp_L_law_1375 xs L (fun z4 σ => wp_L_law_23 xs L n z4 σ) x4 σ12)) ∧ (¬ (r11 = r13) → (False)))))))) ∧ (((xs (x4).toNatClampNeg) &&& (31 : Int32)) = (2 : Int32) → (wp_X5_tell σ  (fun r17 σ16 => wp_X6_tell σ16  (fun r19 σ18 => (r17 = r19 → (wp_L_law_1375 xs L (fun z4 σ => wp_L_law_23 xs L n z4 σ) x4 σ18)) ∧ (¬ (r17 = r19) → (False)))))) ∧ (((xs (x4).toNatClampNeg) &&& (31 : Int32)) = (3 : Int32) → (wp_X5_fault σ  (fun r23 σ22 => wp_X6_fault σ22  (fun r25 σ24 => (r23 = r25 → (wp_L_law_1375 xs L (fun z4 σ => wp_L_law_23 xs L n z4 σ) x4 σ24)) ∧ (¬ (r23 = r25) → (False)))))) ∧ (((xs (x4).toNatClampNeg) &&& (31 : Int32)) = (4 : Int32) → (vp_in (x4 + (1 : Int32)) L ∧ (vp_in (x4 + (2 : Int32)) L ∧ (vp_in (x4 + (3 : Int32)) L ∧ (vp_in (x4 + (4 : Int32)) L ∧ (wp_X5_place σ (xs ((x4 + (1 : Int32))).toNatClampNeg) (xs ((x4 + (2 : Int32))).toNatClampNeg) (xs ((x4 + (3 : Int32))).toNatClampNeg) (xs ((x4 + (4 : Int32))).toNatClampNeg) (fun r29 σ28 => vp_in (x4 + (1 : Int32)) L ∧ (vp_in (x4 + (2 : Int32)) L ∧ (vp_in (x4 + (3 : Int32)) L ∧ (vp_in (x4 + (4 : Int32)) L ∧ (wp_X6_place σ28 (xs ((x4 + (1 : Int32))).toNatClampNeg) (xs ((x4 + (2 : Int32))).toNatClampNeg) (xs ((x4 + (3 : Int32))).toNatClampNeg) (xs ((x4 + (4 : Int32))).toNatClampNeg) (fun r31 σ30 => (r29 = r31 → (wp_L_law_1375 xs L (fun z4 σ => wp_L_law_23 xs L n z4 σ) x4 σ30)) ∧ (¬ (r29 = r31) → (False)))))))))))))) ∧ (((xs (x4).toNatClampNeg) &&& (31 : Int32)) = (5 : Int32) → (vp_in (x4 + (1 : Int32)) L ∧ (vp_in (x4 + (2 : Int32)) L ∧ (vp_in (x4 + (3 : Int32)) L ∧ (vp_in (x4 + (4 : Int32)) L ∧ (vp_in (x4 + (5 : Int32)) L ∧ (wp_X5_road σ (xs ((x4 + (1 : Int32))).toNatClampNeg) (xs ((x4 + (2 : Int32))).toNatClampNeg) (xs ((x4 + (3 : Int32))).toNatClampNeg) (xs ((x4 + (4 : Int32))).toNatClampNeg) (xs ((x4 + (5 : Int32))).toNatClampNeg) (fun r35 σ34 => vp_in (x4 + (1 : Int32)) L ∧ (vp_in (x4 + (2 : Int32)) L ∧ (vp_in (x4 + (3 : Int32)) L ∧ (vp_in (x4 + (4 : Int32)) L ∧ (vp_in (x4 + (5 : Int32)) L ∧ (wp_X6_road σ34 (xs ((x4 + (1 : Int32))).toNatClampNeg) (xs ((x4 + (2 : Int32))).toNatClampNeg) (xs ((x4 + (3 : Int32))).toNatClampNeg) (xs ((x4 + (4 : Int32))).toNatClampNeg) (xs ((x4 + (5 : Int32))).toNatClampNeg) (fun r37 σ36 => (r35 = r37 → (wp_L_law_1375 xs L (fun z4 σ => wp_L_law_23 xs L n z4 σ) x4 σ36)) ∧ (¬ (r35 = r37) → (False)))))))))))))))) ∧ (((xs (x4).toNatClampNeg) &&& (31 : Int32)) = (6 : Int32) → (vp_in (x4 + (1 : Int32)) L ∧ (vp_in (x4 + (2 : Int32)) L ∧ (wp_X5_turn σ (xs ((x4 + (1 : Int32))).toNatClampNeg) (xs ((x4 + (2 : Int32))).toNatClampNeg) (fun r41 σ40 => vp_in (x4 + (1 : Int32)) L ∧ (vp_in (x4 + (2 : Int32)) L ∧ (wp_X6_turn σ40 (xs ((x4 + (1 : Int32))).toNatClampNeg) (xs ((x4 + (2 : Int32))).toNatClampNeg) (fun r43 σ42 => (r41 = r43 → (wp_L_law_1375 xs L (fun z4 σ => wp_L_law_23 xs L n z4 σ) x4 σ42)) ∧ (¬ (r41 = r43) → (False)))))))))) ∧ (((xs (x4).toNatClampNeg) &&& (31 : Int32)) = (7 : Int32) → (vp_in (x4 + (1 : Int32)) L ∧ (vp_in (x4 + (2 : Int32)) L ∧ (vp_in (x4 + (3 : Int32)) L ∧ (wp_X5_set σ (xs ((x4 + (1 : Int32))).toNatClampNeg) (xs ((x4 + (2 : Int32))).toNatClampNeg) (xs ((x4 + (3 : Int32))).toNatClampNeg) (fun r47 σ46 => vp_in (x4 + (1 : Int32)) L ∧ (vp_in (x4 + (2 : Int32)) L ∧ (vp_in (x4 + (3 : Int32)) L ∧ (wp_X6_set σ46 (xs ((x4 + (1 : Int32))).toNatClampNeg) (xs ((x4 + (2 : Int32))).toNatClampNeg) (xs ((x4 + (3 : Int32))).toNatClampNeg) (fun r49 σ48 => (r47 = r49 → (wp_L_law_1375 xs L (fun z4 σ => wp_L_law_23 xs L n z4 σ) x4 σ48)) ∧ (¬ (r47 = r49) → (False)))))))))))) ∧ (((xs (x4).toNatClampNeg) &&& (31 : Int32)) = (8 : Int32) → (wp_X5_drop σ  (fun r53 σ52 => wp_X6_drop σ52  (fun r55 σ54 => (r53 = r55 → (wp_L_law_1375 xs L (fun z4 σ => wp_L_law_23 xs L n z4 σ) x4 σ54)) ∧ (¬ (r53 = r55) → (False)))))) ∧ (((xs (x4).toNatClampNeg) &&& (31 : Int32)) = (9 : Int32) → (vp_in (x4 + (1 : Int32)) L ∧ (vp_in (x4 + (2 : Int32)) L ∧ (vp_in (x4 + (3 : Int32)) L ∧ (((xs ((x4 + (3 : Int32))).toNatClampNeg) = 0 → (wp_L_law_568 xs L (fun z4 σ => wp_L_law_23 xs L n z4 σ) x4 (xs ((x4 + (1 : Int32))).toNatClampNeg) (xs ((x4 + (2 : Int32))).toNatClampNeg) (0 : Int32) σ)) ∧ (¬ ((xs ((x4 + (3 : Int32))).toNatClampNeg) = 0) → (wp_L_law_568 xs L (fun z4 σ => wp_L_law_23 xs L n z4 σ) x4 (xs ((x4 + (1 : Int32))).toNatClampNeg) (xs ((x4 + (2 : Int32))).toNatClampNeg) (1 : Int32) σ))))))) ∧ (((xs (x4).toNatClampNeg) &&& (31 : Int32)) = (10 : Int32) → (vp_in (x4 + (1 : Int32)) L ∧ (wp_X5_back σ (xs ((x4 + (1 : Int32))).toNatClampNeg) (fun r67 σ66 => vp_in (x4 + (1 : Int32)) L ∧ (wp_X6_back σ66 (xs ((x4 + (1 : Int32))).toNatClampNeg) (fun r69 σ68 => (r67 = r69 → (wp_L_law_1375 xs L (fun z4 σ => wp_L_law_23 xs L n z4 σ) x4 σ68)) ∧ (¬ (r67 = r69) → (False)))))))) ∧ (((xs (x4).toNatClampNeg) &&& (31 : Int32)) = (11 : Int32) → (vp_in (x4 + (1 : Int32)) L ∧ (wp_X5_count σ (xs ((x4 + (1 : Int32))).toNatClampNeg) (fun r73 σ72 => vp_in (x4 + (1 : Int32)) L ∧ (wp_X6_count σ72 (xs ((x4 + (1 : Int32))).toNatClampNeg) (fun r75 σ74 => (r73 = r75 → (wp_L_law_1375 xs L (fun z4 σ => wp_L_law_23 xs L n z4 σ) x4 σ74)) ∧ (¬ (r73 = r75) → (False)))))))) ∧ (((xs (x4).toNatClampNeg) &&& (31 : Int32)) = (12 : Int32) → (vp_in (x4 + (1 : Int32)) L ∧ (vp_in (x4 + (2 : Int32)) L ∧ (wp_X5_of σ (xs ((x4 + (1 : Int32))).toNatClampNeg) (xs ((x4 + (2 : Int32))).toNatClampNeg) (fun r79 σ78 => vp_in (x4 + (1 : Int32)) L ∧ (vp_in (x4 + (2 : Int32)) L ∧ (wp_X6_of σ78 (xs ((x4 + (1 : Int32))).toNatClampNeg) (xs ((x4 + (2 : Int32))).toNatClampNeg) (fun r81 σ80 => (r79 = r81 → (wp_L_law_1375 xs L (fun z4 σ => wp_L_law_23 xs L n z4 σ) x4 σ80)) ∧ (¬ (r79 = r81) → (False)))))))))) ∧ (((xs (x4).toNatClampNeg) &&& (31 : Int32)) = (13 : Int32) → (vp_in (x4 + (1 : Int32)) L ∧ (vp_in (x4 + (2 : Int32)) L ∧ (wp_L_along σ (xs ((x4 + (1 : Int32))).toNatClampNeg) (xs ((x4 + (2 : Int32))).toNatClampNeg) (fun r85 σ84 => vp_in (x4 + (1 : Int32)) L ∧ (vp_in (x4 + (2 : Int32)) L ∧ (wp_X6_along σ84 (xs ((x4 + (1 : Int32))).toNatClampNeg) (xs ((x4 + (2 : Int32))).toNatClampNeg) (fun r87 σ86 => wp_X6_thrown σ86  (fun r89 σ88 => (r89 = r85 → ((r85 = 0 → (vp_in (0 : Int32) 1 ∧ (((lg_cmp ((σ88 47 ((0 : Int32)).toNatClampNeg).toInt64) (r87.toInt64)) = 0 → (∀ x4_94 : Int32, x4_94 = (x4 + (6 : Int32)) → (wp_L_law_23 xs L n x4_94 σ88))) ∧ (¬ ((lg_cmp ((σ88 47 ((0 : Int32)).toNatClampNeg).toInt64) (r87.toInt64)) = 0) → (False))))) ∧ (¬ (r85 = 0) → (∀ x4_92 : Int32, x4_92 = (x4 + (6 : Int32)) → (wp_L_law_23 xs L n x4_92 σ88))))) ∧ (¬ (r89 = r85) → (False))))))))))) ∧ (((xs (x4).toNatClampNeg) &&& (31 : Int32)) = (14 : Int32) → (vp_in (x4 + (1 : Int32)) L ∧ (wp_X5_safe σ (xs ((x4 + (1 : Int32))).toNatClampNeg) (fun r97 σ96 => vp_in (x4 + (1 : Int32)) L ∧ (wp_X6_safe σ96 (xs ((x4 + (1 : Int32))).toNatClampNeg) (fun r99 σ98 => (r97 = r99 → (wp_L_law_1375 xs L (fun z4 σ => wp_L_law_23 xs L n z4 σ) x4 σ98)) ∧ (¬ (r97 = r99) → (False)))))))) ∧ (((xs (x4).toNatClampNeg) &&& (31 : Int32)) = (15 : Int32) → (wp_X5_quickest σ  (fun r103 σ102 => wp_X6_quickest σ102  (fun r105 σ104 => (r103 = r105 → (wp_L_law_1375 xs L (fun z4 σ => wp_L_law_23 xs L n z4 σ) x4 σ104)) ∧ (¬ (r103 = r105) → (False)))))) ∧ (((xs (x4).toNatClampNeg) &&& (31 : Int32)) = (16 : Int32) → (vp_in (x4 + (1 : Int32)) L ∧ (vp_in (x4 + (2 : Int32)) L ∧ (vp_in (x4 + (3 : Int32)) L ∧ (wp_X5_open σ (xs ((x4 + (1 : Int32))).toNatClampNeg) (xs ((x4 + (2 : Int32))).toNatClampNeg) (xs ((x4 + (3 : Int32))).toNatClampNeg) (fun r109 σ108 => vp_in (x4 + (1 : Int32)) L ∧ (vp_in (x4 + (2 : Int32)) L ∧ (vp_in (x4 + (3 : Int32)) L ∧ (wp_X6_open σ108 (xs ((x4 + (1 : Int32))).toNatClampNeg) (xs ((x4 + (2 : Int32))).toNatClampNeg) (xs ((x4 + (3 : Int32))).toNatClampNeg) (fun r111 σ110 => (r109 = r111 → (wp_L_law_1375 xs L (fun z4 σ => wp_L_law_23 xs L n z4 σ) x4 σ110)) ∧ (¬ (r109 = r111) → (False)))))))))))) ∧ (((xs (x4).toNatClampNeg) &&& (31 : Int32)) = (17 : Int32) → (vp_in (x4 + (1 : Int32)) L ∧ (vp_in (x4 + (2 : Int32)) L ∧ (wp_X5_openings σ (xs ((x4 + (1 : Int32))).toNatClampNeg) (xs ((x4 + (2 : Int32))).toNatClampNeg) (fun r115 σ114 => vp_in (x4 + (1 : Int32)) L ∧ (vp_in (x4 + (2 : Int32)) L ∧ (wp_X6_openings σ114 (xs ((x4 + (1 : Int32))).toNatClampNeg) (xs ((x4 + (2 : Int32))).toNatClampNeg) (fun r117 σ116 => (r115 = r117 → (wp_L_law_1375 xs L (fun z4 σ => wp_L_law_23 xs L n z4 σ) x4 σ116)) ∧ (¬ (r115 = r117) → (False)))))))))) ∧ (((xs (x4).toNatClampNeg) &&& (31 : Int32)) = (18 : Int32) → (vp_in (x4 + (1 : Int32)) L ∧ (wp_X5_shut σ (xs ((x4 + (1 : Int32))).toNatClampNeg) (fun r121 σ120 => vp_in (x4 + (1 : Int32)) L ∧ (wp_X6_shut σ120 (xs ((x4 + (1 : Int32))).toNatClampNeg) (fun r123 σ122 => (r121 = r123 → (wp_L_law_1375 xs L (fun z4 σ => wp_L_law_23 xs L n z4 σ) x4 σ122)) ∧ (¬ (r121 = r123) → (False)))))))) ∧ (((xs (x4).toNatClampNeg) &&& (31 : Int32)) = (19 : Int32) → (vp_in (x4 + (1 : Int32)) L ∧ (vp_in (x4 + (2 : Int32)) L ∧ (((xs ((x4 + (2 : Int32))).toNatClampNeg) = 0 → (wp_L_law_943 xs L (fun z4 σ => wp_L_law_23 xs L n z4 σ) x4 (xs ((x4 + (1 : Int32))).toNatClampNeg) (0 : Int32) σ)) ∧ (¬ ((xs ((x4 + (2 : Int32))).toNatClampNeg) = 0) → (wp_L_law_943 xs L (fun z4 σ => wp_L_law_23 xs L n z4 σ) x4 (xs ((x4 + (1 : Int32))).toNatClampNeg) (1 : Int32) σ)))))) ∧ (((xs (x4).toNatClampNeg) &&& (31 : Int32)) = (20 : Int32) → (vp_in (x4 + (1 : Int32)) L ∧ (vp_in (x4 + (2 : Int32)) L ∧ (wp_X5_turned σ (xs ((x4 + (1 : Int32))).toNatClampNeg) (xs ((x4 + (2 : Int32))).toNatClampNeg) (fun r135 σ134 => vp_in (x4 + (1 : Int32)) L ∧ (vp_in (x4 + (2 : Int32)) L ∧ (wp_X6_turned σ134 (xs ((x4 + (1 : Int32))).toNatClampNeg) (xs ((x4 + (2 : Int32))).toNatClampNeg) (fun r137 σ136 => (r135 = r137 → (wp_L_law_1375 xs L (fun z4 σ => wp_L_law_23 xs L n z4 σ) x4 σ136)) ∧ (¬ (r135 = r137) → (False)))))))))) ∧ (((xs (x4).toNatClampNeg) &&& (31 : Int32)) = (21 : Int32) → (vp_in (x4 + (1 : Int32)) L ∧ (wp_X5_bestTurn σ (xs ((x4 + (1 : Int32))).toNatClampNeg) (fun r141 σ140 => vp_in (x4 + (1 : Int32)) L ∧ (wp_X6_bestTurn σ140 (xs ((x4 + (1 : Int32))).toNatClampNeg) (fun r143 σ142 => (r141 = r143 → (wp_L_law_1375 xs L (fun z4 σ => wp_L_law_23 xs L n z4 σ) x4 σ142)) ∧ (¬ (r141 = r143) → (False)))))))) ∧ (((xs (x4).toNatClampNeg) &&& (31 : Int32)) = (22 : Int32) → (vp_in (x4 + (1 : Int32)) L ∧ (vp_in (x4 + (2 : Int32)) L ∧ (wp_X5_turns σ (xs ((x4 + (1 : Int32))).toNatClampNeg) (xs ((x4 + (2 : Int32))).toNatClampNeg) (fun r147 σ146 => vp_in (x4 + (1 : Int32)) L ∧ (vp_in (x4 + (2 : Int32)) L ∧ (wp_X6_turns σ146 (xs ((x4 + (1 : Int32))).toNatClampNeg) (xs ((x4 + (2 : Int32))).toNatClampNeg) (fun r149 σ148 => (r147 = r149 → (wp_L_law_1375 xs L (fun z4 σ => wp_L_law_23 xs L n z4 σ) x4 σ148)) ∧ (¬ (r147 = r149) → (False)))))))))) ∧ (((xs (x4).toNatClampNeg) &&& (31 : Int32)) = (23 : Int32) → (vp_in (x4 + (1 : Int32)) L ∧ (vp_in (x4 + (2 : Int32)) L ∧ (wp_X5_roomy σ (xs ((x4 + (1 : Int32))).toNatClampNeg) (xs ((x4 + (2 : Int32))).toNatClampNeg) (fun r153 σ152 => vp_in (x4 + (1 : Int32)) L ∧ (vp_in (x4 + (2 : Int32)) L ∧ (wp_X6_roomy σ152 (xs ((x4 + (1 : Int32))).toNatClampNeg) (xs ((x4 + (2 : Int32))).toNatClampNeg) (fun r155 σ154 => (r153 = r155 → (wp_L_law_1375 xs L (fun z4 σ => wp_L_law_23 xs L n z4 σ) x4 σ154)) ∧ (¬ (r153 = r155) → (False)))))))))) ∧ (((xs (x4).toNatClampNeg) &&& (31 : Int32)) = (24 : Int32) → (vp_in (x4 + (1 : Int32)) L ∧ (wp_X5_best σ (xs ((x4 + (1 : Int32))).toNatClampNeg) (fun r159 σ158 => vp_in (x4 + (1 : Int32)) L ∧ (wp_X6_best σ158 (xs ((x4 + (1 : Int32))).toNatClampNeg) (fun r161 σ160 => (r159 = r161 → (wp_L_law_1375 xs L (fun z4 σ => wp_L_law_23 xs L n z4 σ) x4 σ160)) ∧ (¬ (r159 = r161) → (False)))))))) ∧ (((xs (x4).toNatClampNeg) &&& (31 : Int32)) = (25 : Int32) → (vp_in (x4 + (1 : Int32)) L ∧ (wp_X5_latest σ (xs ((x4 + (1 : Int32))).toNatClampNeg) (fun r165 σ164 => vp_in (x4 + (1 : Int32)) L ∧ (wp_X6_latest σ164 (xs ((x4 + (1 : Int32))).toNatClampNeg) (fun r167 σ166 => (r165 = r167 → (wp_L_law_1375 xs L (fun z4 σ => wp_L_law_23 xs L n z4 σ) x4 σ166)) ∧ (¬ (r165 = r167) → (False)))))))) ∧ (((xs (x4).toNatClampNeg) &&& (31 : Int32)) = (26 : Int32) → (wp_X5_worst σ  (fun r171 σ170 => wp_X6_worst σ170  (fun r173 σ172 => (r171 = r173 → (wp_L_law_1375 xs L (fun z4 σ => wp_L_law_23 xs L n z4 σ) x4 σ172)) ∧ (¬ (r171 = r173) → (False)))))) ∧ (((xs (x4).toNatClampNeg) &&& (31 : Int32)) = (27 : Int32) → (vp_in (x4 + (1 : Int32)) L ∧ (vp_in (x4 + (2 : Int32)) L ∧ (vp_in (x4 + (3 : Int32)) L ∧ (((xs ((x4 + (3 : Int32))).toNatClampNeg) = 0 → (wp_L_law_1213 xs L (fun z4 σ => wp_L_law_23 xs L n z4 σ) x4 (xs ((x4 + (1 : Int32))).toNatClampNeg) (xs ((x4 + (2 : Int32))).toNatClampNeg) (0 : Int32) σ)) ∧ (¬ ((xs ((x4 + (3 : Int32))).toNatClampNeg) = 0) → (wp_L_law_1213 xs L (fun z4 σ => wp_L_law_23 xs L n z4 σ) x4 (xs ((x4 + (1 : Int32))).toNatClampNeg) (xs ((x4 + (2 : Int32))).toNatClampNeg) (1 : Int32) σ))))))) ∧ (((xs (x4).toNatClampNeg) &&& (31 : Int32)) = (28 : Int32) → (vp_in (x4 + (1 : Int32)) L ∧ (vp_in (x4 + (2 : Int32)) L ∧ (wp_X5_moved σ (xs ((x4 + (1 : Int32))).toNatClampNeg) (xs ((x4 + (2 : Int32))).toNatClampNeg) (fun r185 σ184 => vp_in (x4 + (1 : Int32)) L ∧ (vp_in (x4 + (2 : Int32)) L ∧ (wp_X6_moved σ184 (xs ((x4 + (1 : Int32))).toNatClampNeg) (xs ((x4 + (2 : Int32))).toNatClampNeg) (fun r187 σ186 => (r185 = r187 → (wp_L_law_1375 xs L (fun z4 σ => wp_L_law_23 xs L n z4 σ) x4 σ186)) ∧ (¬ (r185 = r187) → (False)))))))))) ∧ (((xs (x4).toNatClampNeg) &&& (31 : Int32)) = (29 : Int32) → (wp_X5_wrong σ  (fun r191 σ190 => wp_X6_wrong σ190  (fun r193 σ192 => (r191 = r193 → (wp_L_law_1375 xs L (fun z4 σ => wp_L_law_23 xs L n z4 σ) x4 σ192)) ∧ (¬ (r191 = r193) → (False)))))) ∧ (((xs (x4).toNatClampNeg) &&& (31 : Int32)) = (30 : Int32) → (vp_in (x4 + (1 : Int32)) L ∧ (wp_X5_planned σ (xs ((x4 + (1 : Int32))).toNatClampNeg) (fun r197 σ196 => vp_in (x4 + (1 : Int32)) L ∧ (wp_X6_planned_ σ196 (xs ((x4 + (1 : Int32))).toNatClampNeg) (fun r199 σ198 => (r197 = r199 → (wp_L_law_1375 xs L (fun z4 σ => wp_L_law_23 xs L n z4 σ) x4 σ198)) ∧ (¬ (r197 = r199) → (False)))))))) ∧ (((xs (x4).toNatClampNeg) &&& (31 : Int32)) = (31 : Int32) → (vp_in (x4 + (1 : Int32)) L ∧ (vp_in (x4 + (2 : Int32)) L ∧ (vp_in (x4 + (3 : Int32)) L ∧ (wp_X5_there σ (xs ((x4 + (1 : Int32))).toNatClampNeg) (xs ((x4 + (2 : Int32))).toNatClampNeg) (xs ((x4 + (3 : Int32))).toNatClampNeg) (fun r203 σ202 => vp_in (x4 + (1 : Int32)) L ∧ (vp_in (x4 + (2 : Int32)) L ∧ (vp_in (x4 + (3 : Int32)) L ∧ (wp_X6_there σ202 (xs ((x4 + (1 : Int32))).toNatClampNeg) (xs ((x4 + (2 : Int32))).toNatClampNeg) (xs ((x4 + (3 : Int32))).toNatClampNeg) (fun r205 σ204 => (r203 = r205 → (wp_L_law_1375 xs L (fun z4 σ => wp_L_law_23 xs L n z4 σ) x4 σ204)) ∧ (¬ (r203 = r205) → (False)))))))))))) ∧ (¬ ((xs (x4).toNatClampNeg) &&& (31 : Int32)) = (0 : Int32) → ¬ ((xs (x4).toNatClampNeg) &&& (31 : Int32)) = (1 : Int32) → ¬ ((xs (x4).toNatClampNeg) &&& (31 : Int32)) = (2 : Int32) → ¬ ((xs (x4).toNatClampNeg) &&& (31 : Int32)) = (3 : Int32) → ¬ ((xs (x4).toNatClampNeg) &&& (31 : Int32)) = (4 : Int32) → ¬ ((xs (x4).toNatClampNeg) &&& (31 : Int32)) = (5 : Int32) → ¬ ((xs (x4).toNatClampNeg) &&& (31 : Int32)) = (6 : Int32) → ¬ ((xs (x4).toNatClampNeg) &&& (31 : Int32)) = (7 : Int32) → ¬ ((xs (x4).toNatClampNeg) &&& (31 : Int32)) = (8 : Int32) → ¬ ((xs (x4).toNatClampNeg) &&& (31 : Int32)) = (9 : Int32) → ¬ ((xs (x4).toNatClampNeg) &&& (31 : Int32)) = (10 : Int32) → ¬ ((xs (x4).toNatClampNeg) &&& (31 : Int32)) = (11 : Int32) → ¬ ((xs (x4).toNatClampNeg) &&& (31 : Int32)) = (12 : Int32) → ¬ ((xs (x4).toNatClampNeg) &&& (31 : Int32)) = (13 : Int32) → ¬ ((xs (x4).toNatClampNeg) &&& (31 : Int32)) = (14 : Int32) → ¬ ((xs (x4).toNatClampNeg) &&& (31 : Int32)) = (15 : Int32) → ¬ ((xs (x4).toNatClampNeg) &&& (31 : Int32)) = (16 : Int32) → ¬ ((xs (x4).toNatClampNeg) &&& (31 : Int32)) = (17 : Int32) → ¬ ((xs (x4).toNatClampNeg) &&& (31 : Int32)) = (18 : Int32) → ¬ ((xs (x4).toNatClampNeg) &&& (31 : Int32)) = (19 : Int32) → ¬ ((xs (x4).toNatClampNeg) &&& (31 : Int32)) = (20 : Int32) → ¬ ((xs (x4).toNatClampNeg) &&& (31 : Int32)) = (21 : Int32) → ¬ ((xs (x4).toNatClampNeg) &&& (31 : Int32)) = (22 : Int32) → ¬ ((xs (x4).toNatClampNeg) &&& (31 : Int32)) = (23 : Int32) → ¬ ((xs (x4).toNatClampNeg) &&& (31 : Int32)) = (24 : Int32) → ¬ ((xs (x4).toNatClampNeg) &&& (31 : Int32)) = (25 : Int32) → ¬ ((xs (x4).toNatClampNeg) &&& (31 : Int32)) = (26 : Int32) → ¬ ((xs (x4).toNatClampNeg) &&& (31 : Int32)) = (27 : Int32) → ¬ ((xs (x4).toNatClampNeg) &&& (31 : Int32)) = (28 : Int32) → ¬ ((xs (x4).toNatClampNeg) &&& (31 : Int32)) = (29 : Int32) → ¬ ((xs (x4).toNatClampNeg) &&& (31 : Int32)) = (30 : Int32) → ¬ ((xs (x4).toNatClampNeg) &&& (31 : Int32)) = (31 : Int32) → (wp_L_law_1375 xs L (fun z4 σ => wp_L_law_23 xs L n z4 σ) x4 σ)))))
set_option maxHeartbeats 8000000 in
set_option maxRecDepth 100000 in
theorem t_L_law_23 {p : Program} {l : Launch} {e : Env} {s : State} {m : MethodId} {below : List Frame} {meth : Method} {c : Code} {G : Gw} {b L : Nat} {xs : Nat → Int32} (C : LC p l s m meth c b L xs G)  : ∀ (n : Nat), ∀ (cells slots : Nat), cells + n ≤ 1073 → slots + 6 * n ≤ 38820 → ∀ (σ : Sg) (x4 : Int32) (H : Heap) (locs : List Loc) (ls : Array Slot), wp_L_law_23 xs L n x4 σ → WK G s H locs σ → lv_has ls 7 [(0, .ref b), (1, .ref (G.1 0)), (2, .ref (G.1 30)), (3, .ref (G.1 47)), (4, .int x4)] → W p l e room_1 s m #[Value.ref b] below meth c H locs cells slots (lw_Z below #[Value.ref b] s) (F0 m 23 ls []) := by
  obtain ⟨X, hX, hbl, hbA, hG, hst⟩ := C
  have C : LC p l s m meth c b L xs G := ⟨X, hX, hbl, hbA, hG, hst⟩
  have hx := X.1.1
  have hb := X.1.2.1
  intro n
  induction n with
  | zero =>
    intro cells slots hc1 hc2 σ x4 H locs ls hw hk hl
    exact False.elim hw
  | succ n ih =>
    intro cells slots hc1 hc2 σ x4 H locs ls hw hk hl
    rw [wp_L_law_23] at hw
    refine lv_iload hx hb dL_law_23 (lv_at hl 4 rfl) ?_
    refine lv_aload_n hx hb dL_law_25 rfl (lv_at hl 0 rfl) ?_
    refine va_slen hx hb hX hbl hbA hk.2.2.2 dL_law_26 ?_
    refine lv_bipush (v := (6 : Int32)) hx hb dL_law_27 (by decide) ?_
    refine lv_isub hx hb dL_law_29 ?_
    refine lv_icmp_gt (tgt := 1381) hx hb dL_law_30 (by decide) (fun c1 => ?_) (fun c1 => ?_)
    · replace hw := hw.1 c1
      refine lv_iconst (v := (1 : Int32)) hx hb dL_law_1381 (by decide) ?_
      refine va_forget (fun q hq => LC.out C (hk.2.2.2.2.2 q hq)) ?_
      refine W.widen (k := 1073) (n := 38820) (by omega) (by omega) ?_
      exact lw_ret hx hb X.2.1 X.2.2.1 dL_law_1382
    · replace hw := hw.2 c1
      refine lv_aload_n hx hb dL_law_33 rfl (lv_at hl 0 rfl) ?_
      refine lv_iload hx hb dL_law_34 (lv_at hl 4 rfl) ?_
      refine va_sld hx hb hX hbl hbA hk.2.2.2 hw.1 dL_law_36 ?_
      replace hw := hw.2
      refine lv_bipush (v := (31 : Int32)) hx hb dL_law_37 (by decide) ?_
      refine lv_iand hx hb dL_law_39 ?_
      by_cases c2 : ((xs (x4).toNatClampNeg) &&& (31 : Int32)) = (0 : Int32)
      · have ec2 : (((xs (x4).toNatClampNeg) &&& (31 : Int32))).toInt = 0 := by rw [c2]; rfl
        refine lv_tableIn (tgt := 184) hx hb dL_law_40 (by rw [ec2]; decide) (by rw [ec2]; decide) (by rw [ec2]; rfl) (by decide) ?_
        replace hw := hw.1 c2
        refine lv_aload_n hx hb dL_law_184 rfl (lv_at hl 1 rfl) ?_
        refine lv_aload_n hx hb dL_law_185 rfl (lv_at hl 0 rfl) ?_
        refine lv_iload hx hb dL_law_186 (lv_at hl 4 rfl) ?_
        refine lv_iconst (v := (1 : Int32)) hx hb dL_law_188 (by decide) ?_
        refine lv_iadd hx hb dL_law_189 ?_
        refine va_sld hx hb hX hbl hbA hk.2.2.2 hw.1 dL_law_190 ?_
        replace hw := hw.2
        refine lv_aload_n hx hb dL_law_191 rfl (lv_at hl 0 rfl) ?_
        refine lv_iload hx hb dL_law_192 (lv_at hl 4 rfl) ?_
        refine lv_iconst (v := (2 : Int32)) hx hb dL_law_194 (by decide) ?_
        refine lv_iadd hx hb dL_law_195 ?_
        refine va_sld hx hb hX hbl hbA hk.2.2.2 hw.1 dL_law_196 ?_
        replace hw := hw.2
        refine lv_aload_n hx hb dL_law_197 rfl (lv_at hl 0 rfl) ?_
        refine lv_iload hx hb dL_law_198 (lv_at hl 4 rfl) ?_
        refine lv_iconst (v := (3 : Int32)) hx hb dL_law_200 (by decide) ?_
        refine lv_iadd hx hb dL_law_201 ?_
        refine va_sld hx hb hX hbl hbA hk.2.2.2 hw.1 dL_law_202 ?_
        replace hw := hw.2
        refine lv_aload_n hx hb dL_law_203 rfl (lv_at hl 0 rfl) ?_
        refine lv_iload hx hb dL_law_204 (lv_at hl 4 rfl) ?_
        refine lv_iconst (v := (4 : Int32)) hx hb dL_law_206 (by decide) ?_
        refine lv_iadd hx hb dL_law_207 ?_
        refine va_sld hx hb hX hbl hbA hk.2.2.2 hw.1 dL_law_208 ?_
        replace hw := hw.2
        refine lv_aload_n hx hb dL_law_209 rfl (lv_at hl 0 rfl) ?_
        refine lv_iload hx hb dL_law_210 (lv_at hl 4 rfl) ?_
        refine lv_iconst (v := (5 : Int32)) hx hb dL_law_212 (by decide) ?_
        refine lv_iadd hx hb dL_law_213 ?_
        refine va_sld hx hb hX hbl hbA hk.2.2.2 hw.1 dL_law_214 ?_
        replace hw := hw.2
        refine k_callVi (rest := []) X hk (c_X5_feed l G _ _ _ _ _ _ _ hw) (cwV 5 X.1.2.2.2.2 (gzV (aw_r5 _ (List.mem_of_getElem? (i := 9) rfl)) (aw_r5 _ (List.mem_of_getElem? (i := 10) rfl)) (aw_r5 _ (List.mem_of_getElem? (i := 11) rfl)) (aw_r1 _ (List.mem_of_getElem? (i := 2) rfl)) (aw_r5 _ (List.mem_of_getElem? (i := 12) rfl))) rfl rfl rfl hd_X5_feed ⟨(Nat.le_of_ble_eq_true rfl), (Nat.le_of_ble_eq_true rfl)⟩) (wg_0 G _) rfl rfl hl.1 rfl (Nat.le_of_ble_eq_true rfl) dL_law_215 ⟨(by show cells ≤ 1073; omega), (by show slots ≤ 38820; omega)⟩ (fun r4 σ3 H locs hw hk => ?_)
        refine lv_aload_n hx hb dL_law_218 rfl (lv_at hl 2 rfl) ?_
        refine lv_aload_n hx hb dL_law_219 rfl (lv_at hl 0 rfl) ?_
        refine lv_iload hx hb dL_law_220 (lv_at hl 4 rfl) ?_
        refine lv_iconst (v := (1 : Int32)) hx hb dL_law_222 (by decide) ?_
        refine lv_iadd hx hb dL_law_223 ?_
        refine va_sld hx hb hX hbl hbA hk.2.2.2 hw.1 dL_law_224 ?_
        replace hw := hw.2
        refine lv_aload_n hx hb dL_law_225 rfl (lv_at hl 0 rfl) ?_
        refine lv_iload hx hb dL_law_226 (lv_at hl 4 rfl) ?_
        refine lv_iconst (v := (2 : Int32)) hx hb dL_law_228 (by decide) ?_
        refine lv_iadd hx hb dL_law_229 ?_
        refine va_sld hx hb hX hbl hbA hk.2.2.2 hw.1 dL_law_230 ?_
        replace hw := hw.2
        refine lv_aload_n hx hb dL_law_231 rfl (lv_at hl 0 rfl) ?_
        refine lv_iload hx hb dL_law_232 (lv_at hl 4 rfl) ?_
        refine lv_iconst (v := (3 : Int32)) hx hb dL_law_234 (by decide) ?_
        refine lv_iadd hx hb dL_law_235 ?_
        refine va_sld hx hb hX hbl hbA hk.2.2.2 hw.1 dL_law_236 ?_
        replace hw := hw.2
        refine lv_aload_n hx hb dL_law_237 rfl (lv_at hl 0 rfl) ?_
        refine lv_iload hx hb dL_law_238 (lv_at hl 4 rfl) ?_
        refine lv_iconst (v := (4 : Int32)) hx hb dL_law_240 (by decide) ?_
        refine lv_iadd hx hb dL_law_241 ?_
        refine va_sld hx hb hX hbl hbA hk.2.2.2 hw.1 dL_law_242 ?_
        replace hw := hw.2
        refine lv_aload_n hx hb dL_law_243 rfl (lv_at hl 0 rfl) ?_
        refine lv_iload hx hb dL_law_244 (lv_at hl 4 rfl) ?_
        refine lv_iconst (v := (5 : Int32)) hx hb dL_law_246 (by decide) ?_
        refine lv_iadd hx hb dL_law_247 ?_
        refine va_sld hx hb hX hbl hbA hk.2.2.2 hw.1 dL_law_248 ?_
        replace hw := hw.2
        refine k_callVi (rest := [.int r4]) X hk (c_X6_feed l G _ _ _ _ _ _ _ hw) (cwV 5 X.1.2.2.2.2 (gzV (aw_r5 _ (List.mem_of_getElem? (i := 23) rfl)) (aw_r6 _ (List.mem_of_getElem? (i := 0) rfl)) (aw_r6 _ (List.mem_of_getElem? (i := 1) rfl)) (aw_r1 _ (List.mem_of_getElem? (i := 5) rfl)) (aw_r6 _ (List.mem_of_getElem? (i := 2) rfl))) rfl rfl rfl hd_X6_feed ⟨(Nat.le_of_ble_eq_true rfl), (Nat.le_of_ble_eq_true rfl)⟩) (wg_30 G _) rfl rfl hl.1 rfl (Nat.le_of_ble_eq_true rfl) dL_law_249 ⟨(by show cells ≤ 1073; omega), (by show slots ≤ 38820; omega)⟩ (fun r6 σ5 H locs hw hk => ?_)
        refine lv_icmp_eq (tgt := 1375) hx hb dL_law_252 (by decide) (fun c7 => ?_) (fun c7 => ?_)
        · replace hw := hw.1 c7
          exact t_L_law_1375 C n _ ih cells slots (by omega) (by omega) _ _ _ _ _ hw hk hl
        · replace hw := hw.2 c7
          refine lv_iconst (v := (0 : Int32)) hx hb dL_law_255 (by decide) ?_
          exact False.elim hw
      replace hw := hw.2
      by_cases c9 : ((xs (x4).toNatClampNeg) &&& (31 : Int32)) = (1 : Int32)
      · have ec9 : (((xs (x4).toNatClampNeg) &&& (31 : Int32))).toInt = 1 := by rw [c9]; rfl
        refine lv_tableIn (tgt := 257) hx hb dL_law_40 (by rw [ec9]; decide) (by rw [ec9]; decide) (by rw [ec9]; rfl) (by decide) ?_
        replace hw := hw.1 c9
        refine lv_aload_n hx hb dL_law_257 rfl (lv_at hl 1 rfl) ?_
        refine lv_aload_n hx hb dL_law_258 rfl (lv_at hl 0 rfl) ?_
        refine lv_iload hx hb dL_law_259 (lv_at hl 4 rfl) ?_
        refine lv_iconst (v := (1 : Int32)) hx hb dL_law_261 (by decide) ?_
        refine lv_iadd hx hb dL_law_262 ?_
        refine va_sld hx hb hX hbl hbA hk.2.2.2 hw.1 dL_law_263 ?_
        replace hw := hw.2
        refine k_callVi (rest := []) X hk (c_X5_end l G _ _ _ hw) (cwV 1 X.1.2.2.2.2 (gzV (aw_r6 _ (List.mem_of_getElem? (i := 9) rfl)) (aw_r6 _ (List.mem_of_getElem? (i := 10) rfl)) (aw_r6 _ (List.mem_of_getElem? (i := 11) rfl)) (aw_r1 _ (List.mem_of_getElem? (i := 2) rfl)) (aw_r6 _ (List.mem_of_getElem? (i := 12) rfl))) rfl rfl rfl hd_X5_end ⟨(Nat.le_of_ble_eq_true rfl), (Nat.le_of_ble_eq_true rfl)⟩) (wg_0 G _) rfl rfl hl.1 rfl (Nat.le_of_ble_eq_true rfl) dL_law_264 ⟨(by show cells ≤ 1073; omega), (by show slots ≤ 38820; omega)⟩ (fun r11 σ10 H locs hw hk => ?_)
        refine lv_aload_n hx hb dL_law_267 rfl (lv_at hl 2 rfl) ?_
        refine lv_aload_n hx hb dL_law_268 rfl (lv_at hl 0 rfl) ?_
        refine lv_iload hx hb dL_law_269 (lv_at hl 4 rfl) ?_
        refine lv_iconst (v := (1 : Int32)) hx hb dL_law_271 (by decide) ?_
        refine lv_iadd hx hb dL_law_272 ?_
        refine va_sld hx hb hX hbl hbA hk.2.2.2 hw.1 dL_law_273 ?_
        replace hw := hw.2
        refine k_callVi (rest := [.int r11]) X hk (c_X6_end l G _ _ _ hw) (cwV 1 X.1.2.2.2.2 (gzV (aw_r6 _ (List.mem_of_getElem? (i := 13) rfl)) (aw_r6 _ (List.mem_of_getElem? (i := 14) rfl)) (aw_r6 _ (List.mem_of_getElem? (i := 15) rfl)) (aw_r1 _ (List.mem_of_getElem? (i := 5) rfl)) (aw_r6 _ (List.mem_of_getElem? (i := 16) rfl))) rfl rfl rfl hd_X6_end ⟨(Nat.le_of_ble_eq_true rfl), (Nat.le_of_ble_eq_true rfl)⟩) (wg_30 G _) rfl rfl hl.1 rfl (Nat.le_of_ble_eq_true rfl) dL_law_274 ⟨(by show cells ≤ 1073; omega), (by show slots ≤ 38820; omega)⟩ (fun r13 σ12 H locs hw hk => ?_)
        refine lv_icmp_eq (tgt := 1375) hx hb dL_law_277 (by decide) (fun c14 => ?_) (fun c14 => ?_)
        · replace hw := hw.1 c14
          exact t_L_law_1375 C n _ ih cells slots (by omega) (by omega) _ _ _ _ _ hw hk hl
        · replace hw := hw.2 c14
          refine lv_iconst (v := (0 : Int32)) hx hb dL_law_280 (by decide) ?_
          exact False.elim hw
      replace hw := hw.2
      by_cases c15 : ((xs (x4).toNatClampNeg) &&& (31 : Int32)) = (2 : Int32)
      · have ec15 : (((xs (x4).toNatClampNeg) &&& (31 : Int32))).toInt = 2 := by rw [c15]; rfl
        refine lv_tableIn (tgt := 282) hx hb dL_law_40 (by rw [ec15]; decide) (by rw [ec15]; decide) (by rw [ec15]; rfl) (by decide) ?_
        replace hw := hw.1 c15
        refine lv_aload_n hx hb dL_law_282 rfl (lv_at hl 1 rfl) ?_
        refine k_callVi (rest := []) X hk (c_X5_tell l G _  _ hw) (cwV 0 X.1.2.2.2.2 (gzV (aw_r6 _ (List.mem_of_getElem? (i := 20) rfl)) (aw_r6 _ (List.mem_of_getElem? (i := 21) rfl)) (aw_r6 _ (List.mem_of_getElem? (i := 22) rfl)) (aw_r1 _ (List.mem_of_getElem? (i := 2) rfl)) (aw_r6 _ (List.mem_of_getElem? (i := 23) rfl))) rfl rfl rfl hd_X5_tell ⟨(Nat.le_of_ble_eq_true rfl), (Nat.le_of_ble_eq_true rfl)⟩) (wg_0 G _) rfl rfl hl.1 rfl (Nat.le_of_ble_eq_true rfl) dL_law_283 ⟨(by show cells ≤ 1073; omega), (by show slots ≤ 38820; omega)⟩ (fun r17 σ16 H locs hw hk => ?_)
        refine lv_aload_n hx hb dL_law_286 rfl (lv_at hl 2 rfl) ?_
        refine k_callVi (rest := [.int r17]) X hk (c_X6_tell l G _  _ hw) (cwV 0 X.1.2.2.2.2 (gzV (aw_r14 _ (List.mem_of_getElem? (i := 7) rfl)) (aw_r14 _ (List.mem_of_getElem? (i := 8) rfl)) (aw_r14 _ (List.mem_of_getElem? (i := 9) rfl)) (aw_r1 _ (List.mem_of_getElem? (i := 5) rfl)) (aw_r14 _ (List.mem_of_getElem? (i := 10) rfl))) rfl rfl rfl hd_X6_tell ⟨(Nat.le_of_ble_eq_true rfl), (Nat.le_of_ble_eq_true rfl)⟩) (wg_30 G _) rfl rfl hl.1 rfl (Nat.le_of_ble_eq_true rfl) dL_law_287 ⟨(by show cells ≤ 1073; omega), (by show slots ≤ 38820; omega)⟩ (fun r19 σ18 H locs hw hk => ?_)
        refine lv_icmp_eq (tgt := 1375) hx hb dL_law_290 (by decide) (fun c20 => ?_) (fun c20 => ?_)
        · replace hw := hw.1 c20
          exact t_L_law_1375 C n _ ih cells slots (by omega) (by omega) _ _ _ _ _ hw hk hl
        · replace hw := hw.2 c20
          refine lv_iconst (v := (0 : Int32)) hx hb dL_law_293 (by decide) ?_
          exact False.elim hw
      replace hw := hw.2
      by_cases c21 : ((xs (x4).toNatClampNeg) &&& (31 : Int32)) = (3 : Int32)
      · have ec21 : (((xs (x4).toNatClampNeg) &&& (31 : Int32))).toInt = 3 := by rw [c21]; rfl
        refine lv_tableIn (tgt := 295) hx hb dL_law_40 (by rw [ec21]; decide) (by rw [ec21]; decide) (by rw [ec21]; rfl) (by decide) ?_
        replace hw := hw.1 c21
        refine lv_aload_n hx hb dL_law_295 rfl (lv_at hl 1 rfl) ?_
        refine k_callVi (rest := []) X hk (c_X5_fault l G _  _ hw) (cwV 0 X.1.2.2.2.2 (gzV (aw_r18 _ (List.mem_of_getElem? (i := 14) rfl)) (aw_r18 _ (List.mem_of_getElem? (i := 15) rfl)) (aw_r18 _ (List.mem_of_getElem? (i := 16) rfl)) (aw_r1 _ (List.mem_of_getElem? (i := 2) rfl)) (aw_r18 _ (List.mem_of_getElem? (i := 17) rfl))) rfl rfl rfl hd_X5_fault ⟨(Nat.le_of_ble_eq_true rfl), (Nat.le_of_ble_eq_true rfl)⟩) (wg_0 G _) rfl rfl hl.1 rfl (Nat.le_of_ble_eq_true rfl) dL_law_296 ⟨(by show cells ≤ 1073; omega), (by show slots ≤ 38820; omega)⟩ (fun r23 σ22 H locs hw hk => ?_)
        refine lv_aload_n hx hb dL_law_299 rfl (lv_at hl 2 rfl) ?_
        refine k_callVi (rest := [.int r23]) X hk (c_X6_fault l G _  _ hw) (cwV 0 X.1.2.2.2.2 (gzV (aw_r18 _ (List.mem_of_getElem? (i := 19) rfl)) (aw_r18 _ (List.mem_of_getElem? (i := 20) rfl)) (aw_r18 _ (List.mem_of_getElem? (i := 21) rfl)) (aw_r1 _ (List.mem_of_getElem? (i := 5) rfl)) (aw_r18 _ (List.mem_of_getElem? (i := 22) rfl))) rfl rfl rfl hd_X6_fault ⟨(Nat.le_of_ble_eq_true rfl), (Nat.le_of_ble_eq_true rfl)⟩) (wg_30 G _) rfl rfl hl.1 rfl (Nat.le_of_ble_eq_true rfl) dL_law_300 ⟨(by show cells ≤ 1073; omega), (by show slots ≤ 38820; omega)⟩ (fun r25 σ24 H locs hw hk => ?_)
        refine lv_icmp_eq (tgt := 1375) hx hb dL_law_303 (by decide) (fun c26 => ?_) (fun c26 => ?_)
        · replace hw := hw.1 c26
          exact t_L_law_1375 C n _ ih cells slots (by omega) (by omega) _ _ _ _ _ hw hk hl
        · replace hw := hw.2 c26
          refine lv_iconst (v := (0 : Int32)) hx hb dL_law_306 (by decide) ?_
          exact False.elim hw
      replace hw := hw.2
      by_cases c27 : ((xs (x4).toNatClampNeg) &&& (31 : Int32)) = (4 : Int32)
      · have ec27 : (((xs (x4).toNatClampNeg) &&& (31 : Int32))).toInt = 4 := by rw [c27]; rfl
        refine lv_tableIn (tgt := 308) hx hb dL_law_40 (by rw [ec27]; decide) (by rw [ec27]; decide) (by rw [ec27]; rfl) (by decide) ?_
        replace hw := hw.1 c27
        refine lv_aload_n hx hb dL_law_308 rfl (lv_at hl 1 rfl) ?_
        refine lv_aload_n hx hb dL_law_309 rfl (lv_at hl 0 rfl) ?_
        refine lv_iload hx hb dL_law_310 (lv_at hl 4 rfl) ?_
        refine lv_iconst (v := (1 : Int32)) hx hb dL_law_312 (by decide) ?_
        refine lv_iadd hx hb dL_law_313 ?_
        refine va_sld hx hb hX hbl hbA hk.2.2.2 hw.1 dL_law_314 ?_
        replace hw := hw.2
        refine lv_aload_n hx hb dL_law_315 rfl (lv_at hl 0 rfl) ?_
        refine lv_iload hx hb dL_law_316 (lv_at hl 4 rfl) ?_
        refine lv_iconst (v := (2 : Int32)) hx hb dL_law_318 (by decide) ?_
        refine lv_iadd hx hb dL_law_319 ?_
        refine va_sld hx hb hX hbl hbA hk.2.2.2 hw.1 dL_law_320 ?_
        replace hw := hw.2
        refine lv_aload_n hx hb dL_law_321 rfl (lv_at hl 0 rfl) ?_
        refine lv_iload hx hb dL_law_322 (lv_at hl 4 rfl) ?_
        refine lv_iconst (v := (3 : Int32)) hx hb dL_law_324 (by decide) ?_
        refine lv_iadd hx hb dL_law_325 ?_
        refine va_sld hx hb hX hbl hbA hk.2.2.2 hw.1 dL_law_326 ?_
        replace hw := hw.2
        refine lv_aload_n hx hb dL_law_327 rfl (lv_at hl 0 rfl) ?_
        refine lv_iload hx hb dL_law_328 (lv_at hl 4 rfl) ?_
        refine lv_iconst (v := (4 : Int32)) hx hb dL_law_330 (by decide) ?_
        refine lv_iadd hx hb dL_law_331 ?_
        refine va_sld hx hb hX hbl hbA hk.2.2.2 hw.1 dL_law_332 ?_
        replace hw := hw.2
        refine k_callVi (rest := []) X hk (c_X5_place l G _ _ _ _ _ _ hw) (cwV 4 X.1.2.2.2.2 (gzV (aw_r18 _ (List.mem_of_getElem? (i := 23) rfl)) (aw_r19 _ (List.mem_of_getElem? (i := 0) rfl)) (aw_r19 _ (List.mem_of_getElem? (i := 1) rfl)) (aw_r1 _ (List.mem_of_getElem? (i := 2) rfl)) (aw_r19 _ (List.mem_of_getElem? (i := 2) rfl))) rfl rfl rfl hd_X5_place ⟨(Nat.le_of_ble_eq_true rfl), (Nat.le_of_ble_eq_true rfl)⟩) (wg_0 G _) rfl rfl hl.1 rfl (Nat.le_of_ble_eq_true rfl) dL_law_333 ⟨(by show cells ≤ 1073; omega), (by show slots ≤ 38820; omega)⟩ (fun r29 σ28 H locs hw hk => ?_)
        refine lv_aload_n hx hb dL_law_336 rfl (lv_at hl 2 rfl) ?_
        refine lv_aload_n hx hb dL_law_337 rfl (lv_at hl 0 rfl) ?_
        refine lv_iload hx hb dL_law_338 (lv_at hl 4 rfl) ?_
        refine lv_iconst (v := (1 : Int32)) hx hb dL_law_340 (by decide) ?_
        refine lv_iadd hx hb dL_law_341 ?_
        refine va_sld hx hb hX hbl hbA hk.2.2.2 hw.1 dL_law_342 ?_
        replace hw := hw.2
        refine lv_aload_n hx hb dL_law_343 rfl (lv_at hl 0 rfl) ?_
        refine lv_iload hx hb dL_law_344 (lv_at hl 4 rfl) ?_
        refine lv_iconst (v := (2 : Int32)) hx hb dL_law_346 (by decide) ?_
        refine lv_iadd hx hb dL_law_347 ?_
        refine va_sld hx hb hX hbl hbA hk.2.2.2 hw.1 dL_law_348 ?_
        replace hw := hw.2
        refine lv_aload_n hx hb dL_law_349 rfl (lv_at hl 0 rfl) ?_
        refine lv_iload hx hb dL_law_350 (lv_at hl 4 rfl) ?_
        refine lv_iconst (v := (3 : Int32)) hx hb dL_law_352 (by decide) ?_
        refine lv_iadd hx hb dL_law_353 ?_
        refine va_sld hx hb hX hbl hbA hk.2.2.2 hw.1 dL_law_354 ?_
        replace hw := hw.2
        refine lv_aload_n hx hb dL_law_355 rfl (lv_at hl 0 rfl) ?_
        refine lv_iload hx hb dL_law_356 (lv_at hl 4 rfl) ?_
        refine lv_iconst (v := (4 : Int32)) hx hb dL_law_358 (by decide) ?_
        refine lv_iadd hx hb dL_law_359 ?_
        refine va_sld hx hb hX hbl hbA hk.2.2.2 hw.1 dL_law_360 ?_
        replace hw := hw.2
        refine k_callVi (rest := [.int r29]) X hk (c_X6_place l G _ _ _ _ _ _ hw) (cwV 4 X.1.2.2.2.2 (gzV (aw_r19 _ (List.mem_of_getElem? (i := 6) rfl)) (aw_r19 _ (List.mem_of_getElem? (i := 7) rfl)) (aw_r19 _ (List.mem_of_getElem? (i := 8) rfl)) (aw_r1 _ (List.mem_of_getElem? (i := 5) rfl)) (aw_r19 _ (List.mem_of_getElem? (i := 9) rfl))) rfl rfl rfl hd_X6_place ⟨(Nat.le_of_ble_eq_true rfl), (Nat.le_of_ble_eq_true rfl)⟩) (wg_30 G _) rfl rfl hl.1 rfl (Nat.le_of_ble_eq_true rfl) dL_law_361 ⟨(by show cells ≤ 1073; omega), (by show slots ≤ 38820; omega)⟩ (fun r31 σ30 H locs hw hk => ?_)
        refine lv_icmp_eq (tgt := 1375) hx hb dL_law_364 (by decide) (fun c32 => ?_) (fun c32 => ?_)
        · replace hw := hw.1 c32
          exact t_L_law_1375 C n _ ih cells slots (by omega) (by omega) _ _ _ _ _ hw hk hl
        · replace hw := hw.2 c32
          refine lv_iconst (v := (0 : Int32)) hx hb dL_law_367 (by decide) ?_
          exact False.elim hw
      replace hw := hw.2
      by_cases c33 : ((xs (x4).toNatClampNeg) &&& (31 : Int32)) = (5 : Int32)
      · have ec33 : (((xs (x4).toNatClampNeg) &&& (31 : Int32))).toInt = 5 := by rw [c33]; rfl
        refine lv_tableIn (tgt := 369) hx hb dL_law_40 (by rw [ec33]; decide) (by rw [ec33]; decide) (by rw [ec33]; rfl) (by decide) ?_
        replace hw := hw.1 c33
        refine lv_aload_n hx hb dL_law_369 rfl (lv_at hl 1 rfl) ?_
        refine lv_aload_n hx hb dL_law_370 rfl (lv_at hl 0 rfl) ?_
        refine lv_iload hx hb dL_law_371 (lv_at hl 4 rfl) ?_
        refine lv_iconst (v := (1 : Int32)) hx hb dL_law_373 (by decide) ?_
        refine lv_iadd hx hb dL_law_374 ?_
        refine va_sld hx hb hX hbl hbA hk.2.2.2 hw.1 dL_law_375 ?_
        replace hw := hw.2
        refine lv_aload_n hx hb dL_law_376 rfl (lv_at hl 0 rfl) ?_
        refine lv_iload hx hb dL_law_377 (lv_at hl 4 rfl) ?_
        refine lv_iconst (v := (2 : Int32)) hx hb dL_law_379 (by decide) ?_
        refine lv_iadd hx hb dL_law_380 ?_
        refine va_sld hx hb hX hbl hbA hk.2.2.2 hw.1 dL_law_381 ?_
        replace hw := hw.2
        refine lv_aload_n hx hb dL_law_382 rfl (lv_at hl 0 rfl) ?_
        refine lv_iload hx hb dL_law_383 (lv_at hl 4 rfl) ?_
        refine lv_iconst (v := (3 : Int32)) hx hb dL_law_385 (by decide) ?_
        refine lv_iadd hx hb dL_law_386 ?_
        refine va_sld hx hb hX hbl hbA hk.2.2.2 hw.1 dL_law_387 ?_
        replace hw := hw.2
        refine lv_aload_n hx hb dL_law_388 rfl (lv_at hl 0 rfl) ?_
        refine lv_iload hx hb dL_law_389 (lv_at hl 4 rfl) ?_
        refine lv_iconst (v := (4 : Int32)) hx hb dL_law_391 (by decide) ?_
        refine lv_iadd hx hb dL_law_392 ?_
        refine va_sld hx hb hX hbl hbA hk.2.2.2 hw.1 dL_law_393 ?_
        replace hw := hw.2
        refine lv_aload_n hx hb dL_law_394 rfl (lv_at hl 0 rfl) ?_
        refine lv_iload hx hb dL_law_395 (lv_at hl 4 rfl) ?_
        refine lv_iconst (v := (5 : Int32)) hx hb dL_law_397 (by decide) ?_
        refine lv_iadd hx hb dL_law_398 ?_
        refine va_sld hx hb hX hbl hbA hk.2.2.2 hw.1 dL_law_399 ?_
        replace hw := hw.2
        refine k_callVi (rest := []) X hk (c_X5_road l G _ _ _ _ _ _ _ hw) (cwV 5 X.1.2.2.2.2 (gzV (aw_r19 _ (List.mem_of_getElem? (i := 13) rfl)) (aw_r19 _ (List.mem_of_getElem? (i := 14) rfl)) (aw_r19 _ (List.mem_of_getElem? (i := 15) rfl)) (aw_r1 _ (List.mem_of_getElem? (i := 2) rfl)) (aw_r19 _ (List.mem_of_getElem? (i := 16) rfl))) rfl rfl rfl hd_X5_road ⟨(Nat.le_of_ble_eq_true rfl), (Nat.le_of_ble_eq_true rfl)⟩) (wg_0 G _) rfl rfl hl.1 rfl (Nat.le_of_ble_eq_true rfl) dL_law_400 ⟨(by show cells ≤ 1073; omega), (by show slots ≤ 38820; omega)⟩ (fun r35 σ34 H locs hw hk => ?_)
        refine lv_aload_n hx hb dL_law_403 rfl (lv_at hl 2 rfl) ?_
        refine lv_aload_n hx hb dL_law_404 rfl (lv_at hl 0 rfl) ?_
        refine lv_iload hx hb dL_law_405 (lv_at hl 4 rfl) ?_
        refine lv_iconst (v := (1 : Int32)) hx hb dL_law_407 (by decide) ?_
        refine lv_iadd hx hb dL_law_408 ?_
        refine va_sld hx hb hX hbl hbA hk.2.2.2 hw.1 dL_law_409 ?_
        replace hw := hw.2
        refine lv_aload_n hx hb dL_law_410 rfl (lv_at hl 0 rfl) ?_
        refine lv_iload hx hb dL_law_411 (lv_at hl 4 rfl) ?_
        refine lv_iconst (v := (2 : Int32)) hx hb dL_law_413 (by decide) ?_
        refine lv_iadd hx hb dL_law_414 ?_
        refine va_sld hx hb hX hbl hbA hk.2.2.2 hw.1 dL_law_415 ?_
        replace hw := hw.2
        refine lv_aload_n hx hb dL_law_416 rfl (lv_at hl 0 rfl) ?_
        refine lv_iload hx hb dL_law_417 (lv_at hl 4 rfl) ?_
        refine lv_iconst (v := (3 : Int32)) hx hb dL_law_419 (by decide) ?_
        refine lv_iadd hx hb dL_law_420 ?_
        refine va_sld hx hb hX hbl hbA hk.2.2.2 hw.1 dL_law_421 ?_
        replace hw := hw.2
        refine lv_aload_n hx hb dL_law_422 rfl (lv_at hl 0 rfl) ?_
        refine lv_iload hx hb dL_law_423 (lv_at hl 4 rfl) ?_
        refine lv_iconst (v := (4 : Int32)) hx hb dL_law_425 (by decide) ?_
        refine lv_iadd hx hb dL_law_426 ?_
        refine va_sld hx hb hX hbl hbA hk.2.2.2 hw.1 dL_law_427 ?_
        replace hw := hw.2
        refine lv_aload_n hx hb dL_law_428 rfl (lv_at hl 0 rfl) ?_
        refine lv_iload hx hb dL_law_429 (lv_at hl 4 rfl) ?_
        refine lv_iconst (v := (5 : Int32)) hx hb dL_law_431 (by decide) ?_
        refine lv_iadd hx hb dL_law_432 ?_
        refine va_sld hx hb hX hbl hbA hk.2.2.2 hw.1 dL_law_433 ?_
        replace hw := hw.2
        refine k_callVi (rest := [.int r35]) X hk (c_X6_road l G _ _ _ _ _ _ _ hw) (cwV 5 X.1.2.2.2.2 (gzV (aw_r19 _ (List.mem_of_getElem? (i := 20) rfl)) (aw_r19 _ (List.mem_of_getElem? (i := 21) rfl)) (aw_r19 _ (List.mem_of_getElem? (i := 22) rfl)) (aw_r1 _ (List.mem_of_getElem? (i := 5) rfl)) (aw_r19 _ (List.mem_of_getElem? (i := 23) rfl))) rfl rfl rfl hd_X6_road ⟨(Nat.le_of_ble_eq_true rfl), (Nat.le_of_ble_eq_true rfl)⟩) (wg_30 G _) rfl rfl hl.1 rfl (Nat.le_of_ble_eq_true rfl) dL_law_434 ⟨(by show cells ≤ 1073; omega), (by show slots ≤ 38820; omega)⟩ (fun r37 σ36 H locs hw hk => ?_)
        refine lv_icmp_eq (tgt := 1375) hx hb dL_law_437 (by decide) (fun c38 => ?_) (fun c38 => ?_)
        · replace hw := hw.1 c38
          exact t_L_law_1375 C n _ ih cells slots (by omega) (by omega) _ _ _ _ _ hw hk hl
        · replace hw := hw.2 c38
          refine lv_iconst (v := (0 : Int32)) hx hb dL_law_440 (by decide) ?_
          exact False.elim hw
      replace hw := hw.2
      by_cases c39 : ((xs (x4).toNatClampNeg) &&& (31 : Int32)) = (6 : Int32)
      · have ec39 : (((xs (x4).toNatClampNeg) &&& (31 : Int32))).toInt = 6 := by rw [c39]; rfl
        refine lv_tableIn (tgt := 442) hx hb dL_law_40 (by rw [ec39]; decide) (by rw [ec39]; decide) (by rw [ec39]; rfl) (by decide) ?_
        replace hw := hw.1 c39
        refine lv_aload_n hx hb dL_law_442 rfl (lv_at hl 1 rfl) ?_
        refine lv_aload_n hx hb dL_law_443 rfl (lv_at hl 0 rfl) ?_
        refine lv_iload hx hb dL_law_444 (lv_at hl 4 rfl) ?_
        refine lv_iconst (v := (1 : Int32)) hx hb dL_law_446 (by decide) ?_
        refine lv_iadd hx hb dL_law_447 ?_
        refine va_sld hx hb hX hbl hbA hk.2.2.2 hw.1 dL_law_448 ?_
        replace hw := hw.2
        refine lv_aload_n hx hb dL_law_449 rfl (lv_at hl 0 rfl) ?_
        refine lv_iload hx hb dL_law_450 (lv_at hl 4 rfl) ?_
        refine lv_iconst (v := (2 : Int32)) hx hb dL_law_452 (by decide) ?_
        refine lv_iadd hx hb dL_law_453 ?_
        refine va_sld hx hb hX hbl hbA hk.2.2.2 hw.1 dL_law_454 ?_
        replace hw := hw.2
        refine k_callVi (rest := []) X hk (c_X5_turn l G _ _ _ _ hw) (cwV 2 X.1.2.2.2.2 (gzV (aw_r20 _ (List.mem_of_getElem? (i := 4) rfl)) (aw_r20 _ (List.mem_of_getElem? (i := 5) rfl)) (aw_r20 _ (List.mem_of_getElem? (i := 6) rfl)) (aw_r1 _ (List.mem_of_getElem? (i := 2) rfl)) (aw_r20 _ (List.mem_of_getElem? (i := 7) rfl))) rfl rfl rfl hd_X5_turn ⟨(Nat.le_of_ble_eq_true rfl), (Nat.le_of_ble_eq_true rfl)⟩) (wg_0 G _) rfl rfl hl.1 rfl (Nat.le_of_ble_eq_true rfl) dL_law_455 ⟨(by show cells ≤ 1073; omega), (by show slots ≤ 38820; omega)⟩ (fun r41 σ40 H locs hw hk => ?_)
        refine lv_aload_n hx hb dL_law_458 rfl (lv_at hl 2 rfl) ?_
        refine lv_aload_n hx hb dL_law_459 rfl (lv_at hl 0 rfl) ?_
        refine lv_iload hx hb dL_law_460 (lv_at hl 4 rfl) ?_
        refine lv_iconst (v := (1 : Int32)) hx hb dL_law_462 (by decide) ?_
        refine lv_iadd hx hb dL_law_463 ?_
        refine va_sld hx hb hX hbl hbA hk.2.2.2 hw.1 dL_law_464 ?_
        replace hw := hw.2
        refine lv_aload_n hx hb dL_law_465 rfl (lv_at hl 0 rfl) ?_
        refine lv_iload hx hb dL_law_466 (lv_at hl 4 rfl) ?_
        refine lv_iconst (v := (2 : Int32)) hx hb dL_law_468 (by decide) ?_
        refine lv_iadd hx hb dL_law_469 ?_
        refine va_sld hx hb hX hbl hbA hk.2.2.2 hw.1 dL_law_470 ?_
        replace hw := hw.2
        refine k_callVi (rest := [.int r41]) X hk (c_X6_turn l G _ _ _ _ hw) (cwV 2 X.1.2.2.2.2 (gzV (aw_r20 _ (List.mem_of_getElem? (i := 10) rfl)) (aw_r20 _ (List.mem_of_getElem? (i := 11) rfl)) (aw_r20 _ (List.mem_of_getElem? (i := 12) rfl)) (aw_r1 _ (List.mem_of_getElem? (i := 5) rfl)) (aw_r20 _ (List.mem_of_getElem? (i := 13) rfl))) rfl rfl rfl hd_X6_turn ⟨(Nat.le_of_ble_eq_true rfl), (Nat.le_of_ble_eq_true rfl)⟩) (wg_30 G _) rfl rfl hl.1 rfl (Nat.le_of_ble_eq_true rfl) dL_law_471 ⟨(by show cells ≤ 1073; omega), (by show slots ≤ 38820; omega)⟩ (fun r43 σ42 H locs hw hk => ?_)
        refine lv_icmp_eq (tgt := 1375) hx hb dL_law_474 (by decide) (fun c44 => ?_) (fun c44 => ?_)
        · replace hw := hw.1 c44
          exact t_L_law_1375 C n _ ih cells slots (by omega) (by omega) _ _ _ _ _ hw hk hl
        · replace hw := hw.2 c44
          refine lv_iconst (v := (0 : Int32)) hx hb dL_law_477 (by decide) ?_
          exact False.elim hw
      replace hw := hw.2
      by_cases c45 : ((xs (x4).toNatClampNeg) &&& (31 : Int32)) = (7 : Int32)
      · have ec45 : (((xs (x4).toNatClampNeg) &&& (31 : Int32))).toInt = 7 := by rw [c45]; rfl
        refine lv_tableIn (tgt := 479) hx hb dL_law_40 (by rw [ec45]; decide) (by rw [ec45]; decide) (by rw [ec45]; rfl) (by decide) ?_
        replace hw := hw.1 c45
        refine lv_aload_n hx hb dL_law_479 rfl (lv_at hl 1 rfl) ?_
        refine lv_aload_n hx hb dL_law_480 rfl (lv_at hl 0 rfl) ?_
        refine lv_iload hx hb dL_law_481 (lv_at hl 4 rfl) ?_
        refine lv_iconst (v := (1 : Int32)) hx hb dL_law_483 (by decide) ?_
        refine lv_iadd hx hb dL_law_484 ?_
        refine va_sld hx hb hX hbl hbA hk.2.2.2 hw.1 dL_law_485 ?_
        replace hw := hw.2
        refine lv_aload_n hx hb dL_law_486 rfl (lv_at hl 0 rfl) ?_
        refine lv_iload hx hb dL_law_487 (lv_at hl 4 rfl) ?_
        refine lv_iconst (v := (2 : Int32)) hx hb dL_law_489 (by decide) ?_
        refine lv_iadd hx hb dL_law_490 ?_
        refine va_sld hx hb hX hbl hbA hk.2.2.2 hw.1 dL_law_491 ?_
        replace hw := hw.2
        refine lv_aload_n hx hb dL_law_492 rfl (lv_at hl 0 rfl) ?_
        refine lv_iload hx hb dL_law_493 (lv_at hl 4 rfl) ?_
        refine lv_iconst (v := (3 : Int32)) hx hb dL_law_495 (by decide) ?_
        refine lv_iadd hx hb dL_law_496 ?_
        refine va_sld hx hb hX hbl hbA hk.2.2.2 hw.1 dL_law_497 ?_
        replace hw := hw.2
        refine k_callVi (rest := []) X hk (c_X5_set l G _ _ _ _ _ hw) (cwV 3 X.1.2.2.2.2 (gzV (aw_r20 _ (List.mem_of_getElem? (i := 14) rfl)) (aw_r20 _ (List.mem_of_getElem? (i := 15) rfl)) (aw_r20 _ (List.mem_of_getElem? (i := 16) rfl)) (aw_r1 _ (List.mem_of_getElem? (i := 2) rfl)) (aw_r20 _ (List.mem_of_getElem? (i := 17) rfl))) rfl rfl rfl hd_X5_set ⟨(Nat.le_of_ble_eq_true rfl), (Nat.le_of_ble_eq_true rfl)⟩) (wg_0 G _) rfl rfl hl.1 rfl (Nat.le_of_ble_eq_true rfl) dL_law_498 ⟨(by show cells ≤ 1073; omega), (by show slots ≤ 38820; omega)⟩ (fun r47 σ46 H locs hw hk => ?_)
        refine lv_aload_n hx hb dL_law_501 rfl (lv_at hl 2 rfl) ?_
        refine lv_aload_n hx hb dL_law_502 rfl (lv_at hl 0 rfl) ?_
        refine lv_iload hx hb dL_law_503 (lv_at hl 4 rfl) ?_
        refine lv_iconst (v := (1 : Int32)) hx hb dL_law_505 (by decide) ?_
        refine lv_iadd hx hb dL_law_506 ?_
        refine va_sld hx hb hX hbl hbA hk.2.2.2 hw.1 dL_law_507 ?_
        replace hw := hw.2
        refine lv_aload_n hx hb dL_law_508 rfl (lv_at hl 0 rfl) ?_
        refine lv_iload hx hb dL_law_509 (lv_at hl 4 rfl) ?_
        refine lv_iconst (v := (2 : Int32)) hx hb dL_law_511 (by decide) ?_
        refine lv_iadd hx hb dL_law_512 ?_
        refine va_sld hx hb hX hbl hbA hk.2.2.2 hw.1 dL_law_513 ?_
        replace hw := hw.2
        refine lv_aload_n hx hb dL_law_514 rfl (lv_at hl 0 rfl) ?_
        refine lv_iload hx hb dL_law_515 (lv_at hl 4 rfl) ?_
        refine lv_iconst (v := (3 : Int32)) hx hb dL_law_517 (by decide) ?_
        refine lv_iadd hx hb dL_law_518 ?_
        refine va_sld hx hb hX hbl hbA hk.2.2.2 hw.1 dL_law_519 ?_
        replace hw := hw.2
        refine k_callVi (rest := [.int r47]) X hk (c_X6_set l G _ _ _ _ _ hw) (cwV 3 X.1.2.2.2.2 (gzV (aw_r21 _ (List.mem_of_getElem? (i := 0) rfl)) (aw_r21 _ (List.mem_of_getElem? (i := 1) rfl)) (aw_r21 _ (List.mem_of_getElem? (i := 2) rfl)) (aw_r1 _ (List.mem_of_getElem? (i := 5) rfl)) (aw_r21 _ (List.mem_of_getElem? (i := 3) rfl))) rfl rfl rfl hd_X6_set ⟨(Nat.le_of_ble_eq_true rfl), (Nat.le_of_ble_eq_true rfl)⟩) (wg_30 G _) rfl rfl hl.1 rfl (Nat.le_of_ble_eq_true rfl) dL_law_520 ⟨(by show cells ≤ 1073; omega), (by show slots ≤ 38820; omega)⟩ (fun r49 σ48 H locs hw hk => ?_)
        refine lv_icmp_eq (tgt := 1375) hx hb dL_law_523 (by decide) (fun c50 => ?_) (fun c50 => ?_)
        · replace hw := hw.1 c50
          exact t_L_law_1375 C n _ ih cells slots (by omega) (by omega) _ _ _ _ _ hw hk hl
        · replace hw := hw.2 c50
          refine lv_iconst (v := (0 : Int32)) hx hb dL_law_526 (by decide) ?_
          exact False.elim hw
      replace hw := hw.2
      by_cases c51 : ((xs (x4).toNatClampNeg) &&& (31 : Int32)) = (8 : Int32)
      · have ec51 : (((xs (x4).toNatClampNeg) &&& (31 : Int32))).toInt = 8 := by rw [c51]; rfl
        refine lv_tableIn (tgt := 528) hx hb dL_law_40 (by rw [ec51]; decide) (by rw [ec51]; decide) (by rw [ec51]; rfl) (by decide) ?_
        replace hw := hw.1 c51
        refine lv_aload_n hx hb dL_law_528 rfl (lv_at hl 1 rfl) ?_
        refine k_callVi (rest := []) X hk (c_X5_drop l G _  _ hw) (cwV 0 X.1.2.2.2.2 (gzV (aw_r21 _ (List.mem_of_getElem? (i := 8) rfl)) (aw_r21 _ (List.mem_of_getElem? (i := 9) rfl)) (aw_r21 _ (List.mem_of_getElem? (i := 10) rfl)) (aw_r1 _ (List.mem_of_getElem? (i := 2) rfl)) (aw_r21 _ (List.mem_of_getElem? (i := 11) rfl))) rfl rfl rfl hd_X5_drop ⟨(Nat.le_of_ble_eq_true rfl), (Nat.le_of_ble_eq_true rfl)⟩) (wg_0 G _) rfl rfl hl.1 rfl (Nat.le_of_ble_eq_true rfl) dL_law_529 ⟨(by show cells ≤ 1073; omega), (by show slots ≤ 38820; omega)⟩ (fun r53 σ52 H locs hw hk => ?_)
        refine lv_aload_n hx hb dL_law_532 rfl (lv_at hl 2 rfl) ?_
        refine k_callVi (rest := [.int r53]) X hk (c_X6_drop l G _  _ hw) (cwV 0 X.1.2.2.2.2 (gzV (aw_r21 _ (List.mem_of_getElem? (i := 21) rfl)) (aw_r21 _ (List.mem_of_getElem? (i := 22) rfl)) (aw_r21 _ (List.mem_of_getElem? (i := 23) rfl)) (aw_r1 _ (List.mem_of_getElem? (i := 5) rfl)) (aw_r22 _ (List.mem_of_getElem? (i := 0) rfl))) rfl rfl rfl hd_X6_drop ⟨(Nat.le_of_ble_eq_true rfl), (Nat.le_of_ble_eq_true rfl)⟩) (wg_30 G _) rfl rfl hl.1 rfl (Nat.le_of_ble_eq_true rfl) dL_law_533 ⟨(by show cells ≤ 1073; omega), (by show slots ≤ 38820; omega)⟩ (fun r55 σ54 H locs hw hk => ?_)
        refine lv_icmp_eq (tgt := 1375) hx hb dL_law_536 (by decide) (fun c56 => ?_) (fun c56 => ?_)
        · replace hw := hw.1 c56
          exact t_L_law_1375 C n _ ih cells slots (by omega) (by omega) _ _ _ _ _ hw hk hl
        · replace hw := hw.2 c56
          refine lv_iconst (v := (0 : Int32)) hx hb dL_law_539 (by decide) ?_
          exact False.elim hw
      replace hw := hw.2
      by_cases c57 : ((xs (x4).toNatClampNeg) &&& (31 : Int32)) = (9 : Int32)
      · have ec57 : (((xs (x4).toNatClampNeg) &&& (31 : Int32))).toInt = 9 := by rw [c57]; rfl
        refine lv_tableIn (tgt := 541) hx hb dL_law_40 (by rw [ec57]; decide) (by rw [ec57]; decide) (by rw [ec57]; rfl) (by decide) ?_
        replace hw := hw.1 c57
        refine lv_aload_n hx hb dL_law_541 rfl (lv_at hl 1 rfl) ?_
        refine lv_aload_n hx hb dL_law_542 rfl (lv_at hl 0 rfl) ?_
        refine lv_iload hx hb dL_law_543 (lv_at hl 4 rfl) ?_
        refine lv_iconst (v := (1 : Int32)) hx hb dL_law_545 (by decide) ?_
        refine lv_iadd hx hb dL_law_546 ?_
        refine va_sld hx hb hX hbl hbA hk.2.2.2 hw.1 dL_law_547 ?_
        replace hw := hw.2
        refine lv_aload_n hx hb dL_law_548 rfl (lv_at hl 0 rfl) ?_
        refine lv_iload hx hb dL_law_549 (lv_at hl 4 rfl) ?_
        refine lv_iconst (v := (2 : Int32)) hx hb dL_law_551 (by decide) ?_
        refine lv_iadd hx hb dL_law_552 ?_
        refine va_sld hx hb hX hbl hbA hk.2.2.2 hw.1 dL_law_553 ?_
        replace hw := hw.2
        refine lv_aload_n hx hb dL_law_554 rfl (lv_at hl 0 rfl) ?_
        refine lv_iload hx hb dL_law_555 (lv_at hl 4 rfl) ?_
        refine lv_iconst (v := (3 : Int32)) hx hb dL_law_557 (by decide) ?_
        refine lv_iadd hx hb dL_law_558 ?_
        refine va_sld hx hb hX hbl hbA hk.2.2.2 hw.1 dL_law_559 ?_
        replace hw := hw.2
        refine lv_if_eq (tgt := 567) hx hb dL_law_560 (by decide) (fun c58 => ?_) (fun c58 => ?_)
        · replace hw := hw.1 c58
          refine lv_iconst (v := (0 : Int32)) hx hb dL_law_567 (by decide) ?_
          exact t_L_law_568 C n _ ih cells slots (by omega) (by omega) _ _ _ _ _ _ _ _ hw hk hl
        · replace hw := hw.2 c58
          refine lv_iconst (v := (1 : Int32)) hx hb dL_law_563 (by decide) ?_
          refine lv_goto (tgt := 568) hx hb dL_law_564 (by decide) ?_
          exact t_L_law_568 C n _ ih cells slots (by omega) (by omega) _ _ _ _ _ _ _ _ hw hk hl
      replace hw := hw.2
      by_cases c65 : ((xs (x4).toNatClampNeg) &&& (31 : Int32)) = (10 : Int32)
      · have ec65 : (((xs (x4).toNatClampNeg) &&& (31 : Int32))).toInt = 10 := by rw [c65]; rfl
        refine lv_tableIn (tgt := 618) hx hb dL_law_40 (by rw [ec65]; decide) (by rw [ec65]; decide) (by rw [ec65]; rfl) (by decide) ?_
        replace hw := hw.1 c65
        refine lv_aload_n hx hb dL_law_618 rfl (lv_at hl 1 rfl) ?_
        refine lv_aload_n hx hb dL_law_619 rfl (lv_at hl 0 rfl) ?_
        refine lv_iload hx hb dL_law_620 (lv_at hl 4 rfl) ?_
        refine lv_iconst (v := (1 : Int32)) hx hb dL_law_622 (by decide) ?_
        refine lv_iadd hx hb dL_law_623 ?_
        refine va_sld hx hb hX hbl hbA hk.2.2.2 hw.1 dL_law_624 ?_
        replace hw := hw.2
        refine k_callVi (rest := []) X hk (c_X5_back l G _ _ _ hw) (cwV 1 X.1.2.2.2.2 (gzV (aw_r23 _ (List.mem_of_getElem? (i := 0) rfl)) (aw_r23 _ (List.mem_of_getElem? (i := 1) rfl)) (aw_r23 _ (List.mem_of_getElem? (i := 2) rfl)) (aw_r1 _ (List.mem_of_getElem? (i := 2) rfl)) (aw_r23 _ (List.mem_of_getElem? (i := 3) rfl))) rfl rfl rfl hd_X5_back ⟨(Nat.le_of_ble_eq_true rfl), (Nat.le_of_ble_eq_true rfl)⟩) (wg_0 G _) rfl rfl hl.1 rfl (Nat.le_of_ble_eq_true rfl) dL_law_625 ⟨(by show cells ≤ 1073; omega), (by show slots ≤ 38820; omega)⟩ (fun r67 σ66 H locs hw hk => ?_)
        refine lv_aload_n hx hb dL_law_628 rfl (lv_at hl 2 rfl) ?_
        refine lv_aload_n hx hb dL_law_629 rfl (lv_at hl 0 rfl) ?_
        refine lv_iload hx hb dL_law_630 (lv_at hl 4 rfl) ?_
        refine lv_iconst (v := (1 : Int32)) hx hb dL_law_632 (by decide) ?_
        refine lv_iadd hx hb dL_law_633 ?_
        refine va_sld hx hb hX hbl hbA hk.2.2.2 hw.1 dL_law_634 ?_
        replace hw := hw.2
        refine k_callVi (rest := [.int r67]) X hk (c_X6_back l G _ _ _ hw) (cwV 1 X.1.2.2.2.2 (gzV (aw_r23 _ (List.mem_of_getElem? (i := 4) rfl)) (aw_r23 _ (List.mem_of_getElem? (i := 5) rfl)) (aw_r23 _ (List.mem_of_getElem? (i := 6) rfl)) (aw_r1 _ (List.mem_of_getElem? (i := 5) rfl)) (aw_r23 _ (List.mem_of_getElem? (i := 7) rfl))) rfl rfl rfl hd_X6_back ⟨(Nat.le_of_ble_eq_true rfl), (Nat.le_of_ble_eq_true rfl)⟩) (wg_30 G _) rfl rfl hl.1 rfl (Nat.le_of_ble_eq_true rfl) dL_law_635 ⟨(by show cells ≤ 1073; omega), (by show slots ≤ 38820; omega)⟩ (fun r69 σ68 H locs hw hk => ?_)
        refine lv_icmp_eq (tgt := 1375) hx hb dL_law_638 (by decide) (fun c70 => ?_) (fun c70 => ?_)
        · replace hw := hw.1 c70
          exact t_L_law_1375 C n _ ih cells slots (by omega) (by omega) _ _ _ _ _ hw hk hl
        · replace hw := hw.2 c70
          refine lv_iconst (v := (0 : Int32)) hx hb dL_law_641 (by decide) ?_
          exact False.elim hw
      replace hw := hw.2
      by_cases c71 : ((xs (x4).toNatClampNeg) &&& (31 : Int32)) = (11 : Int32)
      · have ec71 : (((xs (x4).toNatClampNeg) &&& (31 : Int32))).toInt = 11 := by rw [c71]; rfl
        refine lv_tableIn (tgt := 643) hx hb dL_law_40 (by rw [ec71]; decide) (by rw [ec71]; decide) (by rw [ec71]; rfl) (by decide) ?_
        replace hw := hw.1 c71
        refine lv_aload_n hx hb dL_law_643 rfl (lv_at hl 1 rfl) ?_
        refine lv_aload_n hx hb dL_law_644 rfl (lv_at hl 0 rfl) ?_
        refine lv_iload hx hb dL_law_645 (lv_at hl 4 rfl) ?_
        refine lv_iconst (v := (1 : Int32)) hx hb dL_law_647 (by decide) ?_
        refine lv_iadd hx hb dL_law_648 ?_
        refine va_sld hx hb hX hbl hbA hk.2.2.2 hw.1 dL_law_649 ?_
        replace hw := hw.2
        refine k_callVi (rest := []) X hk (c_X5_count l G _ _ _ hw) (cwV 1 X.1.2.2.2.2 (gzV (aw_r23 _ (List.mem_of_getElem? (i := 11) rfl)) (aw_r23 _ (List.mem_of_getElem? (i := 12) rfl)) (aw_r23 _ (List.mem_of_getElem? (i := 13) rfl)) (aw_r1 _ (List.mem_of_getElem? (i := 2) rfl)) (aw_r23 _ (List.mem_of_getElem? (i := 14) rfl))) rfl rfl rfl hd_X5_count ⟨(Nat.le_of_ble_eq_true rfl), (Nat.le_of_ble_eq_true rfl)⟩) (wg_0 G _) rfl rfl hl.1 rfl (Nat.le_of_ble_eq_true rfl) dL_law_650 ⟨(by show cells ≤ 1073; omega), (by show slots ≤ 38820; omega)⟩ (fun r73 σ72 H locs hw hk => ?_)
        refine lv_aload_n hx hb dL_law_653 rfl (lv_at hl 2 rfl) ?_
        refine lv_aload_n hx hb dL_law_654 rfl (lv_at hl 0 rfl) ?_
        refine lv_iload hx hb dL_law_655 (lv_at hl 4 rfl) ?_
        refine lv_iconst (v := (1 : Int32)) hx hb dL_law_657 (by decide) ?_
        refine lv_iadd hx hb dL_law_658 ?_
        refine va_sld hx hb hX hbl hbA hk.2.2.2 hw.1 dL_law_659 ?_
        replace hw := hw.2
        refine k_callVi (rest := [.int r73]) X hk (c_X6_count l G _ _ _ hw) (cwV 1 X.1.2.2.2.2 (gzV (aw_r23 _ (List.mem_of_getElem? (i := 20) rfl)) (aw_r23 _ (List.mem_of_getElem? (i := 21) rfl)) (aw_r23 _ (List.mem_of_getElem? (i := 22) rfl)) (aw_r1 _ (List.mem_of_getElem? (i := 5) rfl)) (aw_r23 _ (List.mem_of_getElem? (i := 23) rfl))) rfl rfl rfl hd_X6_count ⟨(Nat.le_of_ble_eq_true rfl), (Nat.le_of_ble_eq_true rfl)⟩) (wg_30 G _) rfl rfl hl.1 rfl (Nat.le_of_ble_eq_true rfl) dL_law_660 ⟨(by show cells ≤ 1073; omega), (by show slots ≤ 38820; omega)⟩ (fun r75 σ74 H locs hw hk => ?_)
        refine lv_icmp_eq (tgt := 1375) hx hb dL_law_663 (by decide) (fun c76 => ?_) (fun c76 => ?_)
        · replace hw := hw.1 c76
          exact t_L_law_1375 C n _ ih cells slots (by omega) (by omega) _ _ _ _ _ hw hk hl
        · replace hw := hw.2 c76
          refine lv_iconst (v := (0 : Int32)) hx hb dL_law_666 (by decide) ?_
          exact False.elim hw
      replace hw := hw.2
      by_cases c77 : ((xs (x4).toNatClampNeg) &&& (31 : Int32)) = (12 : Int32)
      · have ec77 : (((xs (x4).toNatClampNeg) &&& (31 : Int32))).toInt = 12 := by rw [c77]; rfl
        refine lv_tableIn (tgt := 668) hx hb dL_law_40 (by rw [ec77]; decide) (by rw [ec77]; decide) (by rw [ec77]; rfl) (by decide) ?_
        replace hw := hw.1 c77
        refine lv_aload_n hx hb dL_law_668 rfl (lv_at hl 1 rfl) ?_
        refine lv_aload_n hx hb dL_law_669 rfl (lv_at hl 0 rfl) ?_
        refine lv_iload hx hb dL_law_670 (lv_at hl 4 rfl) ?_
        refine lv_iconst (v := (1 : Int32)) hx hb dL_law_672 (by decide) ?_
        refine lv_iadd hx hb dL_law_673 ?_
        refine va_sld hx hb hX hbl hbA hk.2.2.2 hw.1 dL_law_674 ?_
        replace hw := hw.2
        refine lv_aload_n hx hb dL_law_675 rfl (lv_at hl 0 rfl) ?_
        refine lv_iload hx hb dL_law_676 (lv_at hl 4 rfl) ?_
        refine lv_iconst (v := (2 : Int32)) hx hb dL_law_678 (by decide) ?_
        refine lv_iadd hx hb dL_law_679 ?_
        refine va_sld hx hb hX hbl hbA hk.2.2.2 hw.1 dL_law_680 ?_
        replace hw := hw.2
        refine k_callVi (rest := []) X hk (c_X5_of l G _ _ _ _ hw) (cwV 2 X.1.2.2.2.2 (gzV (aw_r24 _ (List.mem_of_getElem? (i := 4) rfl)) (aw_r24 _ (List.mem_of_getElem? (i := 5) rfl)) (aw_r24 _ (List.mem_of_getElem? (i := 6) rfl)) (aw_r1 _ (List.mem_of_getElem? (i := 2) rfl)) (aw_r24 _ (List.mem_of_getElem? (i := 7) rfl))) rfl rfl rfl hd_X5_of ⟨(Nat.le_of_ble_eq_true rfl), (Nat.le_of_ble_eq_true rfl)⟩) (wg_0 G _) rfl rfl hl.1 rfl (Nat.le_of_ble_eq_true rfl) dL_law_681 ⟨(by show cells ≤ 1073; omega), (by show slots ≤ 38820; omega)⟩ (fun r79 σ78 H locs hw hk => ?_)
        refine lv_aload_n hx hb dL_law_684 rfl (lv_at hl 2 rfl) ?_
        refine lv_aload_n hx hb dL_law_685 rfl (lv_at hl 0 rfl) ?_
        refine lv_iload hx hb dL_law_686 (lv_at hl 4 rfl) ?_
        refine lv_iconst (v := (1 : Int32)) hx hb dL_law_688 (by decide) ?_
        refine lv_iadd hx hb dL_law_689 ?_
        refine va_sld hx hb hX hbl hbA hk.2.2.2 hw.1 dL_law_690 ?_
        replace hw := hw.2
        refine lv_aload_n hx hb dL_law_691 rfl (lv_at hl 0 rfl) ?_
        refine lv_iload hx hb dL_law_692 (lv_at hl 4 rfl) ?_
        refine lv_iconst (v := (2 : Int32)) hx hb dL_law_694 (by decide) ?_
        refine lv_iadd hx hb dL_law_695 ?_
        refine va_sld hx hb hX hbl hbA hk.2.2.2 hw.1 dL_law_696 ?_
        replace hw := hw.2
        refine k_callVi (rest := [.int r79]) X hk (c_X6_of l G _ _ _ _ hw) (cwV 2 X.1.2.2.2.2 (gzV (aw_r24 _ (List.mem_of_getElem? (i := 12) rfl)) (aw_r24 _ (List.mem_of_getElem? (i := 13) rfl)) (aw_r24 _ (List.mem_of_getElem? (i := 14) rfl)) (aw_r1 _ (List.mem_of_getElem? (i := 5) rfl)) (aw_r24 _ (List.mem_of_getElem? (i := 15) rfl))) rfl rfl rfl hd_X6_of ⟨(Nat.le_of_ble_eq_true rfl), (Nat.le_of_ble_eq_true rfl)⟩) (wg_30 G _) rfl rfl hl.1 rfl (Nat.le_of_ble_eq_true rfl) dL_law_697 ⟨(by show cells ≤ 1073; omega), (by show slots ≤ 38820; omega)⟩ (fun r81 σ80 H locs hw hk => ?_)
        refine lv_icmp_eq (tgt := 1375) hx hb dL_law_700 (by decide) (fun c82 => ?_) (fun c82 => ?_)
        · replace hw := hw.1 c82
          exact t_L_law_1375 C n _ ih cells slots (by omega) (by omega) _ _ _ _ _ hw hk hl
        · replace hw := hw.2 c82
          refine lv_iconst (v := (0 : Int32)) hx hb dL_law_703 (by decide) ?_
          exact False.elim hw
      replace hw := hw.2
      by_cases c83 : ((xs (x4).toNatClampNeg) &&& (31 : Int32)) = (13 : Int32)
      · have ec83 : (((xs (x4).toNatClampNeg) &&& (31 : Int32))).toInt = 13 := by rw [c83]; rfl
        refine lv_tableIn (tgt := 705) hx hb dL_law_40 (by rw [ec83]; decide) (by rw [ec83]; decide) (by rw [ec83]; rfl) (by decide) ?_
        replace hw := hw.1 c83
        refine lv_aload_n hx hb dL_law_705 rfl (lv_at hl 1 rfl) ?_
        refine lv_aload_n hx hb dL_law_706 rfl (lv_at hl 0 rfl) ?_
        refine lv_iload hx hb dL_law_707 (lv_at hl 4 rfl) ?_
        refine lv_iconst (v := (1 : Int32)) hx hb dL_law_709 (by decide) ?_
        refine lv_iadd hx hb dL_law_710 ?_
        refine va_sld hx hb hX hbl hbA hk.2.2.2 hw.1 dL_law_711 ?_
        replace hw := hw.2
        refine lv_aload_n hx hb dL_law_712 rfl (lv_at hl 0 rfl) ?_
        refine lv_iload hx hb dL_law_713 (lv_at hl 4 rfl) ?_
        refine lv_iconst (v := (2 : Int32)) hx hb dL_law_715 (by decide) ?_
        refine lv_iadd hx hb dL_law_716 ?_
        refine va_sld hx hb hX hbl hbA hk.2.2.2 hw.1 dL_law_717 ?_
        replace hw := hw.2
        refine lv_aload_n hx hb dL_law_718 rfl (lv_at hl 3 rfl) ?_
        refine vx_calli (rest := []) (vx_runSX (As := [.ref (G.1 0), .int (xs ((x4 + (1 : Int32))).toNatClampNeg), .int (xs ((x4 + (2 : Int32))).toNatClampNeg), .ref (G.1 47)]) X.1 (c_L_alongW l hst G _ _ _ _ hw H.size) (vx_cwSW 4 X.1.2.2.2.2 (gzS (aw_r24 _ (List.mem_of_getElem? (i := 16) rfl)) (aw_r24 _ (List.mem_of_getElem? (i := 17) rfl)) (aw_r24 _ (List.mem_of_getElem? (i := 18) rfl)) (aw_r24 _ (List.mem_of_getElem? (i := 19) rfl))) rfl rfl rfl hds_L_along ⟨(Nat.le_of_ble_eq_true rfl), (Nat.le_of_ble_eq_true rfl)⟩) ⟨PI.blind, fun U hU hW => k_pi X.2.2.2 hk hU hW⟩ rfl rfl hl.1 rfl (lv_room (Nat.le_of_ble_eq_true rfl)) dL_law_719 ⟨(by show cells + 1 ≤ 1073; omega), (by show slots + 6 ≤ 38820; omega)⟩) hk.2.2.2 (fun q _ h => AA.up hk.2.2.2.1 h) (fun q h => AA.up hk.2.2.2.1 h) (fun q _ h => AA.up hk.2.2.2.1 h) (fun E ce q9 u t H1 locs1 ht hvm hq => hq.elim) (fun r85 σ84 t H locs ht hvm hw hB hz hk1 hS => ?_)
        replace hk := k_wk1 hk.1 ht hB hS
        refine lv_istore (lv' := [(5, .int r85), (0, .ref b), (1, .ref (G.1 0)), (2, .ref (G.1 30)), (3, .ref (G.1 47)), (4, .int x4)]) hx hb dL_law_722 hl (Nat.le_of_ble_eq_true rfl) rfl (fun ls hl => ?_)
        refine lv_aload_n hx hb dL_law_724 rfl (lv_at hl 3 rfl) ?_
        refine lv_aload_n hx hb dL_law_725 rfl (lv_at hl 1 rfl) ?_
        refine lv_iload hx hb dL_law_726 (lv_at hl 5 rfl) ?_
        refine lv_iconst (v := (1 : Int32)) hx hb dL_law_728 (by decide) ?_
        refine lv_iadd hx hb dL_law_729 ?_
        refine va_sld hx hb hX hbl hbA hk.2.2.2 hw.1 dL_law_730 ?_
        replace hw := hw.2
        refine lv_aload_n hx hb dL_law_731 rfl (lv_at hl 1 rfl) ?_
        refine lv_iload hx hb dL_law_732 (lv_at hl 5 rfl) ?_
        refine lv_iconst (v := (2 : Int32)) hx hb dL_law_734 (by decide) ?_
        refine lv_iadd hx hb dL_law_735 ?_
        refine va_sld hx hb hX hbl hbA hk.2.2.2 hw.1 dL_law_736 ?_
        replace hw := hw.2
        refine k_callVi (rest := []) X hk (c_X6_along l G _ _ _ _ hw) (cwV 2 X.1.2.2.2.2 (gzV (aw_r25 _ (List.mem_of_getElem? (i := 7) rfl)) (aw_r25 _ (List.mem_of_getElem? (i := 8) rfl)) (aw_r25 _ (List.mem_of_getElem? (i := 9) rfl)) (aw_r1 _ (List.mem_of_getElem? (i := 5) rfl)) (aw_r25 _ (List.mem_of_getElem? (i := 10) rfl))) rfl rfl rfl hd_X6_along ⟨(Nat.le_of_ble_eq_true rfl), (Nat.le_of_ble_eq_true rfl)⟩) (wg_30 G _) rfl rfl hl.1 rfl (Nat.le_of_ble_eq_true rfl) dL_law_737 ⟨(by show cells + 1 ≤ 1073; omega), (by show slots + 6 ≤ 38820; omega)⟩ (fun r87 σ86 H locs hw hk => ?_)
        refine lv_istore (lv' := [(6, .int r87), (5, .int r85), (0, .ref b), (1, .ref (G.1 0)), (2, .ref (G.1 30)), (3, .ref (G.1 47)), (4, .int x4)]) hx hb dL_law_740 hl (Nat.le_of_ble_eq_true rfl) rfl (fun ls hl => ?_)
        refine lv_aload_n hx hb dL_law_742 rfl (lv_at hl 4 rfl) ?_
        refine k_callVi (rest := []) X hk (c_X6_thrown l G _  _ hw) (cwV 0 X.1.2.2.2.2 (gzV (aw_r25 _ (List.mem_of_getElem? (i := 11) rfl)) (aw_r25 _ (List.mem_of_getElem? (i := 12) rfl)) (aw_r25 _ (List.mem_of_getElem? (i := 13) rfl)) (aw_r1 _ (List.mem_of_getElem? (i := 5) rfl)) (aw_r25 _ (List.mem_of_getElem? (i := 14) rfl))) rfl rfl rfl hd_X6_thrown ⟨(Nat.le_of_ble_eq_true rfl), (Nat.le_of_ble_eq_true rfl)⟩) (wg_30 G _) rfl rfl hl.1 rfl (Nat.le_of_ble_eq_true rfl) dL_law_743 ⟨(by show cells + 1 ≤ 1073; omega), (by show slots + 6 ≤ 38820; omega)⟩ (fun r89 σ88 H locs hw hk => ?_)
        refine lv_iload hx hb dL_law_746 (lv_at hl 1 rfl) ?_
        refine lv_icmp_eq (tgt := 753) hx hb dL_law_748 (by decide) (fun c90 => ?_) (fun c90 => ?_)
        · replace hw := hw.1 c90
          refine lv_iload hx hb dL_law_753 (lv_at hl 1 rfl) ?_
          refine lv_if_ne (tgt := 770) hx hb dL_law_755 (by decide) (fun c91 => ?_) (fun c91 => ?_)
          · replace hw := hw.2 c91
            refine lv_goto (tgt := 1375) hx hb dL_law_770 (by decide) ?_
            obtain ⟨x4_92, ex4_92⟩ : ∃ y : Int32, y = (x4 + (6 : Int32)) := ⟨_, rfl⟩
            replace hw := hw x4_92 ex4_92
            refine lv_iinc (v := x4_92) (lv' := [(4, .int x4_92), (6, .int r87), (5, .int r85), (0, .ref b), (1, .ref (G.1 0)), (2, .ref (G.1 30)), (3, .ref (G.1 47))]) hx hb dL_law_1375 hl (k := 6) rfl (by rw [ex4_92]; rfl) (Nat.le_of_ble_eq_true rfl) rfl (fun ls hl => ?_)
            refine lv_goto (tgt := 23) hx hb dL_law_1378 (by decide) ?_
            exact ih (cells + 1) (slots + 6) (by omega) (by omega) _ _ _ _ _ hw hk (lv_sub hl [3, 4, 5, 6, 0] rfl)
          · replace hw := hw.1 c91
            refine lv_aload_n hx hb dL_law_758 rfl (lv_at hl 5 rfl) ?_
            refine lv_iconst (v := (0 : Int32)) hx hb dL_law_759 (by decide) ?_
            refine va_lald hx hb hk.1 hk.2.1 47 3 (wg_47 G _) rfl hw.1 dL_law_760 ?_
            replace hw := hw.2
            refine lv_iload hx hb dL_law_761 (lv_at hl 0 rfl) ?_
            refine lv_i2l hx hb dL_law_763 rfl ?_
            refine W.lcmp hx hb dL_law_764 ?_
            refine lv_if_eq (tgt := 770) hx hb dL_law_765 (by decide) (fun c93 => ?_) (fun c93 => ?_)
            · replace hw := hw.1 c93
              refine lv_goto (tgt := 1375) hx hb dL_law_770 (by decide) ?_
              obtain ⟨x4_94, ex4_94⟩ : ∃ y : Int32, y = (x4 + (6 : Int32)) := ⟨_, rfl⟩
              replace hw := hw x4_94 ex4_94
              refine lv_iinc (v := x4_94) (lv' := [(4, .int x4_94), (6, .int r87), (5, .int r85), (0, .ref b), (1, .ref (G.1 0)), (2, .ref (G.1 30)), (3, .ref (G.1 47))]) hx hb dL_law_1375 hl (k := 6) rfl (by rw [ex4_94]; rfl) (Nat.le_of_ble_eq_true rfl) rfl (fun ls hl => ?_)
              refine lv_goto (tgt := 23) hx hb dL_law_1378 (by decide) ?_
              exact ih (cells + 1) (slots + 6) (by omega) (by omega) _ _ _ _ _ hw hk (lv_sub hl [3, 4, 5, 6, 0] rfl)
            · replace hw := hw.2 c93
              refine lv_iconst (v := (0 : Int32)) hx hb dL_law_768 (by decide) ?_
              exact False.elim hw
        · replace hw := hw.2 c90
          refine lv_iconst (v := (0 : Int32)) hx hb dL_law_751 (by decide) ?_
          exact False.elim hw
      replace hw := hw.2
      by_cases c95 : ((xs (x4).toNatClampNeg) &&& (31 : Int32)) = (14 : Int32)
      · have ec95 : (((xs (x4).toNatClampNeg) &&& (31 : Int32))).toInt = 14 := by rw [c95]; rfl
        refine lv_tableIn (tgt := 773) hx hb dL_law_40 (by rw [ec95]; decide) (by rw [ec95]; decide) (by rw [ec95]; rfl) (by decide) ?_
        replace hw := hw.1 c95
        refine lv_aload_n hx hb dL_law_773 rfl (lv_at hl 1 rfl) ?_
        refine lv_aload_n hx hb dL_law_774 rfl (lv_at hl 0 rfl) ?_
        refine lv_iload hx hb dL_law_775 (lv_at hl 4 rfl) ?_
        refine lv_iconst (v := (1 : Int32)) hx hb dL_law_777 (by decide) ?_
        refine lv_iadd hx hb dL_law_778 ?_
        refine va_sld hx hb hX hbl hbA hk.2.2.2 hw.1 dL_law_779 ?_
        replace hw := hw.2
        refine k_callVi (rest := []) X hk (c_X5_safe l G _ _ _ hw) (cwV 1 X.1.2.2.2.2 (gzV (aw_r25 _ (List.mem_of_getElem? (i := 15) rfl)) (aw_r25 _ (List.mem_of_getElem? (i := 16) rfl)) (aw_r25 _ (List.mem_of_getElem? (i := 17) rfl)) (aw_r1 _ (List.mem_of_getElem? (i := 2) rfl)) (aw_r25 _ (List.mem_of_getElem? (i := 18) rfl))) rfl rfl rfl hd_X5_safe ⟨(Nat.le_of_ble_eq_true rfl), (Nat.le_of_ble_eq_true rfl)⟩) (wg_0 G _) rfl rfl hl.1 rfl (Nat.le_of_ble_eq_true rfl) dL_law_780 ⟨(by show cells ≤ 1073; omega), (by show slots ≤ 38820; omega)⟩ (fun r97 σ96 H locs hw hk => ?_)
        refine lv_aload_n hx hb dL_law_783 rfl (lv_at hl 2 rfl) ?_
        refine lv_aload_n hx hb dL_law_784 rfl (lv_at hl 0 rfl) ?_
        refine lv_iload hx hb dL_law_785 (lv_at hl 4 rfl) ?_
        refine lv_iconst (v := (1 : Int32)) hx hb dL_law_787 (by decide) ?_
        refine lv_iadd hx hb dL_law_788 ?_
        refine va_sld hx hb hX hbl hbA hk.2.2.2 hw.1 dL_law_789 ?_
        replace hw := hw.2
        refine k_callVi (rest := [.int r97]) X hk (c_X6_safe l G _ _ _ hw) (cwV 1 X.1.2.2.2.2 (gzV (aw_r28 _ (List.mem_of_getElem? (i := 11) rfl)) (aw_r28 _ (List.mem_of_getElem? (i := 12) rfl)) (aw_r28 _ (List.mem_of_getElem? (i := 13) rfl)) (aw_r1 _ (List.mem_of_getElem? (i := 5) rfl)) (aw_r28 _ (List.mem_of_getElem? (i := 14) rfl))) rfl rfl rfl hd_X6_safe ⟨(Nat.le_of_ble_eq_true rfl), (Nat.le_of_ble_eq_true rfl)⟩) (wg_30 G _) rfl rfl hl.1 rfl (Nat.le_of_ble_eq_true rfl) dL_law_790 ⟨(by show cells ≤ 1073; omega), (by show slots ≤ 38820; omega)⟩ (fun r99 σ98 H locs hw hk => ?_)
        refine lv_icmp_eq (tgt := 1375) hx hb dL_law_793 (by decide) (fun c100 => ?_) (fun c100 => ?_)
        · replace hw := hw.1 c100
          exact t_L_law_1375 C n _ ih cells slots (by omega) (by omega) _ _ _ _ _ hw hk hl
        · replace hw := hw.2 c100
          refine lv_iconst (v := (0 : Int32)) hx hb dL_law_796 (by decide) ?_
          exact False.elim hw
      replace hw := hw.2
      by_cases c101 : ((xs (x4).toNatClampNeg) &&& (31 : Int32)) = (15 : Int32)
      · have ec101 : (((xs (x4).toNatClampNeg) &&& (31 : Int32))).toInt = 15 := by rw [c101]; rfl
        refine lv_tableIn (tgt := 798) hx hb dL_law_40 (by rw [ec101]; decide) (by rw [ec101]; decide) (by rw [ec101]; rfl) (by decide) ?_
        replace hw := hw.1 c101
        refine lv_aload_n hx hb dL_law_798 rfl (lv_at hl 1 rfl) ?_
        refine k_callVi (rest := []) X hk (c_X5_quickest l G _  _ hw) (cwV 0 X.1.2.2.2.2 (gzV (aw_r29 _ (List.mem_of_getElem? (i := 19) rfl)) (aw_r29 _ (List.mem_of_getElem? (i := 20) rfl)) (aw_r29 _ (List.mem_of_getElem? (i := 21) rfl)) (aw_r1 _ (List.mem_of_getElem? (i := 2) rfl)) (aw_r29 _ (List.mem_of_getElem? (i := 22) rfl))) rfl rfl rfl hd_X5_quickest ⟨(Nat.le_of_ble_eq_true rfl), (Nat.le_of_ble_eq_true rfl)⟩) (wg_0 G _) rfl rfl hl.1 rfl (Nat.le_of_ble_eq_true rfl) dL_law_799 ⟨(by show cells ≤ 1073; omega), (by show slots ≤ 38820; omega)⟩ (fun r103 σ102 H locs hw hk => ?_)
        refine lv_aload_n hx hb dL_law_802 rfl (lv_at hl 2 rfl) ?_
        refine k_callVi (rest := [.int r103]) X hk (c_X6_quickest l G _  _ hw) (cwV 0 X.1.2.2.2.2 (gzV (aw_r31 _ (List.mem_of_getElem? (i := 1) rfl)) (aw_r31 _ (List.mem_of_getElem? (i := 2) rfl)) (aw_r31 _ (List.mem_of_getElem? (i := 3) rfl)) (aw_r1 _ (List.mem_of_getElem? (i := 5) rfl)) (aw_r31 _ (List.mem_of_getElem? (i := 4) rfl))) rfl rfl rfl hd_X6_quickest ⟨(Nat.le_of_ble_eq_true rfl), (Nat.le_of_ble_eq_true rfl)⟩) (wg_30 G _) rfl rfl hl.1 rfl (Nat.le_of_ble_eq_true rfl) dL_law_803 ⟨(by show cells ≤ 1073; omega), (by show slots ≤ 38820; omega)⟩ (fun r105 σ104 H locs hw hk => ?_)
        refine lv_icmp_eq (tgt := 1375) hx hb dL_law_806 (by decide) (fun c106 => ?_) (fun c106 => ?_)
        · replace hw := hw.1 c106
          exact t_L_law_1375 C n _ ih cells slots (by omega) (by omega) _ _ _ _ _ hw hk hl
        · replace hw := hw.2 c106
          refine lv_iconst (v := (0 : Int32)) hx hb dL_law_809 (by decide) ?_
          exact False.elim hw
      replace hw := hw.2
      by_cases c107 : ((xs (x4).toNatClampNeg) &&& (31 : Int32)) = (16 : Int32)
      · have ec107 : (((xs (x4).toNatClampNeg) &&& (31 : Int32))).toInt = 16 := by rw [c107]; rfl
        refine lv_tableIn (tgt := 811) hx hb dL_law_40 (by rw [ec107]; decide) (by rw [ec107]; decide) (by rw [ec107]; rfl) (by decide) ?_
        replace hw := hw.1 c107
        refine lv_aload_n hx hb dL_law_811 rfl (lv_at hl 1 rfl) ?_
        refine lv_aload_n hx hb dL_law_812 rfl (lv_at hl 0 rfl) ?_
        refine lv_iload hx hb dL_law_813 (lv_at hl 4 rfl) ?_
        refine lv_iconst (v := (1 : Int32)) hx hb dL_law_815 (by decide) ?_
        refine lv_iadd hx hb dL_law_816 ?_
        refine va_sld hx hb hX hbl hbA hk.2.2.2 hw.1 dL_law_817 ?_
        replace hw := hw.2
        refine lv_aload_n hx hb dL_law_818 rfl (lv_at hl 0 rfl) ?_
        refine lv_iload hx hb dL_law_819 (lv_at hl 4 rfl) ?_
        refine lv_iconst (v := (2 : Int32)) hx hb dL_law_821 (by decide) ?_
        refine lv_iadd hx hb dL_law_822 ?_
        refine va_sld hx hb hX hbl hbA hk.2.2.2 hw.1 dL_law_823 ?_
        replace hw := hw.2
        refine lv_aload_n hx hb dL_law_824 rfl (lv_at hl 0 rfl) ?_
        refine lv_iload hx hb dL_law_825 (lv_at hl 4 rfl) ?_
        refine lv_iconst (v := (3 : Int32)) hx hb dL_law_827 (by decide) ?_
        refine lv_iadd hx hb dL_law_828 ?_
        refine va_sld hx hb hX hbl hbA hk.2.2.2 hw.1 dL_law_829 ?_
        replace hw := hw.2
        refine k_callVi (rest := []) X hk (c_X5_open l G _ _ _ _ _ hw) (cwV 3 X.1.2.2.2.2 (gzV (aw_r31 _ (List.mem_of_getElem? (i := 17) rfl)) (aw_r31 _ (List.mem_of_getElem? (i := 18) rfl)) (aw_r31 _ (List.mem_of_getElem? (i := 19) rfl)) (aw_r1 _ (List.mem_of_getElem? (i := 2) rfl)) (aw_r31 _ (List.mem_of_getElem? (i := 20) rfl))) rfl rfl rfl hd_X5_open ⟨(Nat.le_of_ble_eq_true rfl), (Nat.le_of_ble_eq_true rfl)⟩) (wg_0 G _) rfl rfl hl.1 rfl (Nat.le_of_ble_eq_true rfl) dL_law_830 ⟨(by show cells ≤ 1073; omega), (by show slots ≤ 38820; omega)⟩ (fun r109 σ108 H locs hw hk => ?_)
        refine lv_aload_n hx hb dL_law_833 rfl (lv_at hl 2 rfl) ?_
        refine lv_aload_n hx hb dL_law_834 rfl (lv_at hl 0 rfl) ?_
        refine lv_iload hx hb dL_law_835 (lv_at hl 4 rfl) ?_
        refine lv_iconst (v := (1 : Int32)) hx hb dL_law_837 (by decide) ?_
        refine lv_iadd hx hb dL_law_838 ?_
        refine va_sld hx hb hX hbl hbA hk.2.2.2 hw.1 dL_law_839 ?_
        replace hw := hw.2
        refine lv_aload_n hx hb dL_law_840 rfl (lv_at hl 0 rfl) ?_
        refine lv_iload hx hb dL_law_841 (lv_at hl 4 rfl) ?_
        refine lv_iconst (v := (2 : Int32)) hx hb dL_law_843 (by decide) ?_
        refine lv_iadd hx hb dL_law_844 ?_
        refine va_sld hx hb hX hbl hbA hk.2.2.2 hw.1 dL_law_845 ?_
        replace hw := hw.2
        refine lv_aload_n hx hb dL_law_846 rfl (lv_at hl 0 rfl) ?_
        refine lv_iload hx hb dL_law_847 (lv_at hl 4 rfl) ?_
        refine lv_iconst (v := (3 : Int32)) hx hb dL_law_849 (by decide) ?_
        refine lv_iadd hx hb dL_law_850 ?_
        refine va_sld hx hb hX hbl hbA hk.2.2.2 hw.1 dL_law_851 ?_
        replace hw := hw.2
        refine k_callVi (rest := [.int r109]) X hk (c_X6_open l G _ _ _ _ _ hw) (cwV 3 X.1.2.2.2.2 (gzV (aw_r32 _ (List.mem_of_getElem? (i := 5) rfl)) (aw_r32 _ (List.mem_of_getElem? (i := 6) rfl)) (aw_r32 _ (List.mem_of_getElem? (i := 7) rfl)) (aw_r1 _ (List.mem_of_getElem? (i := 5) rfl)) (aw_r32 _ (List.mem_of_getElem? (i := 8) rfl))) rfl rfl rfl hd_X6_open ⟨(Nat.le_of_ble_eq_true rfl), (Nat.le_of_ble_eq_true rfl)⟩) (wg_30 G _) rfl rfl hl.1 rfl (Nat.le_of_ble_eq_true rfl) dL_law_852 ⟨(by show cells ≤ 1073; omega), (by show slots ≤ 38820; omega)⟩ (fun r111 σ110 H locs hw hk => ?_)
        refine lv_icmp_eq (tgt := 1375) hx hb dL_law_855 (by decide) (fun c112 => ?_) (fun c112 => ?_)
        · replace hw := hw.1 c112
          exact t_L_law_1375 C n _ ih cells slots (by omega) (by omega) _ _ _ _ _ hw hk hl
        · replace hw := hw.2 c112
          refine lv_iconst (v := (0 : Int32)) hx hb dL_law_858 (by decide) ?_
          exact False.elim hw
      replace hw := hw.2
      by_cases c113 : ((xs (x4).toNatClampNeg) &&& (31 : Int32)) = (17 : Int32)
      · have ec113 : (((xs (x4).toNatClampNeg) &&& (31 : Int32))).toInt = 17 := by rw [c113]; rfl
        refine lv_tableIn (tgt := 860) hx hb dL_law_40 (by rw [ec113]; decide) (by rw [ec113]; decide) (by rw [ec113]; rfl) (by decide) ?_
        replace hw := hw.1 c113
        refine lv_aload_n hx hb dL_law_860 rfl (lv_at hl 1 rfl) ?_
        refine lv_aload_n hx hb dL_law_861 rfl (lv_at hl 0 rfl) ?_
        refine lv_iload hx hb dL_law_862 (lv_at hl 4 rfl) ?_
        refine lv_iconst (v := (1 : Int32)) hx hb dL_law_864 (by decide) ?_
        refine lv_iadd hx hb dL_law_865 ?_
        refine va_sld hx hb hX hbl hbA hk.2.2.2 hw.1 dL_law_866 ?_
        replace hw := hw.2
        refine lv_aload_n hx hb dL_law_867 rfl (lv_at hl 0 rfl) ?_
        refine lv_iload hx hb dL_law_868 (lv_at hl 4 rfl) ?_
        refine lv_iconst (v := (2 : Int32)) hx hb dL_law_870 (by decide) ?_
        refine lv_iadd hx hb dL_law_871 ?_
        refine va_sld hx hb hX hbl hbA hk.2.2.2 hw.1 dL_law_872 ?_
        replace hw := hw.2
        refine k_callVi (rest := []) X hk (c_X5_openings l G _ _ _ _ hw) (cwV 2 X.1.2.2.2.2 (gzV (aw_r32 _ (List.mem_of_getElem? (i := 13) rfl)) (aw_r32 _ (List.mem_of_getElem? (i := 14) rfl)) (aw_r32 _ (List.mem_of_getElem? (i := 15) rfl)) (aw_r1 _ (List.mem_of_getElem? (i := 2) rfl)) (aw_r32 _ (List.mem_of_getElem? (i := 16) rfl))) rfl rfl rfl hd_X5_openings ⟨(Nat.le_of_ble_eq_true rfl), (Nat.le_of_ble_eq_true rfl)⟩) (wg_0 G _) rfl rfl hl.1 rfl (Nat.le_of_ble_eq_true rfl) dL_law_873 ⟨(by show cells ≤ 1073; omega), (by show slots ≤ 38820; omega)⟩ (fun r115 σ114 H locs hw hk => ?_)
        refine lv_aload_n hx hb dL_law_876 rfl (lv_at hl 2 rfl) ?_
        refine lv_aload_n hx hb dL_law_877 rfl (lv_at hl 0 rfl) ?_
        refine lv_iload hx hb dL_law_878 (lv_at hl 4 rfl) ?_
        refine lv_iconst (v := (1 : Int32)) hx hb dL_law_880 (by decide) ?_
        refine lv_iadd hx hb dL_law_881 ?_
        refine va_sld hx hb hX hbl hbA hk.2.2.2 hw.1 dL_law_882 ?_
        replace hw := hw.2
        refine lv_aload_n hx hb dL_law_883 rfl (lv_at hl 0 rfl) ?_
        refine lv_iload hx hb dL_law_884 (lv_at hl 4 rfl) ?_
        refine lv_iconst (v := (2 : Int32)) hx hb dL_law_886 (by decide) ?_
        refine lv_iadd hx hb dL_law_887 ?_
        refine va_sld hx hb hX hbl hbA hk.2.2.2 hw.1 dL_law_888 ?_
        replace hw := hw.2
        refine k_callVi (rest := [.int r115]) X hk (c_X6_openings l G _ _ _ _ hw) (cwV 2 X.1.2.2.2.2 (gzV (aw_r32 _ (List.mem_of_getElem? (i := 17) rfl)) (aw_r32 _ (List.mem_of_getElem? (i := 18) rfl)) (aw_r32 _ (List.mem_of_getElem? (i := 19) rfl)) (aw_r1 _ (List.mem_of_getElem? (i := 5) rfl)) (aw_r32 _ (List.mem_of_getElem? (i := 20) rfl))) rfl rfl rfl hd_X6_openings ⟨(Nat.le_of_ble_eq_true rfl), (Nat.le_of_ble_eq_true rfl)⟩) (wg_30 G _) rfl rfl hl.1 rfl (Nat.le_of_ble_eq_true rfl) dL_law_889 ⟨(by show cells ≤ 1073; omega), (by show slots ≤ 38820; omega)⟩ (fun r117 σ116 H locs hw hk => ?_)
        refine lv_icmp_eq (tgt := 1375) hx hb dL_law_892 (by decide) (fun c118 => ?_) (fun c118 => ?_)
        · replace hw := hw.1 c118
          exact t_L_law_1375 C n _ ih cells slots (by omega) (by omega) _ _ _ _ _ hw hk hl
        · replace hw := hw.2 c118
          refine lv_iconst (v := (0 : Int32)) hx hb dL_law_895 (by decide) ?_
          exact False.elim hw
      replace hw := hw.2
      by_cases c119 : ((xs (x4).toNatClampNeg) &&& (31 : Int32)) = (18 : Int32)
      · have ec119 : (((xs (x4).toNatClampNeg) &&& (31 : Int32))).toInt = 18 := by rw [c119]; rfl
        refine lv_tableIn (tgt := 897) hx hb dL_law_40 (by rw [ec119]; decide) (by rw [ec119]; decide) (by rw [ec119]; rfl) (by decide) ?_
        replace hw := hw.1 c119
        refine lv_aload_n hx hb dL_law_897 rfl (lv_at hl 1 rfl) ?_
        refine lv_aload_n hx hb dL_law_898 rfl (lv_at hl 0 rfl) ?_
        refine lv_iload hx hb dL_law_899 (lv_at hl 4 rfl) ?_
        refine lv_iconst (v := (1 : Int32)) hx hb dL_law_901 (by decide) ?_
        refine lv_iadd hx hb dL_law_902 ?_
        refine va_sld hx hb hX hbl hbA hk.2.2.2 hw.1 dL_law_903 ?_
        replace hw := hw.2
        refine k_callVi (rest := []) X hk (c_X5_shut l G _ _ _ hw) (cwV 1 X.1.2.2.2.2 (gzV (aw_r32 _ (List.mem_of_getElem? (i := 21) rfl)) (aw_r32 _ (List.mem_of_getElem? (i := 22) rfl)) (aw_r32 _ (List.mem_of_getElem? (i := 23) rfl)) (aw_r1 _ (List.mem_of_getElem? (i := 2) rfl)) (aw_r33 _ (List.mem_of_getElem? (i := 0) rfl))) rfl rfl rfl hd_X5_shut ⟨(Nat.le_of_ble_eq_true rfl), (Nat.le_of_ble_eq_true rfl)⟩) (wg_0 G _) rfl rfl hl.1 rfl (Nat.le_of_ble_eq_true rfl) dL_law_904 ⟨(by show cells ≤ 1073; omega), (by show slots ≤ 38820; omega)⟩ (fun r121 σ120 H locs hw hk => ?_)
        refine lv_aload_n hx hb dL_law_907 rfl (lv_at hl 2 rfl) ?_
        refine lv_aload_n hx hb dL_law_908 rfl (lv_at hl 0 rfl) ?_
        refine lv_iload hx hb dL_law_909 (lv_at hl 4 rfl) ?_
        refine lv_iconst (v := (1 : Int32)) hx hb dL_law_911 (by decide) ?_
        refine lv_iadd hx hb dL_law_912 ?_
        refine va_sld hx hb hX hbl hbA hk.2.2.2 hw.1 dL_law_913 ?_
        replace hw := hw.2
        refine k_callVi (rest := [.int r121]) X hk (c_X6_shut l G _ _ _ hw) (cwV 1 X.1.2.2.2.2 (gzV (aw_r33 _ (List.mem_of_getElem? (i := 6) rfl)) (aw_r33 _ (List.mem_of_getElem? (i := 7) rfl)) (aw_r33 _ (List.mem_of_getElem? (i := 8) rfl)) (aw_r1 _ (List.mem_of_getElem? (i := 5) rfl)) (aw_r33 _ (List.mem_of_getElem? (i := 9) rfl))) rfl rfl rfl hd_X6_shut ⟨(Nat.le_of_ble_eq_true rfl), (Nat.le_of_ble_eq_true rfl)⟩) (wg_30 G _) rfl rfl hl.1 rfl (Nat.le_of_ble_eq_true rfl) dL_law_914 ⟨(by show cells ≤ 1073; omega), (by show slots ≤ 38820; omega)⟩ (fun r123 σ122 H locs hw hk => ?_)
        refine lv_icmp_eq (tgt := 1375) hx hb dL_law_917 (by decide) (fun c124 => ?_) (fun c124 => ?_)
        · replace hw := hw.1 c124
          exact t_L_law_1375 C n _ ih cells slots (by omega) (by omega) _ _ _ _ _ hw hk hl
        · replace hw := hw.2 c124
          refine lv_iconst (v := (0 : Int32)) hx hb dL_law_920 (by decide) ?_
          exact False.elim hw
      replace hw := hw.2
      by_cases c125 : ((xs (x4).toNatClampNeg) &&& (31 : Int32)) = (19 : Int32)
      · have ec125 : (((xs (x4).toNatClampNeg) &&& (31 : Int32))).toInt = 19 := by rw [c125]; rfl
        refine lv_tableIn (tgt := 922) hx hb dL_law_40 (by rw [ec125]; decide) (by rw [ec125]; decide) (by rw [ec125]; rfl) (by decide) ?_
        replace hw := hw.1 c125
        refine lv_aload_n hx hb dL_law_922 rfl (lv_at hl 1 rfl) ?_
        refine lv_aload_n hx hb dL_law_923 rfl (lv_at hl 0 rfl) ?_
        refine lv_iload hx hb dL_law_924 (lv_at hl 4 rfl) ?_
        refine lv_iconst (v := (1 : Int32)) hx hb dL_law_926 (by decide) ?_
        refine lv_iadd hx hb dL_law_927 ?_
        refine va_sld hx hb hX hbl hbA hk.2.2.2 hw.1 dL_law_928 ?_
        replace hw := hw.2
        refine lv_aload_n hx hb dL_law_929 rfl (lv_at hl 0 rfl) ?_
        refine lv_iload hx hb dL_law_930 (lv_at hl 4 rfl) ?_
        refine lv_iconst (v := (2 : Int32)) hx hb dL_law_932 (by decide) ?_
        refine lv_iadd hx hb dL_law_933 ?_
        refine va_sld hx hb hX hbl hbA hk.2.2.2 hw.1 dL_law_934 ?_
        replace hw := hw.2
        refine lv_if_eq (tgt := 942) hx hb dL_law_935 (by decide) (fun c126 => ?_) (fun c126 => ?_)
        · replace hw := hw.1 c126
          refine lv_iconst (v := (0 : Int32)) hx hb dL_law_942 (by decide) ?_
          exact t_L_law_943 C n _ ih cells slots (by omega) (by omega) _ _ _ _ _ _ _ hw hk hl
        · replace hw := hw.2 c126
          refine lv_iconst (v := (1 : Int32)) hx hb dL_law_938 (by decide) ?_
          refine lv_goto (tgt := 943) hx hb dL_law_939 (by decide) ?_
          exact t_L_law_943 C n _ ih cells slots (by omega) (by omega) _ _ _ _ _ _ _ hw hk hl
      replace hw := hw.2
      by_cases c133 : ((xs (x4).toNatClampNeg) &&& (31 : Int32)) = (20 : Int32)
      · have ec133 : (((xs (x4).toNatClampNeg) &&& (31 : Int32))).toInt = 20 := by rw [c133]; rfl
        refine lv_tableIn (tgt := 987) hx hb dL_law_40 (by rw [ec133]; decide) (by rw [ec133]; decide) (by rw [ec133]; rfl) (by decide) ?_
        replace hw := hw.1 c133
        refine lv_aload_n hx hb dL_law_987 rfl (lv_at hl 1 rfl) ?_
        refine lv_aload_n hx hb dL_law_988 rfl (lv_at hl 0 rfl) ?_
        refine lv_iload hx hb dL_law_989 (lv_at hl 4 rfl) ?_
        refine lv_iconst (v := (1 : Int32)) hx hb dL_law_991 (by decide) ?_
        refine lv_iadd hx hb dL_law_992 ?_
        refine va_sld hx hb hX hbl hbA hk.2.2.2 hw.1 dL_law_993 ?_
        replace hw := hw.2
        refine lv_aload_n hx hb dL_law_994 rfl (lv_at hl 0 rfl) ?_
        refine lv_iload hx hb dL_law_995 (lv_at hl 4 rfl) ?_
        refine lv_iconst (v := (2 : Int32)) hx hb dL_law_997 (by decide) ?_
        refine lv_iadd hx hb dL_law_998 ?_
        refine va_sld hx hb hX hbl hbA hk.2.2.2 hw.1 dL_law_999 ?_
        replace hw := hw.2
        refine k_callVi (rest := []) X hk (c_X5_turned l G _ _ _ _ hw) (cwV 2 X.1.2.2.2.2 (gzV (aw_r34 _ (List.mem_of_getElem? (i := 5) rfl)) (aw_r34 _ (List.mem_of_getElem? (i := 6) rfl)) (aw_r34 _ (List.mem_of_getElem? (i := 7) rfl)) (aw_r1 _ (List.mem_of_getElem? (i := 2) rfl)) (aw_r34 _ (List.mem_of_getElem? (i := 8) rfl))) rfl rfl rfl hd_X5_turned ⟨(Nat.le_of_ble_eq_true rfl), (Nat.le_of_ble_eq_true rfl)⟩) (wg_0 G _) rfl rfl hl.1 rfl (Nat.le_of_ble_eq_true rfl) dL_law_1000 ⟨(by show cells ≤ 1073; omega), (by show slots ≤ 38820; omega)⟩ (fun r135 σ134 H locs hw hk => ?_)
        refine lv_aload_n hx hb dL_law_1003 rfl (lv_at hl 2 rfl) ?_
        refine lv_aload_n hx hb dL_law_1004 rfl (lv_at hl 0 rfl) ?_
        refine lv_iload hx hb dL_law_1005 (lv_at hl 4 rfl) ?_
        refine lv_iconst (v := (1 : Int32)) hx hb dL_law_1007 (by decide) ?_
        refine lv_iadd hx hb dL_law_1008 ?_
        refine va_sld hx hb hX hbl hbA hk.2.2.2 hw.1 dL_law_1009 ?_
        replace hw := hw.2
        refine lv_aload_n hx hb dL_law_1010 rfl (lv_at hl 0 rfl) ?_
        refine lv_iload hx hb dL_law_1011 (lv_at hl 4 rfl) ?_
        refine lv_iconst (v := (2 : Int32)) hx hb dL_law_1013 (by decide) ?_
        refine lv_iadd hx hb dL_law_1014 ?_
        refine va_sld hx hb hX hbl hbA hk.2.2.2 hw.1 dL_law_1015 ?_
        replace hw := hw.2
        refine k_callVi (rest := [.int r135]) X hk (c_X6_turned l G _ _ _ _ hw) (cwV 2 X.1.2.2.2.2 (gzV (aw_r34 _ (List.mem_of_getElem? (i := 9) rfl)) (aw_r34 _ (List.mem_of_getElem? (i := 10) rfl)) (aw_r34 _ (List.mem_of_getElem? (i := 11) rfl)) (aw_r1 _ (List.mem_of_getElem? (i := 5) rfl)) (aw_r34 _ (List.mem_of_getElem? (i := 12) rfl))) rfl rfl rfl hd_X6_turned ⟨(Nat.le_of_ble_eq_true rfl), (Nat.le_of_ble_eq_true rfl)⟩) (wg_30 G _) rfl rfl hl.1 rfl (Nat.le_of_ble_eq_true rfl) dL_law_1016 ⟨(by show cells ≤ 1073; omega), (by show slots ≤ 38820; omega)⟩ (fun r137 σ136 H locs hw hk => ?_)
        refine lv_icmp_eq (tgt := 1375) hx hb dL_law_1019 (by decide) (fun c138 => ?_) (fun c138 => ?_)
        · replace hw := hw.1 c138
          exact t_L_law_1375 C n _ ih cells slots (by omega) (by omega) _ _ _ _ _ hw hk hl
        · replace hw := hw.2 c138
          refine lv_iconst (v := (0 : Int32)) hx hb dL_law_1022 (by decide) ?_
          exact False.elim hw
      replace hw := hw.2
      by_cases c139 : ((xs (x4).toNatClampNeg) &&& (31 : Int32)) = (21 : Int32)
      · have ec139 : (((xs (x4).toNatClampNeg) &&& (31 : Int32))).toInt = 21 := by rw [c139]; rfl
        refine lv_tableIn (tgt := 1024) hx hb dL_law_40 (by rw [ec139]; decide) (by rw [ec139]; decide) (by rw [ec139]; rfl) (by decide) ?_
        replace hw := hw.1 c139
        refine lv_aload_n hx hb dL_law_1024 rfl (lv_at hl 1 rfl) ?_
        refine lv_aload_n hx hb dL_law_1025 rfl (lv_at hl 0 rfl) ?_
        refine lv_iload hx hb dL_law_1026 (lv_at hl 4 rfl) ?_
        refine lv_iconst (v := (1 : Int32)) hx hb dL_law_1028 (by decide) ?_
        refine lv_iadd hx hb dL_law_1029 ?_
        refine va_sld hx hb hX hbl hbA hk.2.2.2 hw.1 dL_law_1030 ?_
        replace hw := hw.2
        refine k_callVi (rest := []) X hk (c_X5_bestTurn l G _ _ _ hw) (cwV 1 X.1.2.2.2.2 (gzV (aw_r34 _ (List.mem_of_getElem? (i := 13) rfl)) (aw_r34 _ (List.mem_of_getElem? (i := 14) rfl)) (aw_r34 _ (List.mem_of_getElem? (i := 15) rfl)) (aw_r1 _ (List.mem_of_getElem? (i := 2) rfl)) (aw_r34 _ (List.mem_of_getElem? (i := 16) rfl))) rfl rfl rfl hd_X5_bestTurn ⟨(Nat.le_of_ble_eq_true rfl), (Nat.le_of_ble_eq_true rfl)⟩) (wg_0 G _) rfl rfl hl.1 rfl (Nat.le_of_ble_eq_true rfl) dL_law_1031 ⟨(by show cells ≤ 1073; omega), (by show slots ≤ 38820; omega)⟩ (fun r141 σ140 H locs hw hk => ?_)
        refine lv_aload_n hx hb dL_law_1034 rfl (lv_at hl 2 rfl) ?_
        refine lv_aload_n hx hb dL_law_1035 rfl (lv_at hl 0 rfl) ?_
        refine lv_iload hx hb dL_law_1036 (lv_at hl 4 rfl) ?_
        refine lv_iconst (v := (1 : Int32)) hx hb dL_law_1038 (by decide) ?_
        refine lv_iadd hx hb dL_law_1039 ?_
        refine va_sld hx hb hX hbl hbA hk.2.2.2 hw.1 dL_law_1040 ?_
        replace hw := hw.2
        refine k_callVi (rest := [.int r141]) X hk (c_X6_bestTurn l G _ _ _ hw) (cwV 1 X.1.2.2.2.2 (gzV (aw_r36 _ (List.mem_of_getElem? (i := 10) rfl)) (aw_r36 _ (List.mem_of_getElem? (i := 11) rfl)) (aw_r36 _ (List.mem_of_getElem? (i := 12) rfl)) (aw_r1 _ (List.mem_of_getElem? (i := 5) rfl)) (aw_r36 _ (List.mem_of_getElem? (i := 13) rfl))) rfl rfl rfl hd_X6_bestTurn ⟨(Nat.le_of_ble_eq_true rfl), (Nat.le_of_ble_eq_true rfl)⟩) (wg_30 G _) rfl rfl hl.1 rfl (Nat.le_of_ble_eq_true rfl) dL_law_1041 ⟨(by show cells ≤ 1073; omega), (by show slots ≤ 38820; omega)⟩ (fun r143 σ142 H locs hw hk => ?_)
        refine lv_icmp_eq (tgt := 1375) hx hb dL_law_1044 (by decide) (fun c144 => ?_) (fun c144 => ?_)
        · replace hw := hw.1 c144
          exact t_L_law_1375 C n _ ih cells slots (by omega) (by omega) _ _ _ _ _ hw hk hl
        · replace hw := hw.2 c144
          refine lv_iconst (v := (0 : Int32)) hx hb dL_law_1047 (by decide) ?_
          exact False.elim hw
      replace hw := hw.2
      by_cases c145 : ((xs (x4).toNatClampNeg) &&& (31 : Int32)) = (22 : Int32)
      · have ec145 : (((xs (x4).toNatClampNeg) &&& (31 : Int32))).toInt = 22 := by rw [c145]; rfl
        refine lv_tableIn (tgt := 1049) hx hb dL_law_40 (by rw [ec145]; decide) (by rw [ec145]; decide) (by rw [ec145]; rfl) (by decide) ?_
        replace hw := hw.1 c145
        refine lv_aload_n hx hb dL_law_1049 rfl (lv_at hl 1 rfl) ?_
        refine lv_aload_n hx hb dL_law_1050 rfl (lv_at hl 0 rfl) ?_
        refine lv_iload hx hb dL_law_1051 (lv_at hl 4 rfl) ?_
        refine lv_iconst (v := (1 : Int32)) hx hb dL_law_1053 (by decide) ?_
        refine lv_iadd hx hb dL_law_1054 ?_
        refine va_sld hx hb hX hbl hbA hk.2.2.2 hw.1 dL_law_1055 ?_
        replace hw := hw.2
        refine lv_aload_n hx hb dL_law_1056 rfl (lv_at hl 0 rfl) ?_
        refine lv_iload hx hb dL_law_1057 (lv_at hl 4 rfl) ?_
        refine lv_iconst (v := (2 : Int32)) hx hb dL_law_1059 (by decide) ?_
        refine lv_iadd hx hb dL_law_1060 ?_
        refine va_sld hx hb hX hbl hbA hk.2.2.2 hw.1 dL_law_1061 ?_
        replace hw := hw.2
        refine k_callVi (rest := []) X hk (c_X5_turns l G _ _ _ _ hw) (cwV 2 X.1.2.2.2.2 (gzV (aw_r36 _ (List.mem_of_getElem? (i := 14) rfl)) (aw_r36 _ (List.mem_of_getElem? (i := 15) rfl)) (aw_r36 _ (List.mem_of_getElem? (i := 16) rfl)) (aw_r1 _ (List.mem_of_getElem? (i := 2) rfl)) (aw_r36 _ (List.mem_of_getElem? (i := 17) rfl))) rfl rfl rfl hd_X5_turns ⟨(Nat.le_of_ble_eq_true rfl), (Nat.le_of_ble_eq_true rfl)⟩) (wg_0 G _) rfl rfl hl.1 rfl (Nat.le_of_ble_eq_true rfl) dL_law_1062 ⟨(by show cells ≤ 1073; omega), (by show slots ≤ 38820; omega)⟩ (fun r147 σ146 H locs hw hk => ?_)
        refine lv_aload_n hx hb dL_law_1065 rfl (lv_at hl 2 rfl) ?_
        refine lv_aload_n hx hb dL_law_1066 rfl (lv_at hl 0 rfl) ?_
        refine lv_iload hx hb dL_law_1067 (lv_at hl 4 rfl) ?_
        refine lv_iconst (v := (1 : Int32)) hx hb dL_law_1069 (by decide) ?_
        refine lv_iadd hx hb dL_law_1070 ?_
        refine va_sld hx hb hX hbl hbA hk.2.2.2 hw.1 dL_law_1071 ?_
        replace hw := hw.2
        refine lv_aload_n hx hb dL_law_1072 rfl (lv_at hl 0 rfl) ?_
        refine lv_iload hx hb dL_law_1073 (lv_at hl 4 rfl) ?_
        refine lv_iconst (v := (2 : Int32)) hx hb dL_law_1075 (by decide) ?_
        refine lv_iadd hx hb dL_law_1076 ?_
        refine va_sld hx hb hX hbl hbA hk.2.2.2 hw.1 dL_law_1077 ?_
        replace hw := hw.2
        refine k_callVi (rest := [.int r147]) X hk (c_X6_turns l G _ _ _ _ hw) (cwV 2 X.1.2.2.2.2 (gzV (aw_r38 _ (List.mem_of_getElem? (i := 1) rfl)) (aw_r38 _ (List.mem_of_getElem? (i := 2) rfl)) (aw_r38 _ (List.mem_of_getElem? (i := 3) rfl)) (aw_r1 _ (List.mem_of_getElem? (i := 5) rfl)) (aw_r38 _ (List.mem_of_getElem? (i := 4) rfl))) rfl rfl rfl hd_X6_turns ⟨(Nat.le_of_ble_eq_true rfl), (Nat.le_of_ble_eq_true rfl)⟩) (wg_30 G _) rfl rfl hl.1 rfl (Nat.le_of_ble_eq_true rfl) dL_law_1078 ⟨(by show cells ≤ 1073; omega), (by show slots ≤ 38820; omega)⟩ (fun r149 σ148 H locs hw hk => ?_)
        refine lv_icmp_eq (tgt := 1375) hx hb dL_law_1081 (by decide) (fun c150 => ?_) (fun c150 => ?_)
        · replace hw := hw.1 c150
          exact t_L_law_1375 C n _ ih cells slots (by omega) (by omega) _ _ _ _ _ hw hk hl
        · replace hw := hw.2 c150
          refine lv_iconst (v := (0 : Int32)) hx hb dL_law_1084 (by decide) ?_
          exact False.elim hw
      replace hw := hw.2
      by_cases c151 : ((xs (x4).toNatClampNeg) &&& (31 : Int32)) = (23 : Int32)
      · have ec151 : (((xs (x4).toNatClampNeg) &&& (31 : Int32))).toInt = 23 := by rw [c151]; rfl
        refine lv_tableIn (tgt := 1086) hx hb dL_law_40 (by rw [ec151]; decide) (by rw [ec151]; decide) (by rw [ec151]; rfl) (by decide) ?_
        replace hw := hw.1 c151
        refine lv_aload_n hx hb dL_law_1086 rfl (lv_at hl 1 rfl) ?_
        refine lv_aload_n hx hb dL_law_1087 rfl (lv_at hl 0 rfl) ?_
        refine lv_iload hx hb dL_law_1088 (lv_at hl 4 rfl) ?_
        refine lv_iconst (v := (1 : Int32)) hx hb dL_law_1090 (by decide) ?_
        refine lv_iadd hx hb dL_law_1091 ?_
        refine va_sld hx hb hX hbl hbA hk.2.2.2 hw.1 dL_law_1092 ?_
        replace hw := hw.2
        refine lv_aload_n hx hb dL_law_1093 rfl (lv_at hl 0 rfl) ?_
        refine lv_iload hx hb dL_law_1094 (lv_at hl 4 rfl) ?_
        refine lv_iconst (v := (2 : Int32)) hx hb dL_law_1096 (by decide) ?_
        refine lv_iadd hx hb dL_law_1097 ?_
        refine va_sld hx hb hX hbl hbA hk.2.2.2 hw.1 dL_law_1098 ?_
        replace hw := hw.2
        refine k_callVi (rest := []) X hk (c_X5_roomy l G _ _ _ _ hw) (cwV 2 X.1.2.2.2.2 (gzV (aw_r38 _ (List.mem_of_getElem? (i := 12) rfl)) (aw_r38 _ (List.mem_of_getElem? (i := 13) rfl)) (aw_r38 _ (List.mem_of_getElem? (i := 14) rfl)) (aw_r1 _ (List.mem_of_getElem? (i := 2) rfl)) (aw_r38 _ (List.mem_of_getElem? (i := 15) rfl))) rfl rfl rfl hd_X5_roomy ⟨(Nat.le_of_ble_eq_true rfl), (Nat.le_of_ble_eq_true rfl)⟩) (wg_0 G _) rfl rfl hl.1 rfl (Nat.le_of_ble_eq_true rfl) dL_law_1099 ⟨(by show cells ≤ 1073; omega), (by show slots ≤ 38820; omega)⟩ (fun r153 σ152 H locs hw hk => ?_)
        refine lv_aload_n hx hb dL_law_1102 rfl (lv_at hl 2 rfl) ?_
        refine lv_aload_n hx hb dL_law_1103 rfl (lv_at hl 0 rfl) ?_
        refine lv_iload hx hb dL_law_1104 (lv_at hl 4 rfl) ?_
        refine lv_iconst (v := (1 : Int32)) hx hb dL_law_1106 (by decide) ?_
        refine lv_iadd hx hb dL_law_1107 ?_
        refine va_sld hx hb hX hbl hbA hk.2.2.2 hw.1 dL_law_1108 ?_
        replace hw := hw.2
        refine lv_aload_n hx hb dL_law_1109 rfl (lv_at hl 0 rfl) ?_
        refine lv_iload hx hb dL_law_1110 (lv_at hl 4 rfl) ?_
        refine lv_iconst (v := (2 : Int32)) hx hb dL_law_1112 (by decide) ?_
        refine lv_iadd hx hb dL_law_1113 ?_
        refine va_sld hx hb hX hbl hbA hk.2.2.2 hw.1 dL_law_1114 ?_
        replace hw := hw.2
        refine k_callVi (rest := [.int r153]) X hk (c_X6_roomy l G _ _ _ _ hw) (cwV 2 X.1.2.2.2.2 (gzV (aw_r38 _ (List.mem_of_getElem? (i := 16) rfl)) (aw_r38 _ (List.mem_of_getElem? (i := 17) rfl)) (aw_r38 _ (List.mem_of_getElem? (i := 18) rfl)) (aw_r1 _ (List.mem_of_getElem? (i := 5) rfl)) (aw_r38 _ (List.mem_of_getElem? (i := 19) rfl))) rfl rfl rfl hd_X6_roomy ⟨(Nat.le_of_ble_eq_true rfl), (Nat.le_of_ble_eq_true rfl)⟩) (wg_30 G _) rfl rfl hl.1 rfl (Nat.le_of_ble_eq_true rfl) dL_law_1115 ⟨(by show cells ≤ 1073; omega), (by show slots ≤ 38820; omega)⟩ (fun r155 σ154 H locs hw hk => ?_)
        refine lv_icmp_eq (tgt := 1375) hx hb dL_law_1118 (by decide) (fun c156 => ?_) (fun c156 => ?_)
        · replace hw := hw.1 c156
          exact t_L_law_1375 C n _ ih cells slots (by omega) (by omega) _ _ _ _ _ hw hk hl
        · replace hw := hw.2 c156
          refine lv_iconst (v := (0 : Int32)) hx hb dL_law_1121 (by decide) ?_
          exact False.elim hw
      replace hw := hw.2
      by_cases c157 : ((xs (x4).toNatClampNeg) &&& (31 : Int32)) = (24 : Int32)
      · have ec157 : (((xs (x4).toNatClampNeg) &&& (31 : Int32))).toInt = 24 := by rw [c157]; rfl
        refine lv_tableIn (tgt := 1123) hx hb dL_law_40 (by rw [ec157]; decide) (by rw [ec157]; decide) (by rw [ec157]; rfl) (by decide) ?_
        replace hw := hw.1 c157
        refine lv_aload_n hx hb dL_law_1123 rfl (lv_at hl 1 rfl) ?_
        refine lv_aload_n hx hb dL_law_1124 rfl (lv_at hl 0 rfl) ?_
        refine lv_iload hx hb dL_law_1125 (lv_at hl 4 rfl) ?_
        refine lv_iconst (v := (1 : Int32)) hx hb dL_law_1127 (by decide) ?_
        refine lv_iadd hx hb dL_law_1128 ?_
        refine va_sld hx hb hX hbl hbA hk.2.2.2 hw.1 dL_law_1129 ?_
        replace hw := hw.2
        refine k_callVi (rest := []) X hk (c_X5_best l G _ _ _ hw) (cwV 1 X.1.2.2.2.2 (gzV (aw_r39 _ (List.mem_of_getElem? (i := 0) rfl)) (aw_r39 _ (List.mem_of_getElem? (i := 1) rfl)) (aw_r39 _ (List.mem_of_getElem? (i := 2) rfl)) (aw_r1 _ (List.mem_of_getElem? (i := 2) rfl)) (aw_r39 _ (List.mem_of_getElem? (i := 3) rfl))) rfl rfl rfl hd_X5_best ⟨(Nat.le_of_ble_eq_true rfl), (Nat.le_of_ble_eq_true rfl)⟩) (wg_0 G _) rfl rfl hl.1 rfl (Nat.le_of_ble_eq_true rfl) dL_law_1130 ⟨(by show cells ≤ 1073; omega), (by show slots ≤ 38820; omega)⟩ (fun r159 σ158 H locs hw hk => ?_)
        refine lv_aload_n hx hb dL_law_1133 rfl (lv_at hl 2 rfl) ?_
        refine lv_aload_n hx hb dL_law_1134 rfl (lv_at hl 0 rfl) ?_
        refine lv_iload hx hb dL_law_1135 (lv_at hl 4 rfl) ?_
        refine lv_iconst (v := (1 : Int32)) hx hb dL_law_1137 (by decide) ?_
        refine lv_iadd hx hb dL_law_1138 ?_
        refine va_sld hx hb hX hbl hbA hk.2.2.2 hw.1 dL_law_1139 ?_
        replace hw := hw.2
        refine k_callVi (rest := [.int r159]) X hk (c_X6_best l G _ _ _ hw) (cwV 1 X.1.2.2.2.2 (gzV (aw_r39 _ (List.mem_of_getElem? (i := 6) rfl)) (aw_r39 _ (List.mem_of_getElem? (i := 7) rfl)) (aw_r39 _ (List.mem_of_getElem? (i := 8) rfl)) (aw_r1 _ (List.mem_of_getElem? (i := 5) rfl)) (aw_r39 _ (List.mem_of_getElem? (i := 9) rfl))) rfl rfl rfl hd_X6_best ⟨(Nat.le_of_ble_eq_true rfl), (Nat.le_of_ble_eq_true rfl)⟩) (wg_30 G _) rfl rfl hl.1 rfl (Nat.le_of_ble_eq_true rfl) dL_law_1140 ⟨(by show cells ≤ 1073; omega), (by show slots ≤ 38820; omega)⟩ (fun r161 σ160 H locs hw hk => ?_)
        refine lv_icmp_eq (tgt := 1375) hx hb dL_law_1143 (by decide) (fun c162 => ?_) (fun c162 => ?_)
        · replace hw := hw.1 c162
          exact t_L_law_1375 C n _ ih cells slots (by omega) (by omega) _ _ _ _ _ hw hk hl
        · replace hw := hw.2 c162
          refine lv_iconst (v := (0 : Int32)) hx hb dL_law_1146 (by decide) ?_
          exact False.elim hw
      replace hw := hw.2
      by_cases c163 : ((xs (x4).toNatClampNeg) &&& (31 : Int32)) = (25 : Int32)
      · have ec163 : (((xs (x4).toNatClampNeg) &&& (31 : Int32))).toInt = 25 := by rw [c163]; rfl
        refine lv_tableIn (tgt := 1148) hx hb dL_law_40 (by rw [ec163]; decide) (by rw [ec163]; decide) (by rw [ec163]; rfl) (by decide) ?_
        replace hw := hw.1 c163
        refine lv_aload_n hx hb dL_law_1148 rfl (lv_at hl 1 rfl) ?_
        refine lv_aload_n hx hb dL_law_1149 rfl (lv_at hl 0 rfl) ?_
        refine lv_iload hx hb dL_law_1150 (lv_at hl 4 rfl) ?_
        refine lv_iconst (v := (1 : Int32)) hx hb dL_law_1152 (by decide) ?_
        refine lv_iadd hx hb dL_law_1153 ?_
        refine va_sld hx hb hX hbl hbA hk.2.2.2 hw.1 dL_law_1154 ?_
        replace hw := hw.2
        refine k_callVi (rest := []) X hk (c_X5_latest l G _ _ _ hw) (cwV 1 X.1.2.2.2.2 (gzV (aw_r39 _ (List.mem_of_getElem? (i := 10) rfl)) (aw_r39 _ (List.mem_of_getElem? (i := 11) rfl)) (aw_r39 _ (List.mem_of_getElem? (i := 12) rfl)) (aw_r1 _ (List.mem_of_getElem? (i := 2) rfl)) (aw_r39 _ (List.mem_of_getElem? (i := 13) rfl))) rfl rfl rfl hd_X5_latest ⟨(Nat.le_of_ble_eq_true rfl), (Nat.le_of_ble_eq_true rfl)⟩) (wg_0 G _) rfl rfl hl.1 rfl (Nat.le_of_ble_eq_true rfl) dL_law_1155 ⟨(by show cells ≤ 1073; omega), (by show slots ≤ 38820; omega)⟩ (fun r165 σ164 H locs hw hk => ?_)
        refine lv_aload_n hx hb dL_law_1158 rfl (lv_at hl 2 rfl) ?_
        refine lv_aload_n hx hb dL_law_1159 rfl (lv_at hl 0 rfl) ?_
        refine lv_iload hx hb dL_law_1160 (lv_at hl 4 rfl) ?_
        refine lv_iconst (v := (1 : Int32)) hx hb dL_law_1162 (by decide) ?_
        refine lv_iadd hx hb dL_law_1163 ?_
        refine va_sld hx hb hX hbl hbA hk.2.2.2 hw.1 dL_law_1164 ?_
        replace hw := hw.2
        refine k_callVi (rest := [.int r165]) X hk (c_X6_latest l G _ _ _ hw) (cwV 1 X.1.2.2.2.2 (gzV (aw_r39 _ (List.mem_of_getElem? (i := 14) rfl)) (aw_r39 _ (List.mem_of_getElem? (i := 15) rfl)) (aw_r39 _ (List.mem_of_getElem? (i := 16) rfl)) (aw_r1 _ (List.mem_of_getElem? (i := 5) rfl)) (aw_r39 _ (List.mem_of_getElem? (i := 17) rfl))) rfl rfl rfl hd_X6_latest ⟨(Nat.le_of_ble_eq_true rfl), (Nat.le_of_ble_eq_true rfl)⟩) (wg_30 G _) rfl rfl hl.1 rfl (Nat.le_of_ble_eq_true rfl) dL_law_1165 ⟨(by show cells ≤ 1073; omega), (by show slots ≤ 38820; omega)⟩ (fun r167 σ166 H locs hw hk => ?_)
        refine lv_icmp_eq (tgt := 1375) hx hb dL_law_1168 (by decide) (fun c168 => ?_) (fun c168 => ?_)
        · replace hw := hw.1 c168
          exact t_L_law_1375 C n _ ih cells slots (by omega) (by omega) _ _ _ _ _ hw hk hl
        · replace hw := hw.2 c168
          refine lv_iconst (v := (0 : Int32)) hx hb dL_law_1171 (by decide) ?_
          exact False.elim hw
      replace hw := hw.2
      by_cases c169 : ((xs (x4).toNatClampNeg) &&& (31 : Int32)) = (26 : Int32)
      · have ec169 : (((xs (x4).toNatClampNeg) &&& (31 : Int32))).toInt = 26 := by rw [c169]; rfl
        refine lv_tableIn (tgt := 1173) hx hb dL_law_40 (by rw [ec169]; decide) (by rw [ec169]; decide) (by rw [ec169]; rfl) (by decide) ?_
        replace hw := hw.1 c169
        refine lv_aload_n hx hb dL_law_1173 rfl (lv_at hl 1 rfl) ?_
        refine k_callVi (rest := []) X hk (c_X5_worst l G _  _ hw) (cwV 0 X.1.2.2.2.2 (gzV (aw_r39 _ (List.mem_of_getElem? (i := 18) rfl)) (aw_r39 _ (List.mem_of_getElem? (i := 19) rfl)) (aw_r39 _ (List.mem_of_getElem? (i := 20) rfl)) (aw_r1 _ (List.mem_of_getElem? (i := 2) rfl)) (aw_r39 _ (List.mem_of_getElem? (i := 21) rfl))) rfl rfl rfl hd_X5_worst ⟨(Nat.le_of_ble_eq_true rfl), (Nat.le_of_ble_eq_true rfl)⟩) (wg_0 G _) rfl rfl hl.1 rfl (Nat.le_of_ble_eq_true rfl) dL_law_1174 ⟨(by show cells ≤ 1073; omega), (by show slots ≤ 38820; omega)⟩ (fun r171 σ170 H locs hw hk => ?_)
        refine lv_aload_n hx hb dL_law_1177 rfl (lv_at hl 2 rfl) ?_
        refine k_callVi (rest := [.int r171]) X hk (c_X6_worst l G _  _ hw) (cwV 0 X.1.2.2.2.2 (gzV (aw_r39 _ (List.mem_of_getElem? (i := 22) rfl)) (aw_r39 _ (List.mem_of_getElem? (i := 23) rfl)) (aw_r40 _ (List.mem_of_getElem? (i := 0) rfl)) (aw_r1 _ (List.mem_of_getElem? (i := 5) rfl)) (aw_r40 _ (List.mem_of_getElem? (i := 1) rfl))) rfl rfl rfl hd_X6_worst ⟨(Nat.le_of_ble_eq_true rfl), (Nat.le_of_ble_eq_true rfl)⟩) (wg_30 G _) rfl rfl hl.1 rfl (Nat.le_of_ble_eq_true rfl) dL_law_1178 ⟨(by show cells ≤ 1073; omega), (by show slots ≤ 38820; omega)⟩ (fun r173 σ172 H locs hw hk => ?_)
        refine lv_icmp_eq (tgt := 1375) hx hb dL_law_1181 (by decide) (fun c174 => ?_) (fun c174 => ?_)
        · replace hw := hw.1 c174
          exact t_L_law_1375 C n _ ih cells slots (by omega) (by omega) _ _ _ _ _ hw hk hl
        · replace hw := hw.2 c174
          refine lv_iconst (v := (0 : Int32)) hx hb dL_law_1184 (by decide) ?_
          exact False.elim hw
      replace hw := hw.2
      by_cases c175 : ((xs (x4).toNatClampNeg) &&& (31 : Int32)) = (27 : Int32)
      · have ec175 : (((xs (x4).toNatClampNeg) &&& (31 : Int32))).toInt = 27 := by rw [c175]; rfl
        refine lv_tableIn (tgt := 1186) hx hb dL_law_40 (by rw [ec175]; decide) (by rw [ec175]; decide) (by rw [ec175]; rfl) (by decide) ?_
        replace hw := hw.1 c175
        refine lv_aload_n hx hb dL_law_1186 rfl (lv_at hl 1 rfl) ?_
        refine lv_aload_n hx hb dL_law_1187 rfl (lv_at hl 0 rfl) ?_
        refine lv_iload hx hb dL_law_1188 (lv_at hl 4 rfl) ?_
        refine lv_iconst (v := (1 : Int32)) hx hb dL_law_1190 (by decide) ?_
        refine lv_iadd hx hb dL_law_1191 ?_
        refine va_sld hx hb hX hbl hbA hk.2.2.2 hw.1 dL_law_1192 ?_
        replace hw := hw.2
        refine lv_aload_n hx hb dL_law_1193 rfl (lv_at hl 0 rfl) ?_
        refine lv_iload hx hb dL_law_1194 (lv_at hl 4 rfl) ?_
        refine lv_iconst (v := (2 : Int32)) hx hb dL_law_1196 (by decide) ?_
        refine lv_iadd hx hb dL_law_1197 ?_
        refine va_sld hx hb hX hbl hbA hk.2.2.2 hw.1 dL_law_1198 ?_
        replace hw := hw.2
        refine lv_aload_n hx hb dL_law_1199 rfl (lv_at hl 0 rfl) ?_
        refine lv_iload hx hb dL_law_1200 (lv_at hl 4 rfl) ?_
        refine lv_iconst (v := (3 : Int32)) hx hb dL_law_1202 (by decide) ?_
        refine lv_iadd hx hb dL_law_1203 ?_
        refine va_sld hx hb hX hbl hbA hk.2.2.2 hw.1 dL_law_1204 ?_
        replace hw := hw.2
        refine lv_if_eq (tgt := 1212) hx hb dL_law_1205 (by decide) (fun c176 => ?_) (fun c176 => ?_)
        · replace hw := hw.1 c176
          refine lv_iconst (v := (0 : Int32)) hx hb dL_law_1212 (by decide) ?_
          exact t_L_law_1213 C n _ ih cells slots (by omega) (by omega) _ _ _ _ _ _ _ _ hw hk hl
        · replace hw := hw.2 c176
          refine lv_iconst (v := (1 : Int32)) hx hb dL_law_1208 (by decide) ?_
          refine lv_goto (tgt := 1213) hx hb dL_law_1209 (by decide) ?_
          exact t_L_law_1213 C n _ ih cells slots (by omega) (by omega) _ _ _ _ _ _ _ _ hw hk hl
      replace hw := hw.2
      by_cases c183 : ((xs (x4).toNatClampNeg) &&& (31 : Int32)) = (28 : Int32)
      · have ec183 : (((xs (x4).toNatClampNeg) &&& (31 : Int32))).toInt = 28 := by rw [c183]; rfl
        refine lv_tableIn (tgt := 1251) hx hb dL_law_40 (by rw [ec183]; decide) (by rw [ec183]; decide) (by rw [ec183]; rfl) (by decide) ?_
        replace hw := hw.1 c183
        refine lv_aload_n hx hb dL_law_1251 rfl (lv_at hl 1 rfl) ?_
        refine lv_aload_n hx hb dL_law_1252 rfl (lv_at hl 0 rfl) ?_
        refine lv_iload hx hb dL_law_1253 (lv_at hl 4 rfl) ?_
        refine lv_iconst (v := (1 : Int32)) hx hb dL_law_1255 (by decide) ?_
        refine lv_iadd hx hb dL_law_1256 ?_
        refine va_sld hx hb hX hbl hbA hk.2.2.2 hw.1 dL_law_1257 ?_
        replace hw := hw.2
        refine lv_aload_n hx hb dL_law_1258 rfl (lv_at hl 0 rfl) ?_
        refine lv_iload hx hb dL_law_1259 (lv_at hl 4 rfl) ?_
        refine lv_iconst (v := (2 : Int32)) hx hb dL_law_1261 (by decide) ?_
        refine lv_iadd hx hb dL_law_1262 ?_
        refine va_sld hx hb hX hbl hbA hk.2.2.2 hw.1 dL_law_1263 ?_
        replace hw := hw.2
        refine k_callVi (rest := []) X hk (c_X5_moved l G _ _ _ _ hw) (cwV 2 X.1.2.2.2.2 (gzV (aw_r40 _ (List.mem_of_getElem? (i := 15) rfl)) (aw_r40 _ (List.mem_of_getElem? (i := 16) rfl)) (aw_r40 _ (List.mem_of_getElem? (i := 17) rfl)) (aw_r1 _ (List.mem_of_getElem? (i := 2) rfl)) (aw_r40 _ (List.mem_of_getElem? (i := 18) rfl))) rfl rfl rfl hd_X5_moved ⟨(Nat.le_of_ble_eq_true rfl), (Nat.le_of_ble_eq_true rfl)⟩) (wg_0 G _) rfl rfl hl.1 rfl (Nat.le_of_ble_eq_true rfl) dL_law_1264 ⟨(by show cells ≤ 1073; omega), (by show slots ≤ 38820; omega)⟩ (fun r185 σ184 H locs hw hk => ?_)
        refine lv_aload_n hx hb dL_law_1267 rfl (lv_at hl 2 rfl) ?_
        refine lv_aload_n hx hb dL_law_1268 rfl (lv_at hl 0 rfl) ?_
        refine lv_iload hx hb dL_law_1269 (lv_at hl 4 rfl) ?_
        refine lv_iconst (v := (1 : Int32)) hx hb dL_law_1271 (by decide) ?_
        refine lv_iadd hx hb dL_law_1272 ?_
        refine va_sld hx hb hX hbl hbA hk.2.2.2 hw.1 dL_law_1273 ?_
        replace hw := hw.2
        refine lv_aload_n hx hb dL_law_1274 rfl (lv_at hl 0 rfl) ?_
        refine lv_iload hx hb dL_law_1275 (lv_at hl 4 rfl) ?_
        refine lv_iconst (v := (2 : Int32)) hx hb dL_law_1277 (by decide) ?_
        refine lv_iadd hx hb dL_law_1278 ?_
        refine va_sld hx hb hX hbl hbA hk.2.2.2 hw.1 dL_law_1279 ?_
        replace hw := hw.2
        refine k_callVi (rest := [.int r185]) X hk (c_X6_moved l G _ _ _ _ hw) (cwV 2 X.1.2.2.2.2 (gzV (aw_r40 _ (List.mem_of_getElem? (i := 20) rfl)) (aw_r40 _ (List.mem_of_getElem? (i := 21) rfl)) (aw_r40 _ (List.mem_of_getElem? (i := 22) rfl)) (aw_r1 _ (List.mem_of_getElem? (i := 5) rfl)) (aw_r40 _ (List.mem_of_getElem? (i := 23) rfl))) rfl rfl rfl hd_X6_moved ⟨(Nat.le_of_ble_eq_true rfl), (Nat.le_of_ble_eq_true rfl)⟩) (wg_30 G _) rfl rfl hl.1 rfl (Nat.le_of_ble_eq_true rfl) dL_law_1280 ⟨(by show cells ≤ 1073; omega), (by show slots ≤ 38820; omega)⟩ (fun r187 σ186 H locs hw hk => ?_)
        refine lv_icmp_eq (tgt := 1375) hx hb dL_law_1283 (by decide) (fun c188 => ?_) (fun c188 => ?_)
        · replace hw := hw.1 c188
          exact t_L_law_1375 C n _ ih cells slots (by omega) (by omega) _ _ _ _ _ hw hk hl
        · replace hw := hw.2 c188
          refine lv_iconst (v := (0 : Int32)) hx hb dL_law_1286 (by decide) ?_
          exact False.elim hw
      replace hw := hw.2
      by_cases c189 : ((xs (x4).toNatClampNeg) &&& (31 : Int32)) = (29 : Int32)
      · have ec189 : (((xs (x4).toNatClampNeg) &&& (31 : Int32))).toInt = 29 := by rw [c189]; rfl
        refine lv_tableIn (tgt := 1288) hx hb dL_law_40 (by rw [ec189]; decide) (by rw [ec189]; decide) (by rw [ec189]; rfl) (by decide) ?_
        replace hw := hw.1 c189
        refine lv_aload_n hx hb dL_law_1288 rfl (lv_at hl 1 rfl) ?_
        refine k_callVi (rest := []) X hk (c_X5_wrong l G _  _ hw) (cwV 0 X.1.2.2.2.2 (gzV (aw_r41 _ (List.mem_of_getElem? (i := 0) rfl)) (aw_r41 _ (List.mem_of_getElem? (i := 1) rfl)) (aw_r41 _ (List.mem_of_getElem? (i := 2) rfl)) (aw_r1 _ (List.mem_of_getElem? (i := 2) rfl)) (aw_r41 _ (List.mem_of_getElem? (i := 3) rfl))) rfl rfl rfl hd_X5_wrong ⟨(Nat.le_of_ble_eq_true rfl), (Nat.le_of_ble_eq_true rfl)⟩) (wg_0 G _) rfl rfl hl.1 rfl (Nat.le_of_ble_eq_true rfl) dL_law_1289 ⟨(by show cells ≤ 1073; omega), (by show slots ≤ 38820; omega)⟩ (fun r191 σ190 H locs hw hk => ?_)
        refine lv_aload_n hx hb dL_law_1292 rfl (lv_at hl 2 rfl) ?_
        refine k_callVi (rest := [.int r191]) X hk (c_X6_wrong l G _  _ hw) (cwV 0 X.1.2.2.2.2 (gzV (aw_r43 _ (List.mem_of_getElem? (i := 6) rfl)) (aw_r43 _ (List.mem_of_getElem? (i := 7) rfl)) (aw_r43 _ (List.mem_of_getElem? (i := 8) rfl)) (aw_r1 _ (List.mem_of_getElem? (i := 5) rfl)) (aw_r43 _ (List.mem_of_getElem? (i := 9) rfl))) rfl rfl rfl hd_X6_wrong ⟨(Nat.le_of_ble_eq_true rfl), (Nat.le_of_ble_eq_true rfl)⟩) (wg_30 G _) rfl rfl hl.1 rfl (Nat.le_of_ble_eq_true rfl) dL_law_1293 ⟨(by show cells ≤ 1073; omega), (by show slots ≤ 38820; omega)⟩ (fun r193 σ192 H locs hw hk => ?_)
        refine lv_icmp_eq (tgt := 1375) hx hb dL_law_1296 (by decide) (fun c194 => ?_) (fun c194 => ?_)
        · replace hw := hw.1 c194
          exact t_L_law_1375 C n _ ih cells slots (by omega) (by omega) _ _ _ _ _ hw hk hl
        · replace hw := hw.2 c194
          refine lv_iconst (v := (0 : Int32)) hx hb dL_law_1299 (by decide) ?_
          exact False.elim hw
      replace hw := hw.2
      by_cases c195 : ((xs (x4).toNatClampNeg) &&& (31 : Int32)) = (30 : Int32)
      · have ec195 : (((xs (x4).toNatClampNeg) &&& (31 : Int32))).toInt = 30 := by rw [c195]; rfl
        refine lv_tableIn (tgt := 1301) hx hb dL_law_40 (by rw [ec195]; decide) (by rw [ec195]; decide) (by rw [ec195]; rfl) (by decide) ?_
        replace hw := hw.1 c195
        refine lv_aload_n hx hb dL_law_1301 rfl (lv_at hl 1 rfl) ?_
        refine lv_aload_n hx hb dL_law_1302 rfl (lv_at hl 0 rfl) ?_
        refine lv_iload hx hb dL_law_1303 (lv_at hl 4 rfl) ?_
        refine lv_iconst (v := (1 : Int32)) hx hb dL_law_1305 (by decide) ?_
        refine lv_iadd hx hb dL_law_1306 ?_
        refine va_sld hx hb hX hbl hbA hk.2.2.2 hw.1 dL_law_1307 ?_
        replace hw := hw.2
        refine k_callVi (rest := []) X hk (c_X5_planned l G _ _ _ hw) (cwV 1 X.1.2.2.2.2 (gzV (aw_r44 _ (List.mem_of_getElem? (i := 14) rfl)) (aw_r44 _ (List.mem_of_getElem? (i := 15) rfl)) (aw_r44 _ (List.mem_of_getElem? (i := 16) rfl)) (aw_r1 _ (List.mem_of_getElem? (i := 2) rfl)) (aw_r44 _ (List.mem_of_getElem? (i := 17) rfl))) rfl rfl rfl hd_X5_planned ⟨(Nat.le_of_ble_eq_true rfl), (Nat.le_of_ble_eq_true rfl)⟩) (wg_0 G _) rfl rfl hl.1 rfl (Nat.le_of_ble_eq_true rfl) dL_law_1308 ⟨(by show cells ≤ 1073; omega), (by show slots ≤ 38820; omega)⟩ (fun r197 σ196 H locs hw hk => ?_)
        refine lv_aload_n hx hb dL_law_1311 rfl (lv_at hl 2 rfl) ?_
        refine lv_aload_n hx hb dL_law_1312 rfl (lv_at hl 0 rfl) ?_
        refine lv_iload hx hb dL_law_1313 (lv_at hl 4 rfl) ?_
        refine lv_iconst (v := (1 : Int32)) hx hb dL_law_1315 (by decide) ?_
        refine lv_iadd hx hb dL_law_1316 ?_
        refine va_sld hx hb hX hbl hbA hk.2.2.2 hw.1 dL_law_1317 ?_
        replace hw := hw.2
        refine k_callVi (rest := [.int r197]) X hk (c_X6_planned_ l G _ _ _ hw) (cwV 1 X.1.2.2.2.2 (gzV (aw_r45 _ (List.mem_of_getElem? (i := 3) rfl)) (aw_r45 _ (List.mem_of_getElem? (i := 4) rfl)) (aw_r45 _ (List.mem_of_getElem? (i := 5) rfl)) (aw_r1 _ (List.mem_of_getElem? (i := 5) rfl)) (aw_r45 _ (List.mem_of_getElem? (i := 6) rfl))) rfl rfl rfl hd_X6_planned_ ⟨(Nat.le_of_ble_eq_true rfl), (Nat.le_of_ble_eq_true rfl)⟩) (wg_30 G _) rfl rfl hl.1 rfl (Nat.le_of_ble_eq_true rfl) dL_law_1318 ⟨(by show cells ≤ 1073; omega), (by show slots ≤ 38820; omega)⟩ (fun r199 σ198 H locs hw hk => ?_)
        refine lv_icmp_eq (tgt := 1375) hx hb dL_law_1321 (by decide) (fun c200 => ?_) (fun c200 => ?_)
        · replace hw := hw.1 c200
          exact t_L_law_1375 C n _ ih cells slots (by omega) (by omega) _ _ _ _ _ hw hk hl
        · replace hw := hw.2 c200
          refine lv_iconst (v := (0 : Int32)) hx hb dL_law_1324 (by decide) ?_
          exact False.elim hw
      replace hw := hw.2
      by_cases c201 : ((xs (x4).toNatClampNeg) &&& (31 : Int32)) = (31 : Int32)
      · have ec201 : (((xs (x4).toNatClampNeg) &&& (31 : Int32))).toInt = 31 := by rw [c201]; rfl
        refine lv_tableIn (tgt := 1326) hx hb dL_law_40 (by rw [ec201]; decide) (by rw [ec201]; decide) (by rw [ec201]; rfl) (by decide) ?_
        replace hw := hw.1 c201
        refine lv_aload_n hx hb dL_law_1326 rfl (lv_at hl 1 rfl) ?_
        refine lv_aload_n hx hb dL_law_1327 rfl (lv_at hl 0 rfl) ?_
        refine lv_iload hx hb dL_law_1328 (lv_at hl 4 rfl) ?_
        refine lv_iconst (v := (1 : Int32)) hx hb dL_law_1330 (by decide) ?_
        refine lv_iadd hx hb dL_law_1331 ?_
        refine va_sld hx hb hX hbl hbA hk.2.2.2 hw.1 dL_law_1332 ?_
        replace hw := hw.2
        refine lv_aload_n hx hb dL_law_1333 rfl (lv_at hl 0 rfl) ?_
        refine lv_iload hx hb dL_law_1334 (lv_at hl 4 rfl) ?_
        refine lv_iconst (v := (2 : Int32)) hx hb dL_law_1336 (by decide) ?_
        refine lv_iadd hx hb dL_law_1337 ?_
        refine va_sld hx hb hX hbl hbA hk.2.2.2 hw.1 dL_law_1338 ?_
        replace hw := hw.2
        refine lv_aload_n hx hb dL_law_1339 rfl (lv_at hl 0 rfl) ?_
        refine lv_iload hx hb dL_law_1340 (lv_at hl 4 rfl) ?_
        refine lv_iconst (v := (3 : Int32)) hx hb dL_law_1342 (by decide) ?_
        refine lv_iadd hx hb dL_law_1343 ?_
        refine va_sld hx hb hX hbl hbA hk.2.2.2 hw.1 dL_law_1344 ?_
        replace hw := hw.2
        refine k_callVi (rest := []) X hk (c_X5_there l G _ _ _ _ _ hw) (cwV 3 X.1.2.2.2.2 (gzV (aw_r45 _ (List.mem_of_getElem? (i := 11) rfl)) (aw_r45 _ (List.mem_of_getElem? (i := 12) rfl)) (aw_r45 _ (List.mem_of_getElem? (i := 13) rfl)) (aw_r1 _ (List.mem_of_getElem? (i := 2) rfl)) (aw_r45 _ (List.mem_of_getElem? (i := 14) rfl))) rfl rfl rfl hd_X5_there ⟨(Nat.le_of_ble_eq_true rfl), (Nat.le_of_ble_eq_true rfl)⟩) (wg_0 G _) rfl rfl hl.1 rfl (Nat.le_of_ble_eq_true rfl) dL_law_1345 ⟨(by show cells ≤ 1073; omega), (by show slots ≤ 38820; omega)⟩ (fun r203 σ202 H locs hw hk => ?_)
        refine lv_aload_n hx hb dL_law_1348 rfl (lv_at hl 2 rfl) ?_
        refine lv_aload_n hx hb dL_law_1349 rfl (lv_at hl 0 rfl) ?_
        refine lv_iload hx hb dL_law_1350 (lv_at hl 4 rfl) ?_
        refine lv_iconst (v := (1 : Int32)) hx hb dL_law_1352 (by decide) ?_
        refine lv_iadd hx hb dL_law_1353 ?_
        refine va_sld hx hb hX hbl hbA hk.2.2.2 hw.1 dL_law_1354 ?_
        replace hw := hw.2
        refine lv_aload_n hx hb dL_law_1355 rfl (lv_at hl 0 rfl) ?_
        refine lv_iload hx hb dL_law_1356 (lv_at hl 4 rfl) ?_
        refine lv_iconst (v := (2 : Int32)) hx hb dL_law_1358 (by decide) ?_
        refine lv_iadd hx hb dL_law_1359 ?_
        refine va_sld hx hb hX hbl hbA hk.2.2.2 hw.1 dL_law_1360 ?_
        replace hw := hw.2
        refine lv_aload_n hx hb dL_law_1361 rfl (lv_at hl 0 rfl) ?_
        refine lv_iload hx hb dL_law_1362 (lv_at hl 4 rfl) ?_
        refine lv_iconst (v := (3 : Int32)) hx hb dL_law_1364 (by decide) ?_
        refine lv_iadd hx hb dL_law_1365 ?_
        refine va_sld hx hb hX hbl hbA hk.2.2.2 hw.1 dL_law_1366 ?_
        replace hw := hw.2
        refine k_callVi (rest := [.int r203]) X hk (c_X6_there l G _ _ _ _ _ hw) (cwV 3 X.1.2.2.2.2 (gzV (aw_r45 _ (List.mem_of_getElem? (i := 17) rfl)) (aw_r45 _ (List.mem_of_getElem? (i := 18) rfl)) (aw_r45 _ (List.mem_of_getElem? (i := 19) rfl)) (aw_r1 _ (List.mem_of_getElem? (i := 5) rfl)) (aw_r45 _ (List.mem_of_getElem? (i := 20) rfl))) rfl rfl rfl hd_X6_there ⟨(Nat.le_of_ble_eq_true rfl), (Nat.le_of_ble_eq_true rfl)⟩) (wg_30 G _) rfl rfl hl.1 rfl (Nat.le_of_ble_eq_true rfl) dL_law_1367 ⟨(by show cells ≤ 1073; omega), (by show slots ≤ 38820; omega)⟩ (fun r205 σ204 H locs hw hk => ?_)
        refine lv_icmp_eq (tgt := 1375) hx hb dL_law_1370 (by decide) (fun c206 => ?_) (fun c206 => ?_)
        · replace hw := hw.1 c206
          exact t_L_law_1375 C n _ ih cells slots (by omega) (by omega) _ _ _ _ _ hw hk hl
        · replace hw := hw.2 c206
          refine lv_iconst (v := (0 : Int32)) hx hb dL_law_1373 (by decide) ?_
          exact False.elim hw
      replace hw := hw.2
      have ec2 := lv_neT (a := 0) c2 rfl
      have ec9 := lv_neT (a := 1) c9 rfl
      have ec15 := lv_neT (a := 2) c15 rfl
      have ec21 := lv_neT (a := 3) c21 rfl
      have ec27 := lv_neT (a := 4) c27 rfl
      have ec33 := lv_neT (a := 5) c33 rfl
      have ec39 := lv_neT (a := 6) c39 rfl
      have ec45 := lv_neT (a := 7) c45 rfl
      have ec51 := lv_neT (a := 8) c51 rfl
      have ec57 := lv_neT (a := 9) c57 rfl
      have ec65 := lv_neT (a := 10) c65 rfl
      have ec71 := lv_neT (a := 11) c71 rfl
      have ec77 := lv_neT (a := 12) c77 rfl
      have ec83 := lv_neT (a := 13) c83 rfl
      have ec95 := lv_neT (a := 14) c95 rfl
      have ec101 := lv_neT (a := 15) c101 rfl
      have ec107 := lv_neT (a := 16) c107 rfl
      have ec113 := lv_neT (a := 17) c113 rfl
      have ec119 := lv_neT (a := 18) c119 rfl
      have ec125 := lv_neT (a := 19) c125 rfl
      have ec133 := lv_neT (a := 20) c133 rfl
      have ec139 := lv_neT (a := 21) c139 rfl
      have ec145 := lv_neT (a := 22) c145 rfl
      have ec151 := lv_neT (a := 23) c151 rfl
      have ec157 := lv_neT (a := 24) c157 rfl
      have ec163 := lv_neT (a := 25) c163 rfl
      have ec169 := lv_neT (a := 26) c169 rfl
      have ec175 := lv_neT (a := 27) c175 rfl
      have ec183 := lv_neT (a := 28) c183 rfl
      have ec189 := lv_neT (a := 29) c189 rfl
      have ec195 := lv_neT (a := 30) c195 rfl
      have ec201 := lv_neT (a := 31) c201 rfl
      refine lv_tableOut (tgt := 1375) hx hb dL_law_40 (by omega) (by decide) ?_
      replace hw := hw c2 c9 c15 c21 c27 c33 c39 c45 c51 c57 c65 c71 c77 c83 c95 c101 c107 c113 c119 c125 c133 c139 c145 c151 c157 c163 c169 c175 c183 c189 c195 c201
      exact t_L_law_1375 C n _ ih cells slots (by omega) (by omega) _ _ _ _ _ hw hk hl
