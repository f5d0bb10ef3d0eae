/-! The law's own along: it calls QuickestOut.along, and catches what it throws -/
theorem ws_47 (G : Gw) (σ : Sg) (g : Nat → Int32) : (wd G σ).set 47 (G.1 47, .inl (G.2.1.2.2.2, 1, .inr (.inl (fun j => (g j).toInt64)))) = wd G (setA σ 47 g) := rfl
theorem updL_64 (f : Nat → Int32) (k : Nat) (x : Int32) : vp_updL (fun j => (f j).toInt64) k x.toInt64 = fun j => (upd f k x j).toInt64 := by
  funext j
  by_cases h : j = k
  · subst h
    simp [vp_updL, upd]
  · simp [vp_updL, upd, h]
abbrev wz_L_along : List Cond := Cond.codeWith yL_along cL_along 5 (some .int) [(0, 10, 13, 13)] :: wsA
def rm_L_along : Room := { frames := 7, cells := 1, slots := 6, locals := 104 }
/-- a method with a table that answers an int and never throws, one cell of six slots at most -/
def MetW (l : Launch) (y : MethodName) (ws : List Cond) (rm : Room) (G : Gw) (σ : Sg) (av : List Value) (Q : Int32 → Sg → Prop) : Prop :=
  ∀ sz, vx_Met l y ws rm (va_Pc av (PI G σ sz)) (va_Qi Q (BE G (AA G sz)) (AA G sz)) (vx_X (fun _ : Sg => False) (BX G (AA G sz)) (AA G sz)) 1 6 (AA G sz)
set_option maxHeartbeats 4000000 in
set_option maxRecDepth 100000 in
theorem c_L_along (l : Launch) (hst : l.stackTraces = false) (G : Gw) (σ : Sg) (p1 p2 : Int32) (Q : Int32 → Sg → Prop) (hw : wp_X5_along σ (fun τ => Q 1 τ) p1 p2 (fun r τ => Q 0 (put τ 47 0 r))) : MetW l yL_along wz_L_along rm_L_along G σ [.ref (G.1 0), .int p1, .int p2, .ref (G.1 47)] Q := by
  intro sz
  refine vx_ofWH (cc := cL_along) (maxL := 5) (ret := some .int) (by decide) rfl ?_
  intro p e s m args below meth c s₁ B hml hv
  obtain ⟨rfl, hP⟩ := hv
  have hsz := hP.1
  subst hsz
  rw [lg_entry_eq]
  have X : KC p m meth c cL_along 5 s _ wz_L_along RL (some .int) G := ⟨⟨B.exec, B.bytes, hml, findClass_of_methodNamed B.named, atoms_spec (ws := wz_L_along) B.pre⟩, B.returns, B.notSynchronized, hP.2.2.2.2⟩
  have hk : WK G s s.heap [] σ := hP.wk
  have hl := lv_entry [.ref (G.1 0), .int p1, .int p2, .ref (G.1 47)] (n := 5) (Nat.le_of_ble_eq_true rfl)
  generalize (lg_sl [.ref (G.1 0), .int p1, .int p2, .ref (G.1 47)] ++ List.replicate (5 - (lg_sl [.ref (G.1 0), .int p1, .int p2, .ref (G.1 47)]).length) Slot.unset).toArray = ls at hl ⊢
  have hl : lv_has ls 5 [(0, .ref (G.1 0)), (1, .int p1), (2, .int p2), (3, .ref (G.1 47))] := hl
  have htab : c.exceptionTable.toList = tableOf [(0, 10, 13, 13)] := vx_table (x := yL_along) B (X.1.2.2.2.2 _ List.mem_cons_self)
  have hx := X.1.1
  have hb := X.1.2.1
  refine lv_aload_n hx hb dL_along_0 rfl (lv_at hl 3 rfl) ?_
  refine lv_iconst (v := 0) hx hb dL_along_1 (by decide) ?_
  refine lv_aload_n hx hb dL_along_2 rfl (lv_at hl 0 rfl) ?_
  refine lv_iload_n hx hb dL_along_3 rfl (lv_at hl 1 rfl) ?_
  refine lv_iload_n hx hb dL_along_4 rfl (lv_at hl 2 rfl) ?_
  refine vx_calli (rest := [.int 0, .ref (G.1 47)]) (vx_runV (As := [.int p1, .int p2]) X.1 (c_X5_along l hst G σ _ p1 p2 _ hw s.heap.size) (cwV 2 X.1.2.2.2.2 (gzV (aw_r24 _ (List.mem_of_getElem? (i := 21) rfl)) (aw_r24 _ (List.mem_of_getElem? (i := 22) rfl)) (aw_r24 _ (List.mem_of_getElem? (i := 23) rfl)) (aw_r1 _ (List.mem_of_getElem? (i := 2) rfl)) (aw_r25 _ (List.mem_of_getElem? (i := 0) rfl))) rfl rfl rfl hd_X5_along ⟨Nat.le_of_ble_eq_true rfl, Nat.le_of_ble_eq_true rfl⟩) ⟨PI.blind, va_recv hk.1 hk.2.1 (ci := 5) (q0 := 0) rfl (wg_0 G _), fun U hU hW => k_pi X.2.2.2 hk hU hW⟩ rfl rfl hl.1 rfl (lv_room (Nat.le_of_ble_eq_true rfl)) dL_along_5 ⟨Nat.le_of_ble_eq_true rfl, Nat.le_of_ble_eq_true rfl⟩) hk.2.2.2 (fun q _ h => AA.up hk.2.2.2.1 h) (fun q h => AA.up hk.2.2.2.1 h) (fun q _ h => AA.up hk.2.2.2.1 h) ?_ ?_
  · intro E ce q9 u t H1 locs1 ht hvm hq hB hz hk1 hS hce hcv hcl
    obtain ⟨rfl, hB⟩ := hB
    have hk : WK G s H1 locs1 u := k_wk1 hk.1 ht hB hS
    refine vx_catch X.1.2.2.2.1 [] ⟨0, 10, 13, 13⟩ [] (by rw [htab]; rfl) (fun _ h => nomatch h) (by decide) (by decide) (X.1.2.2.2.2 _ (List.mem_cons_of_mem _ (aw_r24 _ (List.mem_of_getElem? (i := 20) rfl)))) (va_Nw.use rfl X.2.2.2.2.2.2.2.2.1.2.2.2) hce hcv hcl ?_
    refine lv_astore (lv' := [(4, .ref q9), (0, .ref (G.1 0)), (1, .int p1), (2, .int p2), (3, .ref (G.1 47))]) hx hb dL_along_13 hl (Nat.le_of_ble_eq_true rfl) rfl (fun ls hl => ?_)
    refine lv_iconst (v := 1) hx hb dL_along_15 (by decide) ?_
    refine vx_ret ?_
    exact W.iret hx hb X.2.1 (fun t ht hW => ⟨⟨1, u, rfl, hq, by rw [ht]; exact hk.2.1, va_K.moved hW.alike hk.1, hk.2.2.1⟩, hk.2.2.2.F ht⟩) hk.2.2.2.2.2 dL_along_16 X.2.2.1
  · intro r u t H1 locs1 ht hvm hq hB hz hk1 hS
    have hk : WK G s H1 locs1 u := k_wk1 hk.1 ht hB hS
    refine lv_i2l hx hb dL_along_8 rfl ?_
    refine va_last hx hb hk.1 hk.2.1 hk.2.2.1 hk.2.2.2 47 3 (wg_47 G _) rfl (show vp_in 0 1 by unfold vp_in; decide) dL_along_9 (fun H locs hP hD hS => ?_)
    rw [updL_64, ws_47] at hP hD
    have hk : WK G s H locs (put u 47 0 r) := ⟨hk.1, hP, hD, hS⟩
    refine lv_goto (tgt := 17) hx hb dL_along_10 (by decide) ?_
    refine lv_iconst (v := 0) hx hb dL_along_17 (by decide) ?_
    refine vx_ret ?_
    exact W.iret hx hb X.2.1 (fun t ht hW => ⟨⟨0, put u 47 0 r, rfl, hq, by rw [ht]; exact hk.2.1, va_K.moved hW.alike hk.1, hk.2.2.1⟩, hk.2.2.2.F ht⟩) hk.2.2.2.2.2 dL_along_18 X.2.2.1
theorem hds_L_along : yL_along.cls ≠ "java/lang/invoke/MethodHandle" ∧ yL_along.cls ≠ "java/lang/invoke/VarHandle" ∧ (parseMethodDescriptor yL_along.desc).map (fun d => d.parameters.length) = some 4 := by decide +kernel
