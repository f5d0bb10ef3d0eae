def wdC (cs : Cs) (g : Nat → Nat) : va_W := [
  (g 0, .inr (5, [.ref (g 1), .ref (g 2), .ref (g 3), .ref (g 4), .ref (g 5)])),
  (g 1, .inr (3, [.int 0, .int 0, .ref (g 6), .ref (g 7), .ref (g 8), .ref (g 9)])),
  (g 2, .inr (1, [.int 0, .int 0, .int 0, .int 0, .int 0, .ref (g 10), .ref (g 11), .ref (g 12), .ref (g 1), .ref (g 13), .ref (g 14), .ref (g 15), .int 0, .int 0])),
  (g 3, .inr (2, [.int 0, .int 0, .ref (g 1), .ref (g 2), .ref (g 16), .int 0, .int 0, .int 0, .int 0, .ref (g 17), .int 0, .ref (g 18)])),
  (g 4, .inr (0, [.ref (g 1), .int 0, .int 0, .int 0, .int 0, .ref (g 19), .ref (g 20), .ref (g 21), .ref (g 22), .ref (g 23), .ref (g 24), .ref (g 25), .ref (g 26), .ref (g 27)])),
  (g 5, .inr (4, [.int 0, .int 0, .int 0, .int 0, .ref (g 1), .ref (g 4), .int 0, .int 0, .ref (g 28), .ref (g 29)])),
  (g 6, .inl (cs.1, 12, .inl (fun _ => 0))),
  (g 7, .inl (cs.1, 24, .inl (fun _ => 0))),
  (g 8, .inl (cs.1, 24, .inl (fun _ => 0))),
  (g 9, .inl (cs.1, 32, .inl (fun _ => 0))),
  (g 10, .inl (cs.1, 8, .inl (fun _ => 0))),
  (g 11, .inl (cs.1, 8, .inl (fun _ => 0))),
  (g 12, .inl (cs.1, 8, .inl (fun _ => 0))),
  (g 13, .inl (cs.1, 160, .inl (fun _ => 0))),
  (g 14, .inl (cs.1, 408, .inl (fun _ => 0))),
  (g 15, .inl (cs.1, 24, .inl (fun _ => 0))),
  (g 16, .inl (cs.2.1, 400, .inl (fun _ => 0))),
  (g 17, .inl (cs.1, 5, .inl (fun _ => 0))),
  (g 18, .inl (cs.1, 24, .inl (fun _ => 0))),
  (g 19, .inl (cs.1, 346, .inl (fun _ => 0))),
  (g 20, .inl (cs.1, 3968, .inl (fun _ => 0))),
  (g 21, .inl (cs.1, 3968, .inl (fun _ => 0))),
  (g 22, .inl (cs.1, 3968, .inl (fun _ => 0))),
  (g 23, .inl (cs.1, 346, .inl (fun _ => 0))),
  (g 24, .inl (cs.1, 346, .inl (fun _ => 0))),
  (g 25, .inl (cs.1, 346, .inl (fun _ => 0))),
  (g 26, .inl (cs.1, 24, .inl (fun _ => 0))),
  (g 27, .inl (cs.1, 8, .inl (fun _ => 0))),
  (g 28, .inl (cs.1, 4, .inl (fun _ => 0))),
  (g 29, .inl (cs.1, 24, .inl (fun _ => 0)))]
abbrev w0_X5 (h0 : Nat) : va_W := [(h0, .inr (5, [.null, .null, .null, .null, .null]))]
abbrev wz_X5_init : List Cond := Cond.code yX5_init cX5_init 1 none :: wsA
def rm_X5_init : Room := { frames := 2, cells := 29, slots := 14541, locals := 34 }
def Bc_X5 (cs : Cs) (D : va_G) (A : Nat → Prop) (g : Nat → Nat) (t : State) : Prop := va_P D vwCl (wdC cs g) t.heap ∧ va_K D vwCl (tyK cs) t ∧ va_D A (wdC cs g)
def zNest : Cond := .methodLinkNest RX5 11 yX3_init "QuickestOut"
theorem hdi_X3 : yX3_init.cls ≠ "java/lang/invoke/MethodHandle" ∧ yX3_init.cls ≠ "java/lang/invoke/VarHandle" ∧ (parseMethodDescriptor yX3_init.desc).map (fun d => d.parameters.length) = some 0 := by decide +kernel
theorem hdi_X1 : yX1_init.cls ≠ "java/lang/invoke/MethodHandle" ∧ yX1_init.cls ≠ "java/lang/invoke/VarHandle" ∧ (parseMethodDescriptor yX1_init.desc).map (fun d => d.parameters.length) = some 1 := by decide +kernel
theorem hdi_X2 : yX2_init.cls ≠ "java/lang/invoke/MethodHandle" ∧ yX2_init.cls ≠ "java/lang/invoke/VarHandle" ∧ (parseMethodDescriptor yX2_init.desc).map (fun d => d.parameters.length) = some 2 := by decide +kernel
theorem hdi_X0 : yX0_init.cls ≠ "java/lang/invoke/MethodHandle" ∧ yX0_init.cls ≠ "java/lang/invoke/VarHandle" ∧ (parseMethodDescriptor yX0_init.desc).map (fun d => d.parameters.length) = some 1 := by decide +kernel
theorem hdi_X4 : yX4_init.cls ≠ "java/lang/invoke/MethodHandle" ∧ yX4_init.cls ≠ "java/lang/invoke/VarHandle" ∧ (parseMethodDescriptor yX4_init.desc).map (fun d => d.parameters.length) = some 2 := by decide +kernel
set_option maxHeartbeats 8000000 in
set_option maxRecDepth 100000 in
theorem ci_X5 (l : Launch) (cs : Cs) (D : va_G) (h0 : Nat) (sz : Nat) : Met l yX5_init wz_X5_init rm_X5_init (va_Pc [.ref h0] (fun U => U.heap.size = sz ∧ va_P D vwCl (w0_X5 h0) U.heap ∧ va_K D vwCl (tyK cs) U ∧ va_D (fun _ => True) (w0_X5 h0) ∧ va_Nw zNest U)) (va_Qv (fun g : Nat → Nat => g 0 = h0) (Bc_X5 cs D (va_A (w0_X5 h0) sz)) (va_A (w0_X5 h0) sz)) 29 14541 (va_A (w0_X5 h0) sz) := by
  refine Met.ofW (cc := cX5_init) (maxL := 1) (ret := none) (by decide) rfl ?_
  intro p e s m args below meth c s₁ B hml hv
  obtain ⟨rfl, hsz, hP, hK, hD0, hNest⟩ := hv
  have hx := B.exec
  have hb := B.bytes
  have hr := B.returns
  have hts := atoms_spec (ws := wz_X5_init) B.pre
  have hown : s.vm.findClass RX5 = some m.cls := findClass_of_methodNamed B.named
  have hlocks := B.notSynchronized
  have hin : meth.name = "<init>" := (name_of_methodNamed B.named B.method).1
  subst hsz
  have hD := hD0.self (sz := s.heap.size)
  generalize hAe : va_A (w0_X5 h0) s.heap.size = A at hD ⊢
  have hA : ∀ q : Nat, s.heap.size ≤ q → A q := fun q h => by rw [← hAe]; exact Or.inr h
  have hS : va_S A s.heap s.heap [] := va_S.rf
  have hl := lv_entry ([.ref h0]) (n := 1) (Nat.le_of_ble_eq_true rfl)
  rw [lg_entry_eq]
  generalize (lg_sl ([.ref h0]) ++ List.replicate (1 - (lg_sl ([.ref h0])).length) Slot.unset).toArray = ls at hl ⊢
  have hl : lv_has ls 1 [(0, .ref h0)] := hl
  refine lv_aload_n hx hb dX5_init_0 rfl (lv_at hl 0 rfl) ?_
  refine W.objInit hx hb hown (hts _ (List.mem_cons_of_mem _ (aw_r1 _ (List.mem_of_getElem? (i := 10) rfl)))) (hts _ (List.mem_cons_of_mem _ (aw_r1 _ (List.mem_of_getElem? (i := 11) rfl)))) (hts _ (List.mem_cons_of_mem _ (aw_r1 _ (List.mem_of_getElem? (i := 12) rfl)))) rfl (by rw [hml]; exact hl.1) rfl dX5_init_1 (Nat.le_of_ble_eq_true rfl) (Nat.le_of_ble_eq_true rfl) ?_
  refine W.eq (g2 := F0 m 4 ls []) rfl ?_
  have hP : va_P D vwCl ([(h0, .inr (5, [.null, .null, .null, .null, .null]))]) s.heap := hP
  have hD : va_D A ([(h0, .inr (5, [.null, .null, .null, .null, .null]))]) := hD
  refine lv_aload_n hx hb dX5_init_4 rfl (lv_at hl 0 rfl) ?_
  refine va_new (ci := 3) (fs := [.int 0, .int 0, .null, .null, .null, .null]) (C := RX3) (T := TX3) (N := 6) hx hb hts (hz_wsX30 _) tyX3 tyX3_ok hown (hts _ (List.mem_cons_of_mem _ (aw_r1 _ (List.mem_of_getElem? (i := 13) rfl)))) (hts _ (List.mem_cons_of_mem _ (aw_r1 _ (List.mem_of_getElem? (i := 14) rfl)))) (hts _ (List.mem_cons_of_mem _ (aw_r1 _ (List.mem_of_getElem? (i := 15) rfl)))) hK hP hD hS hA rfl (by decide +kernel) (Nat.le_of_ble_eq_true rfl) (Nat.le_of_ble_eq_true rfl) dX5_init_5 (fun qX3 H hP hD hS => ?_)
  replace hP : va_P D vwCl ([(h0, .inr (5, [.null, .null, .null, .null, .null]))] ++ w0_X3 qX3) H := hP
  replace hD : va_D A ([(h0, .inr (5, [.null, .null, .null, .null, .null]))] ++ w0_X3 qX3) := hD
  refine lv_dup hx hb dX5_init_8 rfl ?_
  have hPc := hP.sub (ws' := w0_X3 qX3) [1] rfl
  have hDc := hD.sub (ws' := w0_X3 qX3) [1] (by decide) rfl
  have hFc := va_free (wc := w0_X3 qX3) hD hS hA [1] rfl
  refine va_callv (va_runIN (As := []) (rest := [.ref qX3, .ref h0]) ⟨hx, hb, hml, hown, hts⟩ (ci_X3 l cs D qX3  H.size) ⟨va_cnB 0 hts (gzI (aw_r2 _ (List.mem_of_getElem? (i := 10) rfl))) rfl rfl rfl hNest (hts _ (List.mem_cons_of_mem _ (aw_r1 _ (List.mem_of_getElem? (i := 15) rfl)))) hdi_X3 ⟨(Nat.le_of_ble_eq_true rfl), (Nat.le_of_ble_eq_true rfl)⟩, rfl, hts _ (List.mem_cons_of_mem _ (aw_r2 _ (List.mem_of_getElem? (i := 9) rfl)))⟩ ⟨fun a U g mk q => by obtain ⟨q0, q1, qP, qK, qD⟩ := q; exact ⟨q0, q1, qP, va_K.moved (u := U) (U := U.calling g mk a) (Vm.Alike.refl U.vm) qK, qD⟩, fun U hU hW => ⟨rfl, by rw [hU], by rw [hU]; exact hPc, va_K.moved hW.alike hK, hDc.weaken (fun _ _ _ _ => trivial)⟩⟩ rfl rfl hl.1 rfl (lv_room (Nat.le_of_ble_eq_true rfl)) dX5_init_9 ⟨(Nat.le_of_ble_eq_true rfl), (Nat.le_of_ble_eq_true rfl)⟩) hS (fun q _ h => hFc q h) hFc (fun uX3 t H1 locs ht hvm hw hB hz1 hk1 hS => ?_)
  obtain ⟨hP1, hK1, hD1⟩ := hB
  rw [ht] at hP1
  obtain ⟨hP, hD⟩ := va_join (wr := [(h0, .inr (5, [.null, .null, .null, .null, .null]))]) (w1 := wc_X3 cs qX3 uX3) hP hD [1] [0] rfl rfl (by decide) (by decide) hk1 hFc hP1 hD1
  generalize H1 = H at hP hS ⊢
  refine va_putF (D := D) (ci := 5) (v := .ref qX3) (ty := .object "QuickestOut$Town") (C := RX5) (T := TX5) (N := 5) hx hb hts (hz_wsX50 _) tyX5 tyX5_ok nmX5 hown hK hP hD hS 0 rfl rfl 0 (Nat.le_of_ble_eq_true rfl) (hts _ (List.mem_cons_of_mem _ (aw_r1 _ (List.mem_of_getElem? (i := 16) rfl)))) (fun _ h9 => h9) rfl hin rfl (by decide +kernel) rfl rfl (Nat.le_of_ble_eq_true rfl) dX5_init_12 (fun H locs hP hD hS => ?_)
  replace hP : va_P D vwCl ([(h0, .inr (5, [.ref qX3, .null, .null, .null, .null]))] ++ wc_X3 cs qX3 uX3) H := hP
  replace hD : va_D A ([(h0, .inr (5, [.ref qX3, .null, .null, .null, .null]))] ++ wc_X3 cs qX3 uX3) := hD
  refine lv_aload_n hx hb dX5_init_15 rfl (lv_at hl 0 rfl) ?_
  refine va_new (ci := 1) (fs := [.int 0, .int 0, .int 0, .int 0, .int 0, .null, .null, .null, .null, .null, .null, .null, .int 0, .int 0]) (C := RX1) (T := TX1) (N := 14) hx hb hts (hz_wsX10 _) tyX1 tyX1_ok hown (hts _ (List.mem_cons_of_mem _ (aw_r1 _ (List.mem_of_getElem? (i := 17) rfl)))) (hts _ (List.mem_cons_of_mem _ (aw_r1 _ (List.mem_of_getElem? (i := 18) rfl)))) (hts _ (List.mem_cons_of_mem _ (aw_r1 _ (List.mem_of_getElem? (i := 19) rfl)))) hK hP hD hS hA rfl (by decide +kernel) (Nat.le_of_ble_eq_true rfl) (Nat.le_of_ble_eq_true rfl) dX5_init_16 (fun qX1 H hP hD hS => ?_)
  replace hP : va_P D vwCl ([(h0, .inr (5, [.ref qX3, .null, .null, .null, .null]))] ++ wc_X3 cs qX3 uX3 ++ w0_X1 qX1) H := hP
  replace hD : va_D A ([(h0, .inr (5, [.ref qX3, .null, .null, .null, .null]))] ++ wc_X3 cs qX3 uX3 ++ w0_X1 qX1) := hD
  refine lv_dup hx hb dX5_init_19 rfl ?_
  refine lv_aload_n hx hb dX5_init_20 rfl (lv_at hl 0 rfl) ?_
  refine va_get (D := D) (ci := 5) (v := .ref qX3) (C := RX5) (T := TX5) (N := 5) hx hb hts (hz_wsX50 _) hown hK hP 0 rfl rfl 0 (Nat.le_of_ble_eq_true rfl) (hts _ (List.mem_cons_of_mem _ (aw_r1 _ (List.mem_of_getElem? (i := 16) rfl)))) (fun _ h9 => h9) rfl dX5_init_21 ?_
  have hPc := hP.sub (ws' := w0_X1 qX1) [6] rfl
  have hDc := hD.sub (ws' := w0_X1 qX1) [6] (by decide) rfl
  have hFc := va_free (wc := w0_X1 qX1) hD hS hA [6] rfl
  refine va_callv (va_runI (As := [.ref qX3]) (rest := [.ref qX1, .ref h0]) ⟨hx, hb, hml, hown, hts⟩ (ci_X1 l cs D qX1 qX3 H.size) (cwI 1 hts (gzI (aw_r2 _ (List.mem_of_getElem? (i := 19) rfl))) rfl rfl rfl (hts _ (List.mem_cons_of_mem _ (aw_r1 _ (List.mem_of_getElem? (i := 19) rfl)))) (hts _ (List.mem_cons_of_mem _ (aw_r2 _ (List.mem_of_getElem? (i := 17) rfl)))) (hts _ (List.mem_cons_of_mem _ (aw_r2 _ (List.mem_of_getElem? (i := 18) rfl)))) rfl hdi_X1 ⟨(Nat.le_of_ble_eq_true rfl), (Nat.le_of_ble_eq_true rfl)⟩) ⟨fun a U g mk q => by obtain ⟨q0, q1, qP, qK, qD⟩ := q; exact ⟨q0, q1, qP, va_K.moved (u := U) (U := U.calling g mk a) (Vm.Alike.refl U.vm) qK, qD⟩, fun U hU hW => ⟨rfl, by rw [hU], by rw [hU]; exact hPc, va_K.moved hW.alike hK, hDc.weaken (fun _ _ _ _ => trivial)⟩⟩ rfl rfl hl.1 rfl (lv_room (Nat.le_of_ble_eq_true rfl)) dX5_init_24 ⟨(Nat.le_of_ble_eq_true rfl), (Nat.le_of_ble_eq_true rfl)⟩) hS (fun q _ h => hFc q h) hFc (fun uX1 t H1 locs ht hvm hw hB hz1 hk1 hS => ?_)
  obtain ⟨hP1, hK1, hD1⟩ := hB
  rw [ht] at hP1
  obtain ⟨hP, hD⟩ := va_join (wr := [(h0, .inr (5, [.ref qX3, .null, .null, .null, .null]))] ++ wc_X3 cs qX3 uX3) (w1 := wc_X1 cs qX1 qX3 uX1) hP hD [6] [0, 1, 2, 3, 4, 5] rfl rfl (by decide) (by decide) hk1 hFc hP1 hD1
  generalize H1 = H at hP hS ⊢
  refine va_putF (D := D) (ci := 5) (v := .ref qX1) (ty := .object "QuickestOut$Plan") (C := RX5) (T := TX5) (N := 5) hx hb hts (hz_wsX50 _) tyX5 tyX5_ok nmX5 hown hK hP hD hS 0 rfl rfl 1 (Nat.le_of_ble_eq_true rfl) (hts _ (List.mem_cons_of_mem _ (aw_r1 _ (List.mem_of_getElem? (i := 20) rfl)))) (fun _ h9 => h9) rfl hin rfl (by decide +kernel) rfl rfl (Nat.le_of_ble_eq_true rfl) dX5_init_27 (fun H locs hP hD hS => ?_)
  replace hP : va_P D vwCl ([(h0, .inr (5, [.ref qX3, .ref qX1, .null, .null, .null]))] ++ wc_X3 cs qX3 uX3 ++ wc_X1 cs qX1 qX3 uX1) H := hP
  replace hD : va_D A ([(h0, .inr (5, [.ref qX3, .ref qX1, .null, .null, .null]))] ++ wc_X3 cs qX3 uX3 ++ wc_X1 cs qX1 qX3 uX1) := hD
  refine lv_aload_n hx hb dX5_init_30 rfl (lv_at hl 0 rfl) ?_
  refine va_new (ci := 2) (fs := [.int 0, .int 0, .null, .null, .null, .int 0, .int 0, .int 0, .int 0, .null, .int 0, .null]) (C := RX2) (T := TX2) (N := 12) hx hb hts (hz_wsX20 _) tyX2 tyX2_ok hown (hts _ (List.mem_cons_of_mem _ (aw_r1 _ (List.mem_of_getElem? (i := 21) rfl)))) (hts _ (List.mem_cons_of_mem _ (aw_r1 _ (List.mem_of_getElem? (i := 22) rfl)))) (hts _ (List.mem_cons_of_mem _ (aw_r1 _ (List.mem_of_getElem? (i := 23) rfl)))) hK hP hD hS hA rfl (by decide +kernel) (Nat.le_of_ble_eq_true rfl) (Nat.le_of_ble_eq_true rfl) dX5_init_31 (fun qX2 H hP hD hS => ?_)
  replace hP : va_P D vwCl ([(h0, .inr (5, [.ref qX3, .ref qX1, .null, .null, .null]))] ++ wc_X3 cs qX3 uX3 ++ wc_X1 cs qX1 qX3 uX1 ++ w0_X2 qX2) H := hP
  replace hD : va_D A ([(h0, .inr (5, [.ref qX3, .ref qX1, .null, .null, .null]))] ++ wc_X3 cs qX3 uX3 ++ wc_X1 cs qX1 qX3 uX1 ++ w0_X2 qX2) := hD
  refine lv_dup hx hb dX5_init_34 rfl ?_
  refine lv_aload_n hx hb dX5_init_35 rfl (lv_at hl 0 rfl) ?_
  refine va_get (D := D) (ci := 5) (v := .ref qX3) (C := RX5) (T := TX5) (N := 5) hx hb hts (hz_wsX50 _) hown hK hP 0 rfl rfl 0 (Nat.le_of_ble_eq_true rfl) (hts _ (List.mem_cons_of_mem _ (aw_r1 _ (List.mem_of_getElem? (i := 16) rfl)))) (fun _ h9 => h9) rfl dX5_init_36 ?_
  refine lv_aload_n hx hb dX5_init_39 rfl (lv_at hl 0 rfl) ?_
  refine va_get (D := D) (ci := 5) (v := .ref qX1) (C := RX5) (T := TX5) (N := 5) hx hb hts (hz_wsX50 _) hown hK hP 0 rfl rfl 1 (Nat.le_of_ble_eq_true rfl) (hts _ (List.mem_cons_of_mem _ (aw_r1 _ (List.mem_of_getElem? (i := 20) rfl)))) (fun _ h9 => h9) rfl dX5_init_40 ?_
  have hPc := hP.sub (ws' := w0_X2 qX2) [13] rfl
  have hDc := hD.sub (ws' := w0_X2 qX2) [13] (by decide) rfl
  have hFc := va_free (wc := w0_X2 qX2) hD hS hA [13] rfl
  refine va_callv (va_runI (As := [.ref qX3, .ref qX1]) (rest := [.ref qX2, .ref h0]) ⟨hx, hb, hml, hown, hts⟩ (ci_X2 l cs D qX2 qX3 qX1 H.size) (cwI 2 hts (gzI (aw_r3 _ (List.mem_of_getElem? (i := 6) rfl))) rfl rfl rfl (hts _ (List.mem_cons_of_mem _ (aw_r1 _ (List.mem_of_getElem? (i := 23) rfl)))) (hts _ (List.mem_cons_of_mem _ (aw_r3 _ (List.mem_of_getElem? (i := 4) rfl)))) (hts _ (List.mem_cons_of_mem _ (aw_r3 _ (List.mem_of_getElem? (i := 5) rfl)))) rfl hdi_X2 ⟨(Nat.le_of_ble_eq_true rfl), (Nat.le_of_ble_eq_true rfl)⟩) ⟨fun a U g mk q => by obtain ⟨q0, q1, qP, qK, qD⟩ := q; exact ⟨q0, q1, qP, va_K.moved (u := U) (U := U.calling g mk a) (Vm.Alike.refl U.vm) qK, qD⟩, fun U hU hW => ⟨rfl, by rw [hU], by rw [hU]; exact hPc, va_K.moved hW.alike hK, hDc.weaken (fun _ _ _ _ => trivial)⟩⟩ rfl rfl hl.1 rfl (lv_room (Nat.le_of_ble_eq_true rfl)) dX5_init_43 ⟨(Nat.le_of_ble_eq_true rfl), (Nat.le_of_ble_eq_true rfl)⟩) hS (fun q _ h => hFc q h) hFc (fun uX2 t H1 locs ht hvm hw hB hz1 hk1 hS => ?_)
  obtain ⟨hP1, hK1, hD1⟩ := hB
  rw [ht] at hP1
  obtain ⟨hP, hD⟩ := va_join (wr := [(h0, .inr (5, [.ref qX3, .ref qX1, .null, .null, .null]))] ++ wc_X3 cs qX3 uX3 ++ wc_X1 cs qX1 qX3 uX1) (w1 := wc_X2 cs qX2 qX3 qX1 uX2) hP hD [13] [0, 1, 2, 3, 4, 5, 6, 7, 8, 9, 10, 11, 12] rfl rfl (by decide) (by decide) hk1 hFc hP1 hD1
  generalize H1 = H at hP hS ⊢
  refine va_putF (D := D) (ci := 5) (v := .ref qX2) (ty := .object "QuickestOut$Reader") (C := RX5) (T := TX5) (N := 5) hx hb hts (hz_wsX50 _) tyX5 tyX5_ok nmX5 hown hK hP hD hS 0 rfl rfl 2 (Nat.le_of_ble_eq_true rfl) (hts _ (List.mem_cons_of_mem _ (aw_r2 _ (List.mem_of_getElem? (i := 0) rfl)))) (fun _ h9 => h9) rfl hin rfl (by decide +kernel) rfl rfl (Nat.le_of_ble_eq_true rfl) dX5_init_46 (fun H locs hP hD hS => ?_)
  replace hP : va_P D vwCl ([(h0, .inr (5, [.ref qX3, .ref qX1, .ref qX2, .null, .null]))] ++ wc_X3 cs qX3 uX3 ++ wc_X1 cs qX1 qX3 uX1 ++ wc_X2 cs qX2 qX3 qX1 uX2) H := hP
  replace hD : va_D A ([(h0, .inr (5, [.ref qX3, .ref qX1, .ref qX2, .null, .null]))] ++ wc_X3 cs qX3 uX3 ++ wc_X1 cs qX1 qX3 uX1 ++ wc_X2 cs qX2 qX3 qX1 uX2) := hD
  refine lv_aload_n hx hb dX5_init_49 rfl (lv_at hl 0 rfl) ?_
  refine va_new (ci := 0) (fs := [.null, .int 0, .int 0, .int 0, .int 0, .null, .null, .null, .null, .null, .null, .null, .null, .null]) (C := RX0) (T := TX0) (N := 14) hx hb hts (hz_wsX00 _) tyX0 tyX0_ok hown (hts _ (List.mem_cons_of_mem _ (aw_r2 _ (List.mem_of_getElem? (i := 1) rfl)))) (hts _ (List.mem_cons_of_mem _ (aw_r2 _ (List.mem_of_getElem? (i := 2) rfl)))) (hts _ (List.mem_cons_of_mem _ (aw_r2 _ (List.mem_of_getElem? (i := 3) rfl)))) hK hP hD hS hA rfl (by decide +kernel) (Nat.le_of_ble_eq_true rfl) (Nat.le_of_ble_eq_true rfl) dX5_init_50 (fun qX0 H hP hD hS => ?_)
  replace hP : va_P D vwCl ([(h0, .inr (5, [.ref qX3, .ref qX1, .ref qX2, .null, .null]))] ++ wc_X3 cs qX3 uX3 ++ wc_X1 cs qX1 qX3 uX1 ++ wc_X2 cs qX2 qX3 qX1 uX2 ++ w0_X0 qX0) H := hP
  replace hD : va_D A ([(h0, .inr (5, [.ref qX3, .ref qX1, .ref qX2, .null, .null]))] ++ wc_X3 cs qX3 uX3 ++ wc_X1 cs qX1 qX3 uX1 ++ wc_X2 cs qX2 qX3 qX1 uX2 ++ w0_X0 qX0) := hD
  refine lv_dup hx hb dX5_init_53 rfl ?_
  refine lv_aload_n hx hb dX5_init_54 rfl (lv_at hl 0 rfl) ?_
  refine va_get (D := D) (ci := 5) (v := .ref qX3) (C := RX5) (T := TX5) (N := 5) hx hb hts (hz_wsX50 _) hown hK hP 0 rfl rfl 0 (Nat.le_of_ble_eq_true rfl) (hts _ (List.mem_cons_of_mem _ (aw_r1 _ (List.mem_of_getElem? (i := 16) rfl)))) (fun _ h9 => h9) rfl dX5_init_55 ?_
  have hPc := hP.sub (ws' := w0_X0 qX0) [17] rfl
  have hDc := hD.sub (ws' := w0_X0 qX0) [17] (by decide) rfl
  have hFc := va_free (wc := w0_X0 qX0) hD hS hA [17] rfl
  refine va_callv (va_runI (As := [.ref qX3]) (rest := [.ref qX0, .ref h0]) ⟨hx, hb, hml, hown, hts⟩ (ci_X0 l cs D qX0 qX3 H.size) (cwI 1 hts (gzI (aw_r3 _ (List.mem_of_getElem? (i := 16) rfl))) rfl rfl rfl (hts _ (List.mem_cons_of_mem _ (aw_r2 _ (List.mem_of_getElem? (i := 3) rfl)))) (hts _ (List.mem_cons_of_mem _ (aw_r3 _ (List.mem_of_getElem? (i := 14) rfl)))) (hts _ (List.mem_cons_of_mem _ (aw_r3 _ (List.mem_of_getElem? (i := 15) rfl)))) rfl hdi_X0 ⟨(Nat.le_of_ble_eq_true rfl), (Nat.le_of_ble_eq_true rfl)⟩) ⟨fun a U g mk q => by obtain ⟨q0, q1, qP, qK, qD⟩ := q; exact ⟨q0, q1, qP, va_K.moved (u := U) (U := U.calling g mk a) (Vm.Alike.refl U.vm) qK, qD⟩, fun U hU hW => ⟨rfl, by rw [hU], by rw [hU]; exact hPc, va_K.moved hW.alike hK, hDc.weaken (fun _ _ _ _ => trivial)⟩⟩ rfl rfl hl.1 rfl (lv_room (Nat.le_of_ble_eq_true rfl)) dX5_init_58 ⟨(Nat.le_of_ble_eq_true rfl), (Nat.le_of_ble_eq_true rfl)⟩) hS (fun q _ h => hFc q h) hFc (fun uX0 t H1 locs ht hvm hw hB hz1 hk1 hS => ?_)
  obtain ⟨hP1, hK1, hD1⟩ := hB
  rw [ht] at hP1
  obtain ⟨hP, hD⟩ := va_join (wr := [(h0, .inr (5, [.ref qX3, .ref qX1, .ref qX2, .null, .null]))] ++ wc_X3 cs qX3 uX3 ++ wc_X1 cs qX1 qX3 uX1 ++ wc_X2 cs qX2 qX3 qX1 uX2) (w1 := wc_X0 cs qX0 qX3 uX0) hP hD [17] [0, 1, 2, 3, 4, 5, 6, 7, 8, 9, 10, 11, 12, 13, 14, 15, 16] rfl rfl (by decide) (by decide) hk1 hFc hP1 hD1
  generalize H1 = H at hP hS ⊢
  refine va_putF (D := D) (ci := 5) (v := .ref qX0) (ty := .object "QuickestOut$Network") (C := RX5) (T := TX5) (N := 5) hx hb hts (hz_wsX50 _) tyX5 tyX5_ok nmX5 hown hK hP hD hS 0 rfl rfl 3 (Nat.le_of_ble_eq_true rfl) (hts _ (List.mem_cons_of_mem _ (aw_r2 _ (List.mem_of_getElem? (i := 4) rfl)))) (fun _ h9 => h9) rfl hin rfl (by decide +kernel) rfl rfl (Nat.le_of_ble_eq_true rfl) dX5_init_61 (fun H locs hP hD hS => ?_)
  replace hP : va_P D vwCl ([(h0, .inr (5, [.ref qX3, .ref qX1, .ref qX2, .ref qX0, .null]))] ++ wc_X3 cs qX3 uX3 ++ wc_X1 cs qX1 qX3 uX1 ++ wc_X2 cs qX2 qX3 qX1 uX2 ++ wc_X0 cs qX0 qX3 uX0) H := hP
  replace hD : va_D A ([(h0, .inr (5, [.ref qX3, .ref qX1, .ref qX2, .ref qX0, .null]))] ++ wc_X3 cs qX3 uX3 ++ wc_X1 cs qX1 qX3 uX1 ++ wc_X2 cs qX2 qX3 qX1 uX2 ++ wc_X0 cs qX0 qX3 uX0) := hD
  refine lv_aload_n hx hb dX5_init_64 rfl (lv_at hl 0 rfl) ?_
  refine va_new (ci := 4) (fs := [.int 0, .int 0, .int 0, .int 0, .null, .null, .int 0, .int 0, .null, .null]) (C := RX4) (T := TX4) (N := 10) hx hb hts (hz_wsX40 _) tyX4 tyX4_ok hown (hts _ (List.mem_cons_of_mem _ (aw_r2 _ (List.mem_of_getElem? (i := 5) rfl)))) (hts _ (List.mem_cons_of_mem _ (aw_r2 _ (List.mem_of_getElem? (i := 6) rfl)))) (hts _ (List.mem_cons_of_mem _ (aw_r2 _ (List.mem_of_getElem? (i := 7) rfl)))) hK hP hD hS hA rfl (by decide +kernel) (Nat.le_of_ble_eq_true rfl) (Nat.le_of_ble_eq_true rfl) dX5_init_65 (fun qX4 H hP hD hS => ?_)
  replace hP : va_P D vwCl ([(h0, .inr (5, [.ref qX3, .ref qX1, .ref qX2, .ref qX0, .null]))] ++ wc_X3 cs qX3 uX3 ++ wc_X1 cs qX1 qX3 uX1 ++ wc_X2 cs qX2 qX3 qX1 uX2 ++ wc_X0 cs qX0 qX3 uX0 ++ w0_X4 qX4) H := hP
  replace hD : va_D A ([(h0, .inr (5, [.ref qX3, .ref qX1, .ref qX2, .ref qX0, .null]))] ++ wc_X3 cs qX3 uX3 ++ wc_X1 cs qX1 qX3 uX1 ++ wc_X2 cs qX2 qX3 qX1 uX2 ++ wc_X0 cs qX0 qX3 uX0 ++ w0_X4 qX4) := hD
  refine lv_dup hx hb dX5_init_68 rfl ?_
  refine lv_aload_n hx hb dX5_init_69 rfl (lv_at hl 0 rfl) ?_
  refine va_get (D := D) (ci := 5) (v := .ref qX3) (C := RX5) (T := TX5) (N := 5) hx hb hts (hz_wsX50 _) hown hK hP 0 rfl rfl 0 (Nat.le_of_ble_eq_true rfl) (hts _ (List.mem_cons_of_mem _ (aw_r1 _ (List.mem_of_getElem? (i := 16) rfl)))) (fun _ h9 => h9) rfl dX5_init_70 ?_
  refine lv_aload_n hx hb dX5_init_73 rfl (lv_at hl 0 rfl) ?_
  refine va_get (D := D) (ci := 5) (v := .ref qX0) (C := RX5) (T := TX5) (N := 5) hx hb hts (hz_wsX50 _) hown hK hP 0 rfl rfl 3 (Nat.le_of_ble_eq_true rfl) (hts _ (List.mem_cons_of_mem _ (aw_r2 _ (List.mem_of_getElem? (i := 4) rfl)))) (fun _ h9 => h9) rfl dX5_init_74 ?_
  have hPc := hP.sub (ws' := w0_X4 qX4) [27] rfl
  have hDc := hD.sub (ws' := w0_X4 qX4) [27] (by decide) rfl
  have hFc := va_free (wc := w0_X4 qX4) hD hS hA [27] rfl
  refine va_callv (va_runI (As := [.ref qX3, .ref qX0]) (rest := [.ref qX4, .ref h0]) ⟨hx, hb, hml, hown, hts⟩ (ci_X4 l cs D qX4 qX3 qX0 H.size) (cwI 2 hts (gzI (aw_r4 _ (List.mem_of_getElem? (i := 6) rfl))) rfl rfl rfl (hts _ (List.mem_cons_of_mem _ (aw_r2 _ (List.mem_of_getElem? (i := 7) rfl)))) (hts _ (List.mem_cons_of_mem _ (aw_r4 _ (List.mem_of_getElem? (i := 4) rfl)))) (hts _ (List.mem_cons_of_mem _ (aw_r4 _ (List.mem_of_getElem? (i := 5) rfl)))) rfl hdi_X4 ⟨(Nat.le_of_ble_eq_true rfl), (Nat.le_of_ble_eq_true rfl)⟩) ⟨fun a U g mk q => by obtain ⟨q0, q1, qP, qK, qD⟩ := q; exact ⟨q0, q1, qP, va_K.moved (u := U) (U := U.calling g mk a) (Vm.Alike.refl U.vm) qK, qD⟩, fun U hU hW => ⟨rfl, by rw [hU], by rw [hU]; exact hPc, va_K.moved hW.alike hK, hDc.weaken (fun _ _ _ _ => trivial)⟩⟩ rfl rfl hl.1 rfl (lv_room (Nat.le_of_ble_eq_true rfl)) dX5_init_77 ⟨(Nat.le_of_ble_eq_true rfl), (Nat.le_of_ble_eq_true rfl)⟩) hS (fun q _ h => hFc q h) hFc (fun uX4 t H1 locs ht hvm hw hB hz1 hk1 hS => ?_)
  obtain ⟨hP1, hK1, hD1⟩ := hB
  rw [ht] at hP1
  obtain ⟨hP, hD⟩ := va_join (wr := [(h0, .inr (5, [.ref qX3, .ref qX1, .ref qX2, .ref qX0, .null]))] ++ wc_X3 cs qX3 uX3 ++ wc_X1 cs qX1 qX3 uX1 ++ wc_X2 cs qX2 qX3 qX1 uX2 ++ wc_X0 cs qX0 qX3 uX0) (w1 := wc_X4 cs qX4 qX3 qX0 uX4) hP hD [27] [0, 1, 2, 3, 4, 5, 6, 7, 8, 9, 10, 11, 12, 13, 14, 15, 16, 17, 18, 19, 20, 21, 22, 23, 24, 25, 26] rfl rfl (by decide) (by decide) hk1 hFc hP1 hD1
  generalize H1 = H at hP hS ⊢
  refine va_putF (D := D) (ci := 5) (v := .ref qX4) (ty := .object "QuickestOut$Turner") (C := RX5) (T := TX5) (N := 5) hx hb hts (hz_wsX50 _) tyX5 tyX5_ok nmX5 hown hK hP hD hS 0 rfl rfl 4 (Nat.le_of_ble_eq_true rfl) (hts _ (List.mem_cons_of_mem _ (aw_r2 _ (List.mem_of_getElem? (i := 8) rfl)))) (fun _ h9 => h9) rfl hin rfl (by decide +kernel) rfl rfl (Nat.le_of_ble_eq_true rfl) dX5_init_80 (fun H locs hP hD hS => ?_)
  replace hP : va_P D vwCl ([(h0, .inr (5, [.ref qX3, .ref qX1, .ref qX2, .ref qX0, .ref qX4]))] ++ wc_X3 cs qX3 uX3 ++ wc_X1 cs qX1 qX3 uX1 ++ wc_X2 cs qX2 qX3 qX1 uX2 ++ wc_X0 cs qX0 qX3 uX0 ++ wc_X4 cs qX4 qX3 qX0 uX4) H := hP
  replace hD : va_D A ([(h0, .inr (5, [.ref qX3, .ref qX1, .ref qX2, .ref qX0, .ref qX4]))] ++ wc_X3 cs qX3 uX3 ++ wc_X1 cs qX1 qX3 uX1 ++ wc_X2 cs qX2 qX3 qX1 uX2 ++ wc_X0 cs qX0 qX3 uX0 ++ wc_X4 cs qX4 qX3 qX0 uX4) := hD
  have hP9 := hP.sub (ws' := wdC cs (fun k => match k with | 0 => h0 | 1 => qX3 | 2 => qX1 | 3 => qX2 | 4 => qX0 | 5 => qX4 | 6 => uX3 0 | 7 => uX3 1 | 8 => uX3 2 | 9 => uX3 3 | 10 => uX1 0 | 11 => uX1 1 | 12 => uX1 2 | 13 => uX1 3 | 14 => uX1 4 | 15 => uX1 5 | 16 => uX2 0 | 17 => uX2 1 | 18 => uX2 2 | 19 => uX0 0 | 20 => uX0 1 | 21 => uX0 2 | 22 => uX0 3 | 23 => uX0 4 | 24 => uX0 5 | 25 => uX0 6 | 26 => uX0 7 | 27 => uX0 8 | 28 => uX4 0 | _ => uX4 1)) [0, 1, 6, 13, 17, 27, 2, 3, 4, 5, 7, 8, 9, 10, 11, 12, 14, 15, 16, 18, 19, 20, 21, 22, 23, 24, 25, 26, 28, 29] rfl
  have hD9 := hD.sub (ws' := wdC cs (fun k => match k with | 0 => h0 | 1 => qX3 | 2 => qX1 | 3 => qX2 | 4 => qX0 | 5 => qX4 | 6 => uX3 0 | 7 => uX3 1 | 8 => uX3 2 | 9 => uX3 3 | 10 => uX1 0 | 11 => uX1 1 | 12 => uX1 2 | 13 => uX1 3 | 14 => uX1 4 | 15 => uX1 5 | 16 => uX2 0 | 17 => uX2 1 | 18 => uX2 2 | 19 => uX0 0 | 20 => uX0 1 | 21 => uX0 2 | 22 => uX0 3 | 23 => uX0 4 | 24 => uX0 5 | 25 => uX0 6 | 26 => uX0 7 | 27 => uX0 8 | 28 => uX4 0 | _ => uX4 1)) [0, 1, 6, 13, 17, 27, 2, 3, 4, 5, 7, 8, 9, 10, 11, 12, 14, 15, 16, 18, 19, 20, 21, 22, 23, 24, 25, 26, 28, 29] (by decide) rfl
  refine W.widen (k := 29) (n := 14541) (Nat.le_of_ble_eq_true rfl) (Nat.le_of_ble_eq_true rfl) ?_
  exact W.vret hx hb hr (fun t ht hW => ⟨⟨(fun k => match k with | 0 => h0 | 1 => qX3 | 2 => qX1 | 3 => qX2 | 4 => qX0 | 5 => qX4 | 6 => uX3 0 | 7 => uX3 1 | 8 => uX3 2 | 9 => uX3 3 | 10 => uX1 0 | 11 => uX1 1 | 12 => uX1 2 | 13 => uX1 3 | 14 => uX1 4 | 15 => uX1 5 | 16 => uX2 0 | 17 => uX2 1 | 18 => uX2 2 | 19 => uX0 0 | 20 => uX0 1 | 21 => uX0 2 | 22 => uX0 3 | 23 => uX0 4 | 24 => uX0 5 | 25 => uX0 6 | 26 => uX0 7 | 27 => uX0 8 | 28 => uX4 0 | _ => uX4 1), rfl, rfl, by rw [ht]; exact hP9, va_K.moved hW.alike hK, hD9⟩, hS.F ht⟩) hS.2.2 dX5_init_83
