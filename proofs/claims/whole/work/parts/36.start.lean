/-! From the law's entry to its loop: the objects are made, the world stands -/
theorem en_start {s : State} {args : Array Value} (htsT : ∀ w ∈ lw_tbl, w.before args s = true) (hgv : (Jvm.Cond.and given_1 narrow_1).before args s = true) : ∃ adK adV : Nat → Nat, ∀ (h : Nat → Nat) (cs : Cs) (D : va_G), (∀ k, k < 48 → s.heap.size ≤ h k) → EN (h, cs, D, adK, adV) (AA (h, cs, D, adK, adV) s.heap.size) s s.heap := by
  have hf := flat_of_before _ hgv
  have hA : ∀ a : Nat, a < s.heap.size → ¬ (fun q : Nat => s.heap.size ≤ q) a := fun a h => Nat.not_le.mpr h
  obtain ⟨adK, adV, hV, hR⟩ := vk_Sof (args := args) (s := s) (N := 7) (tm := tmS) (len := lenS) (byt := bytS) (A := fun q : Nat => s.heap.size ≤ q) (fun i hi => (lenS_ok i hi).2) (fun i hi => hf _ (fS_ex i hi)) (fun i hi => hf _ (fS_co i hi)) (fun i hi => hf _ (fS_ar i hi)) (fun i hi => hf _ (fS_le i hi)) (fun i hi j hj => hf _ (fS_el i hi j hj)) (fun i j hi hj hij => (fS_ne i hi j hj hij).imp (fun h => hf _ h) (fun h => hf _ h)) hA
  refine ⟨adK, adV, fun h cs D hh => ?_⟩
  have up : ∀ q, AA (h, cs, D, adK, adV) s.heap.size q → s.heap.size ≤ q := by
    intro q hq
    rcases hq with ⟨k, hk, rfl⟩ | hq
    · exact hh k hk
    · exact hq
  refine ⟨hV.narrow up, (va_Zof (htsT _ fT_z.1) (htsT _ fT_z.2.1) (va_eqv (hf _ fS_z.1) rfl) hA).narrow up, (vx_Zqof (htsT _ fT_z.2.2.2.2.1) (htsT _ fT_z.2.2.2.2.2.1) (hf _ fS_z.2.2.1) hA).narrow up, (vx_Zqof (htsT _ fT_z.2.2.2.2.2.2) (htsT _ fT_z.2.2.2.2.2.1) (hf _ fS_z.2.2.2) hA).narrow up, (va_Zqof (htsT _ fT_z.2.2.1) (htsT _ fT_z.2.2.2.1) (hf _ fS_z.2.1) hA).narrow up, ⟨va_Nw.of rfl (htsT _ fT_w.1), va_Nw.of rfl (htsT _ fT_w.2.1), va_Nw.of rfl (htsT _ fT_w.2.2.1), va_Nw.of rfl (htsT _ fT_w.2.2.2.1)⟩, ?_⟩
  exact ⟨vk_R.of (htsT _ fT_s.1) (hR 0 (by decide)), vk_R.of (htsT _ fT_s.2.1) (hR 1 (by decide)), vk_R.of (htsT _ fT_s.2.2.1) (hR 2 (by decide)), vk_R.of (htsT _ fT_s.2.2.2.1) (hR 3 (by decide)), vk_R.of (htsT _ fT_s.2.2.2.2.1) (hR 4 (by decide)), vk_R.of (htsT _ fT_s.2.2.2.2.2.1) (hR 5 (by decide)), vk_R.of (htsT _ fT_s.2.2.2.2.2.2) (hR 6 (by decide))⟩
def lw_G (cs : Cs) (D : va_G) (adK adV g u : Nat → Nat) (q1 q2 : Nat) : Gw := (fun k => match k with
  | 30 => q1
  | 31 => u 0
  | 32 => u 1
  | 33 => u 2
  | 34 => u 3
  | 35 => u 4
  | 36 => u 5
  | 37 => u 6
  | 38 => u 7
  | 39 => u 8
  | 40 => u 9
  | 41 => u 10
  | 42 => u 11
  | 43 => u 12
  | 44 => u 13
  | 45 => u 14
  | 46 => u 15
  | 47 => q2
  | k => g k, cs, D, adK, adV)
theorem lw_wd (cs : Cs) (D : va_G) (adK adV g u : Nat → Nat) (q1 q2 : Nat) : wd (lw_G cs D adK adV g u q1 q2) (fun _ _ => 0) = (wdC cs g ++ wc_X6 cs q1 u) ++ [(q2, .inl (cs.2.2.2, 1, .inr (.inl (fun _ => (0 : Int32).toInt64))))] := rfl
theorem hdi_X5 : yX5_init.cls ≠ "java/lang/invoke/MethodHandle" ∧ yX5_init.cls ≠ "java/lang/invoke/VarHandle" ∧ (parseMethodDescriptor yX5_init.desc).map (fun d => d.parameters.length) = some 0 := by decide +kernel
theorem hdi_X6 : yX6_init.cls ≠ "java/lang/invoke/MethodHandle" ∧ yX6_init.cls ≠ "java/lang/invoke/VarHandle" ∧ (parseMethodDescriptor yX6_init.desc).map (fun d => d.parameters.length) = some 0 := by decide +kernel
theorem va_S.up {A B : Nat → Prop} {H0 H : Heap} {locs : List Loc} (h : va_S A H0 H locs) (hu : ∀ q, A q → B q) : va_S B H0 H locs := ⟨h.1, fun q h1 h2 => h.2.1 q h1 (fun z => h2 (hu q z)), fun l hl => hu _ (h.2.2 l hl)⟩
set_option maxHeartbeats 8000000 in
set_option maxRecDepth 100000 in
/-- THE LAW, from its entry, out of its wp at the start -/
theorem whole_start_open (hpure : ∀ (L : Nat) (xs : Nat → Int32), L ≤ 3072 → wp_L_law_23 xs L 513 0 (fun _ _ => 0)) {p : Program} {e : Env} {s : State} {m : MethodId} {below : List Frame} {meth : Method} {c : Code} (l : Launch) (hflags : l.flags = flags0) {b L : Nat} {xs : Nat → Int32} (hL : L ≤ 3072) (C0 : lw_At p s m meth c b L xs) : W p l e room_1 s m #[Value.ref b] below meth c s.heap [] 0 0 (lw_Z below #[Value.ref b] s) (entryFrame m ([Value.ref b] : List Value).toArray 7) := by
  obtain ⟨hx, hb, hr, hml, hown, htsT, hX, hbl, hlocks, hgv⟩ := id C0
  have hst : l.stackTraces = false := by unfold Launch.stackTraces; rw [hflags]; decide +kernel
  have hown : s.vm.findClass RL = some m.cls := hown
  have hts : ∀ w ∈ (Cond.initialized RL :: wsA), w.before #[Value.ref b] s = true := by
    intro w h
    rcases List.mem_cons.mp h with rfl | h
    · exact htsT _ (wsA_in _ (aw_r24 _ (List.mem_of_getElem? (i := 18) rfl)))
    · exact htsT w (wsA_in w h)
  have hNest : va_Nw zNest s := va_Nw.of rfl (htsT _ fT_w.2.2.2.2)
  have hA : ∀ q : Nat, s.heap.size ≤ q → (fun q : Nat => s.heap.size ≤ q) q := fun _ h => h
  obtain ⟨adK, adV, hEN⟩ := en_start htsT hgv
  obtain ⟨cI, hI⟩ := k_arr (htsT _ fT_a.1) (fun _ => rfl)
  obtain ⟨cB, hB⟩ := k_arr (htsT _ fT_a.2.1) (fun _ => rfl)
  obtain ⟨cZ, hZ⟩ := k_arr (htsT _ fT_a.2.2.1) (fun _ => rfl)
  obtain ⟨cJ, hJ⟩ := k_arr (htsT _ fT_a.2.2.2) (fun _ => rfl)
  obtain ⟨cs, hcs⟩ : ∃ cs : Cs, cs = (cI, cB, cZ, cJ) := ⟨_, rfl⟩
  obtain ⟨c0, i0, k0⟩ := u_known (C := RX0) (T := TX0) (N := 14) (n := 14) hts (hz_wsX00 _) (hts _ (List.mem_cons_of_mem _ (aw_r2 _ (List.mem_of_getElem? (i := 2) rfl))))
  obtain ⟨c1, i1, k1⟩ := u_known (C := RX1) (T := TX1) (N := 14) (n := 14) hts (hz_wsX10 _) (hts _ (List.mem_cons_of_mem _ (aw_r1 _ (List.mem_of_getElem? (i := 18) rfl))))
  obtain ⟨c2, i2, k2⟩ := u_known (C := RX2) (T := TX2) (N := 12) (n := 12) hts (hz_wsX20 _) (hts _ (List.mem_cons_of_mem _ (aw_r1 _ (List.mem_of_getElem? (i := 22) rfl))))
  obtain ⟨c3, i3, k3⟩ := u_known (C := RX3) (T := TX3) (N := 6) (n := 6) hts (hz_wsX30 _) (hts _ (List.mem_cons_of_mem _ (aw_r1 _ (List.mem_of_getElem? (i := 14) rfl))))
  obtain ⟨c4, i4, k4⟩ := u_known (C := RX4) (T := TX4) (N := 10) (n := 10) hts (hz_wsX40 _) (hts _ (List.mem_cons_of_mem _ (aw_r2 _ (List.mem_of_getElem? (i := 6) rfl))))
  obtain ⟨c5, i5, k5⟩ := u_known (C := RX5) (T := TX5) (N := 5) (n := 5) hts (hz_wsX50 _) (hts _ (List.mem_cons_of_mem _ (aw_r1 _ (List.mem_of_getElem? (i := 1) rfl))))
  obtain ⟨c6, i6, k6⟩ := u_known (C := RX6) (T := TX6) (N := 27) (n := 27) hts (hz_wsX60 _) (hts _ (List.mem_cons_of_mem _ (aw_r1 _ (List.mem_of_getElem? (i := 4) rfl))))
  obtain ⟨D, hKc⟩ : ∃ D : va_G, ∀ (k : Nat) (q : vw_C), vwCl[k]? = some q → u_Kn s q.1 q.2.1 q.2.2 (D.1 k) (D.2 k) := by
    refine ⟨(fun k => match k with | 0 => c0 | 1 => c1 | 2 => c2 | 3 => c3 | 4 => c4 | 5 => c5 | _ => c6, fun k => match k with | 0 => i0 | 1 => i1 | 2 => i2 | 3 => i3 | 4 => i4 | 5 => i5 | _ => i6), ?_⟩
    intro k q hq
    match k, hq with
    | 0, hq => cases hq; exact k0
    | 1, hq => cases hq; exact k1
    | 2, hq => cases hq; exact k2
    | 3, hq => cases hq; exact k3
    | 4, hq => cases hq; exact k4
    | 5, hq => cases hq; exact k5
    | 6, hq => cases hq; exact k6
    | k + 7, hq => simp [vwCl] at hq
  have hK : va_K D vwCl (tyK cs) s := by
    refine ⟨hKc, fun k q h => ?_⟩
    subst hcs
    match k, h with
    | 0, h => cases h; exact hI
    | 1, h => cases h; exact hB
    | 2, h => cases h; exact hZ
    | 3, h => cases h; exact hJ
    | k + 4, h => simp [tyK] at h
  have hS : va_S (fun q : Nat => s.heap.size ≤ q) s.heap s.heap [] := va_S.rf
  have hP : va_P D vwCl [] s.heap := fun k q h => by simp at h
  have hD : va_D (fun q : Nat => s.heap.size ≤ q) [] := ⟨fun i j p q h => by simp at h, fun k q h => by simp at h⟩
  have hl := lv_entry ([.ref b]) (n := 7) (Nat.le_of_ble_eq_true rfl)
  rw [lg_entry_eq]
  generalize (lg_sl ([.ref b]) ++ List.replicate (7 - (lg_sl ([.ref b])).length) Slot.unset).toArray = ls at hl ⊢
  have hl : lv_has ls 7 [(0, .ref b)] := hl
  refine va_new (ci := 5) (fs := [.null, .null, .null, .null, .null]) (C := RX5) (T := TX5) (N := 5) hx hb hts (hz_wsX50 _) tyX5 tyX5_ok hown (hts _ (List.mem_cons_of_mem _ (aw_r1 _ (List.mem_of_getElem? (i := 0) rfl)))) (hts _ (List.mem_cons_of_mem _ (aw_r1 _ (List.mem_of_getElem? (i := 1) rfl)))) (hts _ (List.mem_cons_of_mem _ (aw_r1 _ (List.mem_of_getElem? (i := 2) rfl)))) hK hP hD hS hA rfl (by decide +kernel) (Nat.le_of_ble_eq_true rfl) (Nat.le_of_ble_eq_true rfl) dL_law_0 (fun q0 H hP hD hS => ?_)
  replace hP : va_P D vwCl (w0_X5 q0) H := hP
  replace hD : va_D (fun q : Nat => s.heap.size ≤ q) (w0_X5 q0) := hD
  refine lv_dup hx hb dL_law_3 rfl ?_
  have hFc := va_free (wc := w0_X5 q0) hD hS hA [0] rfl
  refine va_callv (va_runI (As := []) (rest := [.ref q0]) ⟨hx, hb, hml, hown, hts⟩ (ci_X5 l cs D q0 H.size) (cwI 0 hts (gzI (aw_r1 _ (List.mem_of_getElem? (i := 9) rfl))) rfl rfl rfl (hts _ (List.mem_cons_of_mem _ (aw_r1 _ (List.mem_of_getElem? (i := 2) rfl)))) (hts _ (List.mem_cons_of_mem _ (aw_r1 _ (List.mem_of_getElem? (i := 7) rfl)))) (hts _ (List.mem_cons_of_mem _ (aw_r1 _ (List.mem_of_getElem? (i := 8) rfl)))) rfl hdi_X5 ⟨Nat.le_of_ble_eq_true rfl, Nat.le_of_ble_eq_true rfl⟩) ⟨fun a U g mk q => by obtain ⟨q0, q1, qP, qK, qD, qN⟩ := q; exact ⟨q0, q1, qP, va_K.moved (u := U) (U := U.calling g mk a) (Vm.Alike.refl U.vm) qK, qD, va_Nw.same (u := U) (U := U.calling g mk a) rfl rfl qN⟩, fun U hU hW => ⟨rfl, by rw [hU], by rw [hU]; exact hP, va_K.moved hW.alike hK, hD.weaken (fun _ _ _ _ => trivial), va_Nw.warmM hW hNest⟩⟩ rfl rfl hl.1 rfl (lv_room (Nat.le_of_ble_eq_true rfl)) dL_law_4 ⟨Nat.le_of_ble_eq_true rfl, Nat.le_of_ble_eq_true rfl⟩) hS (fun q _ h => hFc q h) hFc (fun g t H1 locs ht hvm hg hB hz1 hk1 hS => ?_)
  obtain ⟨hP1, hK1, hD1⟩ := hB
  rw [ht] at hP1
  obtain ⟨hP, hD⟩ := va_join (wr := []) (w1 := wdC cs g) hP hD [0] [] rfl rfl (by decide) (by decide) hk1 hFc hP1 hD1
  replace hP : va_P D vwCl (wdC cs g) H1 := hP
  replace hD : va_D (fun q : Nat => s.heap.size ≤ q) (wdC cs g) := hD
  generalize H1 = H at hP hS ⊢
  refine lv_astore_n (lv' := [(1, .ref q0), (0, .ref b)]) hx hb dL_law_7 rfl hl (Nat.le_of_ble_eq_true rfl) rfl (fun ls hl => ?_)
  refine va_new (ci := 6) (fs := [.int 0, .null, .null, .null, .int 0, .int 0, .int 0, .int 0, .int 0, .null, .null, .null, .null, .null, .null, .null, .int 0, .null, .null, .null, .null, .null, .null, .int 0, .int 0, .int 0, .int 0]) (C := RX6) (T := TX6) (N := 27) hx hb hts (hz_wsX60 _) tyX6 tyX6_ok hown (hts _ (List.mem_cons_of_mem _ (aw_r1 _ (List.mem_of_getElem? (i := 3) rfl)))) (hts _ (List.mem_cons_of_mem _ (aw_r1 _ (List.mem_of_getElem? (i := 4) rfl)))) (hts _ (List.mem_cons_of_mem _ (aw_r1 _ (List.mem_of_getElem? (i := 5) rfl)))) hK hP hD hS hA rfl (by decide +kernel) (Nat.le_of_ble_eq_true rfl) (Nat.le_of_ble_eq_true rfl) dL_law_8 (fun q1 H hP hD hS => ?_)
  replace hP : va_P D vwCl (wdC cs g ++ w0_X6 q1) H := hP
  replace hD : va_D (fun q : Nat => s.heap.size ≤ q) (wdC cs g ++ w0_X6 q1) := hD
  refine lv_dup hx hb dL_law_11 rfl ?_
  have hPc := hP.sub (ws' := w0_X6 q1) [30] rfl
  have hDc := hD.sub (ws' := w0_X6 q1) [30] (by decide) rfl
  have hFc := va_free (wc := w0_X6 q1) hD hS hA [30] rfl
  refine va_callv (va_runI (As := []) (rest := [.ref q1]) ⟨hx, hb, hml, hown, hts⟩ (ci_X6 l cs D q1 H.size) (cwI 0 hts (gzI (aw_r4 _ (List.mem_of_getElem? (i := 14) rfl))) rfl rfl rfl (hts _ (List.mem_cons_of_mem _ (aw_r1 _ (List.mem_of_getElem? (i := 5) rfl)))) (hts _ (List.mem_cons_of_mem _ (aw_r4 _ (List.mem_of_getElem? (i := 12) rfl)))) (hts _ (List.mem_cons_of_mem _ (aw_r4 _ (List.mem_of_getElem? (i := 13) rfl)))) rfl hdi_X6 ⟨Nat.le_of_ble_eq_true rfl, Nat.le_of_ble_eq_true rfl⟩) ⟨fun a U g mk q => by obtain ⟨q0, q1, qP, qK, qD⟩ := q; exact ⟨q0, q1, qP, va_K.moved (u := U) (U := U.calling g mk a) (Vm.Alike.refl U.vm) qK, qD⟩, fun U hU hW => ⟨rfl, by rw [hU], by rw [hU]; exact hPc, va_K.moved hW.alike hK, hDc.weaken (fun _ _ _ _ => trivial)⟩⟩ rfl rfl hl.1 rfl (lv_room (Nat.le_of_ble_eq_true rfl)) dL_law_12 ⟨Nat.le_of_ble_eq_true rfl, Nat.le_of_ble_eq_true rfl⟩) hS (fun q _ h => hFc q h) hFc (fun u t H1 locs ht hvm hu hB hz1 hk1 hS => ?_)
  obtain ⟨hP1, hK1, hD1⟩ := hB
  rw [ht] at hP1
  obtain ⟨hP, hD⟩ := va_join (wr := wdC cs g) (w1 := wc_X6 cs q1 u) hP hD [30] [0, 1, 2, 3, 4, 5, 6, 7, 8, 9, 10, 11, 12, 13, 14, 15, 16, 17, 18, 19, 20, 21, 22, 23, 24, 25, 26, 27, 28, 29] rfl rfl (by decide) (by decide) hk1 hFc hP1 hD1
  generalize H1 = H at hP hS ⊢
  refine lv_astore_n (lv' := [(2, .ref q1), (1, .ref q0), (0, .ref b)]) hx hb dL_law_15 rfl hl (Nat.le_of_ble_eq_true rfl) rfl (fun ls hl => ?_)
  refine lv_iconst (v := 1) hx hb dL_law_16 (by decide) ?_
  refine va_newa (atype := .long) (ty := .long) (a0 := (1, .inr (.inl (fun _ => (0 : Int32).toInt64)))) hx hb (htsT _ fT_a.2.2.2) rfl hK hP hD hS hA (fun cA => by rw [vp_cell_l, show (0 : Int32).toInt64 = 0 from by decide]; rfl) (by decide) (by decide) (Nat.le_of_ble_eq_true rfl) (Nat.le_of_ble_eq_true rfl) (Nat.le_of_ble_eq_true rfl) dL_law_17 (fun q2 cA H hK1 hP hD hS => ?_)
  have ecA : cA = cs.2.2.2 := by
    have h1 : s.vm.findClass ("[" ++ FieldType.long.toString) = some cA := (hK1.2 4 _ rfl).2
    have h2 : s.vm.findClass ("[" ++ FieldType.long.toString) = some cs.2.2.2 := (hK.2 3 _ rfl).2
    exact Option.some.inj (h1.symm.trans h2)
  subst ecA
  rw [← lw_wd cs D adK adV g u q1 q2] at hP hD
  generalize hGe : lw_G cs D adK adV g u q1 q2 = G at hP hD
  refine lv_astore_n (lv' := [(3, .ref q2), (2, .ref q1), (1, .ref q0), (0, .ref b)]) hx hb dL_law_19 rfl hl (Nat.le_of_ble_eq_true rfl) rfl (fun ls hl => ?_)
  refine lv_iconst (v := 0) hx hb dL_law_20 (by decide) ?_
  refine lv_istore (lv' := [(4, .int 0), (3, .ref q2), (2, .ref q1), (1, .ref q0), (0, .ref b)]) hx hb dL_law_21 hl (Nat.le_of_ble_eq_true rfl) rfl (fun ls hl => ?_)
  refine W.widen (k := 48) (n := 30622) (Nat.le_of_ble_eq_true rfl) (Nat.le_of_ble_eq_true rfl) ?_
  have hG : ∀ k, k < 48 → s.heap.size ≤ G.1 k := fun k hk => by
    obtain ⟨e, he⟩ := wd_some G (fun _ _ => 0) hk
    exact hD.2 k _ he
  have hEN1 : EN G (AA G s.heap.size) s s.heap := by
    subst hGe
    exact hEN _ cs D hG
  have e0 : G.1 0 = q0 := by subst hGe; exact hg
  have e1 : G.1 30 = q1 := by subst hGe; rfl
  have e2 : G.1 47 = q2 := by subst hGe; rfl
  have eC : G.2.1 = cs := by subst hGe; rfl
  have eD : G.2.2.1 = D := by subst hGe; rfl
  have hK2 : va_K G.2.2.1 vwCl (tyL G) s := by
    show va_K G.2.2.1 vwCl (tyK G.2.1) s
    rw [eC, eD]
    exact hK
  have hbA : ¬ AA G s.heap.size b := by
    rintro (⟨k, hk, h⟩ | h)
    · have := hG k hk
      omega
    · omega
  have hk : WK G s H locs (fun _ _ => 0) := ⟨hK2, by rw [eD]; exact hP, wd_D hD (fun _ hk => AA.of hk), hS.up (fun q h => Or.inr h)⟩
  exact t_L_law_23 ⟨⟨⟨hx, hb, hml, hown, hts⟩, hr, hlocks, hEN1⟩, hX, hbl, hbA, hG, hst⟩ 513 48 30622 (by omega) (by omega) _ _ _ _ ls (hpure L xs hL) hk (by rw [e0, e1, e2]; exact lv_sub hl [4, 3, 2, 1, 0] rfl)
