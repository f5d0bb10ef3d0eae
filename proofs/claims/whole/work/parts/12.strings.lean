/-! The JDK's own members over the String constants -/
abbrev wz_J0_coder_7d493 : List Cond := Cond.code yJ0_coder_7d493 cJ0_coder_7d493 1 (some .byte) :: wsA
abbrev wz_J0_isLatin1_aae02 : List Cond := Cond.code yJ0_isLatin1_aae02 cJ0_isLatin1_aae02 1 (some .boolean) :: wsA
abbrev wz_J0_length_8abf5 : List Cond := Cond.code yJ0_length_8abf5 cJ0_length_8abf5 1 (some .int) :: wsA
abbrev wz_J3_checkIndex_8e157 : List Cond := Cond.code yJ3_checkIndex_8e157 cJ3_checkIndex_8e157 3 (some .int) :: wsA
abbrev wz_J0_checkIndex_df160 : List Cond := Cond.code yJ0_checkIndex_df160 cJ0_checkIndex_df160 2 none :: wsA
abbrev wz_J1_charAt_3b067 : List Cond := Cond.code yJ1_charAt_3b067 cJ1_charAt_3b067 2 (some .char) :: wsA
abbrev wz_J0_charAt_5068e : List Cond := Cond.code yJ0_charAt_5068e cJ0_charAt_5068e 2 (some .char) :: wsA
def rm_J0 : Room := { frames := 0, cells := 0, slots := 0, locals := 0 }
set_option maxHeartbeats 4000000 in
theorem c_coder (l : Launch) (G : Gw) (σ : Sg) (w : Nat) (hw : w < 7) (Q : Int32 → Sg → Prop) (hq : Q 0 σ) : MetI l yJ0_coder_7d493 wz_J0_coder_7d493 rm_J0 G σ [.ref (G.2.2.2.1 w)] Q := by
  refine MetI.of cJ0_coder_7d493 1 (some .byte) (by decide) rfl (Nat.le_of_ble_eq_true rfl) ?_
  intro p e s m below meth c X hk ls hl
  have X : KC p m meth c cJ0_coder_7d493 1 s _ wz_J0_coder_7d493 RJ0 (some .byte) G := X
  have hl : lv_has ls 1 [(0, .ref (G.2.2.2.1 w))] := hl
  have hx := X.1.1
  have hb := X.1.2.1
  refine va_gets hx hb X.2.2.2.2.1 hk.2.2.2 X.1.2.2.2.1 (X.1.2.2.2.2 _ (List.mem_cons_of_mem _ (aw_r9 _ (List.mem_of_getElem? (i := 11) rfl)))) (fun _ h => h) dJ0_coder_7d493_0 ?_
  refine lv_if_eq (tgt := 13) hx hb dJ0_coder_7d493_3 (by decide) (fun c1 => absurd c1 (by decide)) (fun _ => ?_)
  refine lv_aload_n hx hb dJ0_coder_7d493_6 rfl (lv_at hl 0 rfl) ?_
  refine vk_getf hx hb (X.2.2.2.1.1 w hw).2.1 hk.2.2.2 X.1.2.2.2.1 (X.1.2.2.2.2 _ (List.mem_cons_of_mem _ (aw_r9 _ (List.mem_of_getElem? (i := 12) rfl)))) (fun _ h => h) dJ0_coder_7d493_7 ?_
  refine lv_goto (tgt := 14) hx hb dJ0_coder_7d493_10 (by decide) ?_
  exact k_nret X hk rfl hq dJ0_coder_7d493_14
set_option maxHeartbeats 4000000 in
theorem c_isLatin1 (l : Launch) (G : Gw) (σ : Sg) (w : Nat) (hw : w < 7) (Q : Int32 → Sg → Prop) (hq : Q 1 σ) : MetI l yJ0_isLatin1_aae02 wz_J0_isLatin1_aae02 rm_J0 G σ [.ref (G.2.2.2.1 w)] Q := by
  refine MetI.of cJ0_isLatin1_aae02 1 (some .boolean) (by decide) rfl (Nat.le_of_ble_eq_true rfl) ?_
  intro p e s m below meth c X hk ls hl
  have X : KC p m meth c cJ0_isLatin1_aae02 1 s _ wz_J0_isLatin1_aae02 RJ0 (some .boolean) G := X
  have hl : lv_has ls 1 [(0, .ref (G.2.2.2.1 w))] := hl
  have hx := X.1.1
  have hb := X.1.2.1
  refine va_gets hx hb X.2.2.2.2.1 hk.2.2.2 X.1.2.2.2.1 (X.1.2.2.2.2 _ (List.mem_cons_of_mem _ (aw_r9 _ (List.mem_of_getElem? (i := 11) rfl)))) (fun _ h => h) dJ0_isLatin1_aae02_0 ?_
  refine lv_if_eq (tgt := 17) hx hb dJ0_isLatin1_aae02_3 (by decide) (fun c1 => absurd c1 (by decide)) (fun _ => ?_)
  refine lv_aload_n hx hb dJ0_isLatin1_aae02_6 rfl (lv_at hl 0 rfl) ?_
  refine vk_getf hx hb (X.2.2.2.1.1 w hw).2.1 hk.2.2.2 X.1.2.2.2.1 (X.1.2.2.2.2 _ (List.mem_cons_of_mem _ (aw_r9 _ (List.mem_of_getElem? (i := 12) rfl)))) (fun _ h => h) dJ0_isLatin1_aae02_7 ?_
  refine lv_if_ne (tgt := 17) hx hb dJ0_isLatin1_aae02_10 (by decide) (fun c1 => absurd rfl c1) (fun _ => ?_)
  refine lv_iconst (v := 1) hx hb dJ0_isLatin1_aae02_13 (by decide) ?_
  refine lv_goto (tgt := 18) hx hb dJ0_isLatin1_aae02_14 (by decide) ?_
  exact k_nret X hk rfl hq dJ0_isLatin1_aae02_18
theorem lenS_ok : ∀ w, w < 7 → nI (lenS.getD w 0) >>> ((0 : Int32) &&& 31) = nI (lenS.getD w 0) ∧ lenS.getD w 0 < 2147483648 := by decide
theorem bytS_ok : ∀ w, w < 7 → ∀ k, k < lenS.getD w 0 → ((((bytS.getD w []).getD k 0) &&& 255).toUInt32 % 65536).toInt32 = (bytS.getD w []).getD k 0 ∧ narrow .char (.int ((bytS.getD w []).getD k 0)) = .int ((bytS.getD w []).getD k 0) := by decide +kernel
theorem hd_coder : yJ0_coder_7d493.cls = RJ0 ∧ yJ0_coder_7d493.cls ≠ "java/lang/invoke/MethodHandle" ∧ yJ0_coder_7d493.cls ≠ "java/lang/invoke/VarHandle" ∧ (parseMethodDescriptor yJ0_coder_7d493.desc).map (fun d => d.parameters.length) = some 0 := by decide +kernel
theorem hd_isLatin1 : yJ0_isLatin1_aae02.cls = RJ0 ∧ yJ0_isLatin1_aae02.cls ≠ "java/lang/invoke/MethodHandle" ∧ yJ0_isLatin1_aae02.cls ≠ "java/lang/invoke/VarHandle" ∧ (parseMethodDescriptor yJ0_isLatin1_aae02.desc).map (fun d => d.parameters.length) = some 0 := by decide +kernel
def rm_J0_length : Room := { frames := 1, cells := 0, slots := 0, locals := 20 }
set_option maxHeartbeats 4000000 in
/-- String.length() of a constant -/
theorem c_length (l : Launch) (G : Gw) (σ : Sg) (w : Nat) (hw : w < 7) (Q : Int32 → Sg → Prop) (hq : Q (nI (lenS.getD w 0)) σ) : MetI l yJ0_length_8abf5 wz_J0_length_8abf5 rm_J0_length G σ [.ref (G.2.2.2.1 w)] Q := by
  refine MetI.of cJ0_length_8abf5 1 (some .int) (by decide) rfl (Nat.le_of_ble_eq_true rfl) ?_
  intro p e s m below meth c X hk ls hl
  have X : KC p m meth c cJ0_length_8abf5 1 s _ wz_J0_length_8abf5 RJ0 (some .int) G := X
  have hl : lv_has ls 1 [(0, .ref (G.2.2.2.1 w))] := hl
  have hx := X.1.1
  have hb := X.1.2.1
  refine lv_aload_n hx hb dJ0_length_8abf5_0 rfl (lv_at hl 0 rfl) ?_
  refine vk_getf hx hb (X.2.2.2.1.1 w hw).2.2.1 hk.2.2.2 X.1.2.2.2.1 (X.1.2.2.2.2 _ (List.mem_cons_of_mem _ (aw_r9 _ (List.mem_of_getElem? (i := 6) rfl)))) (fun _ h => h) dJ0_length_8abf5_1 ?_
  refine va_tlen hx hb (X.2.2.2.1.1 w hw).2.2.2 hk.2.2.2 (v := nI (lenS.getD w 0)) rfl dJ0_length_8abf5_4 ?_
  refine lv_aload_n hx hb dJ0_length_8abf5_5 rfl (lv_at hl 0 rfl) ?_
  refine k_callTi (rest := [.int (nI (lenS.getD w 0))]) X hk (c_coder l G _ w hw (fun r τ => r = 0 ∧ τ = σ) ⟨rfl, rfl⟩) (cwV 0 X.1.2.2.2.2 (gzV (aw_r9 _ (List.mem_of_getElem? (i := 7) rfl)) (aw_r9 _ (List.mem_of_getElem? (i := 8) rfl)) (aw_r9 _ (List.mem_of_getElem? (i := 9) rfl)) (aw_r9 _ (List.mem_of_getElem? (i := 4) rfl)) (aw_r9 _ (List.mem_of_getElem? (i := 10) rfl))) rfl rfl rfl hd_coder ⟨Nat.le_of_ble_eq_true rfl, Nat.le_of_ble_eq_true rfl⟩) (vk_recv X.2.2.2.1 hw hk.2.2.2) rfl hl.1 rfl (Nat.le_of_ble_eq_true rfl) dJ0_length_8abf5_6 ⟨Nat.zero_le _, Nat.zero_le _⟩ (fun r τ H locs h9 hk => ?_)
  obtain ⟨h8, h9⟩ := h9
  rw [h9] at hk
  rw [h8]
  refine lv_ishr hx hb dJ0_length_8abf5_9 ?_
  rw [(lenS_ok w hw).1]
  exact k_iret X hk hq dJ0_length_8abf5_10
set_option maxHeartbeats 4000000 in
/-- Preconditions.checkIndex, the index within -/
theorem c_checkIndex3 (l : Launch) (G : Gw) (σ : Sg) (i n : Int32) (v : Value) (hv : v = .null ∨ ∃ t, v = .ref t) (h0 : ¬ i < 0) (h1 : i < n) (Q : Int32 → Sg → Prop) (hq : Q i σ) : MetI l yJ3_checkIndex_8e157 wz_J3_checkIndex_8e157 rm_J0 G σ [.int i, .int n, v] Q := by
  refine MetI.of cJ3_checkIndex_8e157 3 (some .int) (by decide) rfl (by rcases hv with rfl | ⟨t, rfl⟩ <;> exact Nat.le_of_ble_eq_true rfl) ?_
  intro p e s m below meth c X hk ls hl
  have X : KC p m meth c cJ3_checkIndex_8e157 3 s _ wz_J3_checkIndex_8e157 RJ3 (some .int) G := X
  have hl : lv_has ls 3 [(0, .int i), (1, .int n), (2, v)] := hl
  have hx := X.1.1
  have hb := X.1.2.1
  refine lv_iload_n hx hb dJ3_checkIndex_8e157_0 rfl (lv_at hl 0 rfl) ?_
  refine lv_if_lt (tgt := 9) hx hb dJ3_checkIndex_8e157_1 (by decide) (fun c1 => absurd c1 h0) (fun _ => ?_)
  refine lv_iload_n hx hb dJ3_checkIndex_8e157_4 rfl (lv_at hl 0 rfl) ?_
  refine lv_iload_n hx hb dJ3_checkIndex_8e157_5 rfl (lv_at hl 1 rfl) ?_
  refine lv_icmp_lt (tgt := 16) hx hb dJ3_checkIndex_8e157_6 (by decide) (fun _ => ?_) (fun c1 => absurd h1 c1)
  refine lv_iload_n hx hb dJ3_checkIndex_8e157_16 rfl (lv_at hl 0 rfl) ?_
  exact k_iret X hk hq dJ3_checkIndex_8e157_17
theorem hds_checkIndex3 : yJ3_checkIndex_8e157.cls ≠ "java/lang/invoke/MethodHandle" ∧ yJ3_checkIndex_8e157.cls ≠ "java/lang/invoke/VarHandle" ∧ (parseMethodDescriptor yJ3_checkIndex_8e157.desc).map (fun d => d.parameters.length) = some 3 := by decide +kernel
theorem hds_checkIndex0 : yJ0_checkIndex_df160.cls ≠ "java/lang/invoke/MethodHandle" ∧ yJ0_checkIndex_df160.cls ≠ "java/lang/invoke/VarHandle" ∧ (parseMethodDescriptor yJ0_checkIndex_df160.desc).map (fun d => d.parameters.length) = some 2 := by decide +kernel
theorem hds_charAt1 : yJ1_charAt_3b067.cls ≠ "java/lang/invoke/MethodHandle" ∧ yJ1_charAt_3b067.cls ≠ "java/lang/invoke/VarHandle" ∧ (parseMethodDescriptor yJ1_charAt_3b067.desc).map (fun d => d.parameters.length) = some 2 := by decide +kernel
def rm_J0_checkIndex : Room := { frames := 1, cells := 0, slots := 0, locals := 22 }
set_option maxHeartbeats 4000000 in
theorem c_checkIndex0 (l : Launch) (G : Gw) (σ : Sg) (i n : Int32) (h0 : ¬ i < 0) (h1 : i < n) (Q : Sg → Prop) (hq : Q σ) : MetV l yJ0_checkIndex_df160 wz_J0_checkIndex_df160 rm_J0_checkIndex G σ [.int i, .int n] Q := by
  refine MetV.of cJ0_checkIndex_df160 2 none (by decide) rfl (Nat.le_of_ble_eq_true rfl) ?_
  intro p e s m below meth c X hk ls hl
  have X : KC p m meth c cJ0_checkIndex_df160 2 s _ wz_J0_checkIndex_df160 RJ0 none G := X
  have hl : lv_has ls 2 [(0, .int i), (1, .int n)] := hl
  have hx := X.1.1
  have hb := X.1.2.1
  refine lv_iload_n hx hb dJ0_checkIndex_df160_0 rfl (lv_at hl 0 rfl) ?_
  refine lv_iload_n hx hb dJ0_checkIndex_df160_1 rfl (lv_at hl 1 rfl) ?_
  have key : ∀ v : Value, (v = .null ∨ ∃ t, v = .ref t) → va_Z "jdk/internal/util/Preconditions" "SIOOBE_FORMATTER" "Ljava/util/function/BiFunction;" v (AA G s.heap.size) s s.heap → W p l e rm_J0_checkIndex s m #[Value.int i, Value.int n] below meth c s.heap [] 0 0 (ZV below #[Value.int i, Value.int n] s G Q) (F0 m 2 ls [.int n, .int i]) := by
    intro v hv hZ
    refine va_gets hx hb hZ hk.2.2.2 X.1.2.2.2.1 (X.1.2.2.2.2 _ (List.mem_cons_of_mem _ (aw_r10 _ (List.mem_of_getElem? (i := 4) rfl)))) (fun _ h => h) dJ0_checkIndex_df160_2 ?_
    refine k_callSi (rest := []) X hk (c_checkIndex3 l G _ i n v hv h0 h1 (fun r τ => τ = σ) rfl) (va_cwS 3 X.1.2.2.2.2 (gzS (aw_r10 _ (List.mem_of_getElem? (i := 5) rfl)) (aw_r10 _ (List.mem_of_getElem? (i := 6) rfl)) (aw_r10 _ (List.mem_of_getElem? (i := 7) rfl)) (aw_r10 _ (List.mem_of_getElem? (i := 8) rfl))) rfl rfl rfl hds_checkIndex3 ⟨Nat.le_of_ble_eq_true rfl, Nat.le_of_ble_eq_true rfl⟩) rfl hl.1 rfl (Nat.le_of_ble_eq_true rfl) dJ0_checkIndex_df160_5 ⟨Nat.zero_le _, Nat.zero_le _⟩ (fun r τ H locs h9 hk => ?_)
    rw [h9] at hk
    refine lv_pop hx hb dJ0_checkIndex_df160_8 rfl ?_
    exact k_vret X hk hq dJ0_checkIndex_df160_9
  rcases X.2.2.2.2.2.2.2.1 with h | ⟨t, h⟩
  · exact key .null (Or.inl rfl) h
  · exact key (.ref t) (Or.inr ⟨t, rfl⟩) h
def rm_J1_charAt : Room := { frames := 2, cells := 0, slots := 0, locals := 43 }
set_option maxHeartbeats 4000000 in
/-- StringLatin1.charAt over a constant's bytes -/
theorem c_charAt1 (l : Launch) (G : Gw) (σ : Sg) (w : Nat) (hw : w < 7) (i : Int32) (hi : vp_in i (lenS.getD w 0)) (Q : Int32 → Sg → Prop) (hq : Q ((bytS.getD w []).getD i.toNatClampNeg 0) σ) : MetI l yJ1_charAt_3b067 wz_J1_charAt_3b067 rm_J1_charAt G σ [.ref (G.2.2.2.2 w), .int i] Q := by
  obtain ⟨k, hk0, rfl⟩ := vp_in_of hi (lenS_ok w hw).2
  have hb7 := (lenS_ok w hw).2
  rw [nI_clamp (by omega)] at hq
  refine MetI.of cJ1_charAt_3b067 2 (some .char) (by decide) rfl (Nat.le_of_ble_eq_true rfl) ?_
  intro p e s m below meth c X hk ls hl
  have X : KC p m meth c cJ1_charAt_3b067 2 s _ wz_J1_charAt_3b067 RJ1 (some .char) G := X
  have hl : lv_has ls 2 [(0, .ref (G.2.2.2.2 w)), (1, .int (nI k))] := hl
  have hx := X.1.1
  have hb := X.1.2.1
  refine lv_iload_n hx hb dJ1_charAt_3b067_0 rfl (lv_at hl 1 rfl) ?_
  refine lv_aload_n hx hb dJ1_charAt_3b067_1 rfl (lv_at hl 0 rfl) ?_
  refine va_tlen hx hb (X.2.2.2.1.1 w hw).2.2.2 hk.2.2.2 (v := nI (lenS.getD w 0)) rfl dJ1_charAt_3b067_2 ?_
  refine k_callSv (rest := []) X hk (c_checkIndex0 l G _ (nI k) (nI (lenS.getD w 0)) (nI_pos (by omega)) (nI_lt hk0 (by omega)) (fun τ => τ = σ) rfl) (va_cwS 2 X.1.2.2.2.2 (gzS (aw_r10 _ (List.mem_of_getElem? (i := 1) rfl)) (aw_r10 _ (List.mem_of_getElem? (i := 2) rfl)) (aw_r9 _ (List.mem_of_getElem? (i := 4) rfl)) (aw_r10 _ (List.mem_of_getElem? (i := 3) rfl))) rfl rfl rfl hds_checkIndex0 ⟨Nat.le_of_ble_eq_true rfl, Nat.le_of_ble_eq_true rfl⟩) rfl hl.1 rfl (Nat.le_of_ble_eq_true rfl) dJ1_charAt_3b067_3 ⟨Nat.zero_le _, Nat.zero_le _⟩ (fun τ H locs h9 hk => ?_)
  rw [h9] at hk
  refine lv_aload_n hx hb dJ1_charAt_3b067_6 rfl (lv_at hl 0 rfl) ?_
  refine lv_iload_n hx hb dJ1_charAt_3b067_7 rfl (lv_at hl 1 rfl) ?_
  refine va_tb hx hb (X.2.2.2.1.1 w hw).2.2.2 hk.2.2.2 hi (v := .int ((bytS.getD w []).getD k 0)) (by rw [nI_clamp (by omega)]) dJ1_charAt_3b067_8 ?_
  refine lv_sipush (v := 255) hx hb dJ1_charAt_3b067_9 (by decide) ?_
  refine lv_iand hx hb dJ1_charAt_3b067_12 ?_
  refine lv_i2c hx hb dJ1_charAt_3b067_13 (bytS_ok w hw k hk0).1 ?_
  exact k_nret X hk (bytS_ok w hw k hk0).2 hq dJ1_charAt_3b067_14
def rm_J0_charAt : Room := { frames := 3, cells := 0, slots := 0, locals := 64 }
set_option maxHeartbeats 4000000 in
/-- String.charAt of a constant -/
theorem c_charAt (l : Launch) (G : Gw) (σ : Sg) (w : Nat) (hw : w < 7) (i : Int32) (hi : vp_in i (lenS.getD w 0)) (Q : Int32 → Sg → Prop) (hq : Q ((bytS.getD w []).getD i.toNatClampNeg 0) σ) : MetI l yJ0_charAt_5068e wz_J0_charAt_5068e rm_J0_charAt G σ [.ref (G.2.2.2.1 w), .int i] Q := by
  refine MetI.of cJ0_charAt_5068e 2 (some .char) (by decide) rfl (Nat.le_of_ble_eq_true rfl) ?_
  intro p e s m below meth c X hk ls hl
  have X : KC p m meth c cJ0_charAt_5068e 2 s _ wz_J0_charAt_5068e RJ0 (some .char) G := X
  have hl : lv_has ls 2 [(0, .ref (G.2.2.2.1 w)), (1, .int i)] := hl
  have hx := X.1.1
  have hb := X.1.2.1
  refine lv_aload_n hx hb dJ0_charAt_5068e_0 rfl (lv_at hl 0 rfl) ?_
  refine k_callTi (rest := []) X hk (c_isLatin1 l G _ w hw (fun r τ => r = 1 ∧ τ = σ) ⟨rfl, rfl⟩) (cwV 0 X.1.2.2.2.2 (gzV (aw_r9 _ (List.mem_of_getElem? (i := 17) rfl)) (aw_r9 _ (List.mem_of_getElem? (i := 18) rfl)) (aw_r9 _ (List.mem_of_getElem? (i := 19) rfl)) (aw_r9 _ (List.mem_of_getElem? (i := 4) rfl)) (aw_r9 _ (List.mem_of_getElem? (i := 20) rfl))) rfl rfl rfl hd_isLatin1 ⟨Nat.le_of_ble_eq_true rfl, Nat.le_of_ble_eq_true rfl⟩) (vk_recv X.2.2.2.1 hw hk.2.2.2) rfl hl.1 rfl (Nat.le_of_ble_eq_true rfl) dJ0_charAt_5068e_1 ⟨Nat.zero_le _, Nat.zero_le _⟩ (fun r τ H locs h9 hk => ?_)
  obtain ⟨h8, h9⟩ := h9
  rw [h9] at hk
  rw [h8]
  refine lv_if_eq (tgt := 16) hx hb dJ0_charAt_5068e_4 (by decide) (fun c1 => absurd c1 (by decide)) (fun _ => ?_)
  refine lv_aload_n hx hb dJ0_charAt_5068e_7 rfl (lv_at hl 0 rfl) ?_
  refine vk_getf hx hb (X.2.2.2.1.1 w hw).2.2.1 hk.2.2.2 X.1.2.2.2.1 (X.1.2.2.2.2 _ (List.mem_cons_of_mem _ (aw_r9 _ (List.mem_of_getElem? (i := 6) rfl)))) (fun _ h => h) dJ0_charAt_5068e_8 ?_
  refine lv_iload_n hx hb dJ0_charAt_5068e_11 rfl (lv_at hl 1 rfl) ?_
  refine k_callSi (rest := []) X hk (c_charAt1 l G _ w hw i hi (fun r υ => r = (bytS.getD w []).getD i.toNatClampNeg 0 ∧ υ = σ) ⟨rfl, rfl⟩) (va_cwS 2 X.1.2.2.2.2 (gzS (aw_r9 _ (List.mem_of_getElem? (i := 21) rfl)) (aw_r9 _ (List.mem_of_getElem? (i := 22) rfl)) (aw_r9 _ (List.mem_of_getElem? (i := 23) rfl)) (aw_r10 _ (List.mem_of_getElem? (i := 0) rfl))) rfl rfl rfl hds_charAt1 ⟨Nat.le_of_ble_eq_true rfl, Nat.le_of_ble_eq_true rfl⟩) rfl hl.1 rfl (Nat.le_of_ble_eq_true rfl) dJ0_charAt_5068e_12 ⟨Nat.zero_le _, Nat.zero_le _⟩ (fun r υ H locs h9 hk => ?_)
  obtain ⟨h8, h9⟩ := h9
  rw [h9] at hk
  rw [h8]
  obtain ⟨k, hk0, rfl⟩ := vp_in_of hi (lenS_ok w hw).2
  have hb7 := (lenS_ok w hw).2
  rw [nI_clamp (by omega)] at hq ⊢
  exact k_nret X hk (bytS_ok w hw k hk0).2 hq dJ0_charAt_5068e_15
theorem hd_length : yJ0_length_8abf5.cls = RJ0 ∧ yJ0_length_8abf5.cls ≠ "java/lang/invoke/MethodHandle" ∧ yJ0_length_8abf5.cls ≠ "java/lang/invoke/VarHandle" ∧ (parseMethodDescriptor yJ0_length_8abf5.desc).map (fun d => d.parameters.length) = some 0 := by decide +kernel
theorem hd_charAt : yJ0_charAt_5068e.cls = RJ0 ∧ yJ0_charAt_5068e.cls ≠ "java/lang/invoke/MethodHandle" ∧ yJ0_charAt_5068e.cls ≠ "java/lang/invoke/VarHandle" ∧ (parseMethodDescriptor yJ0_charAt_5068e.desc).map (fun d => d.parameters.length) = some 1 := by decide +kernel
