section ZU
variable {p : Program} {l : Launch} {e : Env} {R : Room} {s : State} {m : MethodId} {args : Array Value} {below : List Frame} {meth : Method} {c : Code} {H : Heap} {locs : List Loc} {cells slots : Nat} {ls : Array Slot} {rest : List Value}
variable {Qc : Array Value → State → Outcome → State → Prop} {XC : String → State → State → Prop} {free : Addr → Prop}
set_option maxHeartbeats 2000000 in
/-- 'throw new NoSuchElementException("text")' -/
theorem z_throw {cc : ByteArray} {pc : Nat} (hexec : p.tables.exec = Jvm.exec) (hb : c.code = cc) (hl : l.stackTraces = false) {text : String} {mc ms sa : Nat} {A : Nat → Prop}
    (hown : s.vm.findClass RX5 = some m.cls)
    (hk : (Cond.classLink RX5 132 zN).before args s = true) (hini : (Cond.initialized zN).before args s = true) (hstr : vk_R RX5 134 text sa s) (hat : ∀ w ∈ z_at, w.before args s = true)
    (hU : vx_Zq Bundle.tN "UNASSIGNED_STACK" Bundle.steD A s s.heap) (hN : vx_Zq Bundle.tN "SUPPRESSED_SENTINEL" Bundle.listD A s s.heap) (hS : va_S A s.heap H locs) (hsize : ls.size = c.maxLocals)
    (d0 : decode cc pc = .ok (.new 132, 3)) (d3 : decode cc (pc + 3) = .ok (.dup, 1)) (d4 : decode cc (pc + 4) = .ok (.ldc 134, 2)) (d6 : decode cc (pc + 6) = .ok (.invokespecial 136, 3)) (d9 : decode cc (pc + 9) = .ok (.athrow, 1))
    (hout : ∀ x ∈ c.exceptionTable.toList, covers x (pc + 9) = false)
    (hRframes : 2 + 3 < R.frames) (hRlocals : (rest.map fun v => v.category).sum + (13 * (2 + 1) + 43) ≤ R.locals) (hRcells : cells + 1 ≤ R.cells) (hRslots : slots + 6 ≤ R.slots) (hlocks : meth.locks = false)
    (hx : ∀ t : State, s.vm.Alike t.vm → H.size ≤ t.heap.size → (∀ q : Nat, q < H.size → t.heap[q]? = H[q]?) → XC zN s t)
    (hf : ∀ z ∈ locs, free z.base) (hc : cells + 1 ≤ mc) (hs : slots + 6 ≤ ms) :
    W p l e R s m args below meth c H locs cells slots (vx_MQ below Qc XC args s mc ms free) (F0 m pc ls rest) := by
  have hgood := z_ot
  intro T hT X
  have htr : e.platform.stackTraces = false := (show e.platform.stackTraces = l.stackTraces by rw [X.admits.platform]).trans hl
  have Y := vx_rebase X (R' := { frames := R.frames, locals := R.locals, cells := 1, slots := 6 }) (Nat.le_refl _) (Nat.le_refl _) hRcells hRslots
  obtain ⟨s', hA⟩ : ∃ z, z = (T.setVm s.vm).setFrames (.invoking m args :: below) := ⟨_, rfl⟩
  rw [← hA] at Y
  have hvm : s'.vm = s.vm := by rw [hA]; rfl
  have hhp : s'.heap = H := by rw [hA]; exact hT
  have hW0 : s.WarmedH s'.vm := by rw [hvm]; exact State.WarmedH.refl s
  have hat' : ∀ w ∈ z_at, w.before args s' = true := fun w hw => vx_ot_at hW0 hvm.symm (hgood w (List.mem_cons_of_mem _ (List.mem_cons_of_mem _ hw))) (hat w hw)
  have hk' : (Cond.classLink RX5 132 zN).before args s' = true := vx_ot_at hW0 hvm.symm (hgood _ List.mem_cons_self) hk
  have hini' : (Cond.initialized zN).before args s' = true := vx_ot_at hW0 hvm.symm (hgood _ (List.mem_cons_of_mem _ List.mem_cons_self)) hini
  have hU' : vx_Zq Bundle.tN "UNASSIGNED_STACK" Bundle.steD A s' s'.heap := by rw [hhp]; exact vx_Zq.moved hW0.alike (hU.kept hS.2.1)
  have hN' : vx_Zq Bundle.tN "SUPPRESSED_SENTINEL" Bundle.listD A s' s'.heap := by rw [hhp]; exact vx_Zq.moved hW0.alike (hN.kept hS.2.1)
  have h : ∀ w ∈ z_atoms RX5 136, w.before args s' = true := vx_own hat' (vx_isRefq hU'.1) (vx_isRefq hN'.1) hU'.2.word hN'.2.word
  have hown' : s'.vm.findClass RX5 = some m.cls := by rw [hvm]; exact hown
  have hins : (Cond.instantiable zN 6).before args s' = true := h _ (by simp [z_atoms])
  obtain ⟨vm₁, cX, kX, hfX, hkX, -, -, X₁, st1⟩ := Y.newCold hexec (own := RX5) (C := zN) (index := 132) (n := 6) hown' hk' hins hini'
    (g := F0 m pc ls rest) rfl (by rw [hb]; exact d0) (Nat.le_refl _) (Nat.le_refl _)
  generalize hT1 : (T.setVm vm₁).pushCell { cls := cX, slots := kX.instanceTypes.map defaultValue, vm := .none } = T1 at X₁ st1
  have hcat : (Value.ref T.heap.size).category = 1 := rfl
  have hcellA : T1.heap[T.heap.size]? = some (freshCell cX kX) := by rw [← hT1]; exact State.heap_pushCell_size _ _
  have d3' : decode c.code (pc + 3) = .ok (.dup, 1) := by rw [hb]; exact d3
  have d4' : decode c.code (pc + 4) = .ok (.ldc 134, 2) := by rw [hb]; exact d4
  have hstr' : vk_R RX5 134 text sa s' := vk_R.warm hW0 hstr
  obtain ⟨U, hsteps, hrun, hend, hW, hsame, ce, hce, hO1, hO2⟩ := z_ctorThrow X₁ hexec htr (own := RX5) (ic := 136) hown' h (fun x hx => nomatch hx) hfX hkX hcellA (by rw [hhp, hT]; exact Nat.le_refl _) (msg := .ref sa) rfl
    (g := { method := m, pc := pc + 6, locals := ls, stack := .ref sa :: .ref T.heap.size :: .ref T.heap.size :: rest, locked := none }) rfl hsize rfl rfl (rest := rest) rfl
    (by rw [hb]; exact d6) (by rw [hb]; exact d9) hout hRframes (by simp only [List.map_cons, List.sum_cons, hcat]; omega) hlocks
  obtain ⟨f1, f2⟩ := vx_frame hsame
  rw [hhp] at f1 f2
  have hWs : s.WarmedH U.vm := State.WarmedH.trans hW0 hW
  have hcl : s.vm.findClass zN = some ce.cls := by
    have h9 := hO1
    rw [hvm] at h9
    exact h9
  have hall : s.sameButNew ({ U with vm := s.vm } : State) locs mc ms := by
    subst hA
    obtain ⟨e1, e2⟩ := hsame
    rw [State.setFrames_setFrames] at e1
    have h2 : (T.setVm s.vm).sameButNew ({ U with vm := s.vm } : State) [] (0 + 1) (0 + 6) := ⟨e1, e2⟩
    have h3 := X.same.trans h2
    rw [List.append_nil] at h3
    exact h3.mono hc hs
  refine ⟨U, ?_, .threw T.heap.size, hrun, hend, Or.inr ⟨T.heap.size, rfl, zN, ce, locs, hx U hWs.alike f1 (fun q hq => f2 q hq (fun z hz => nomatch hz)), hce, hO2, hcl, hWs, hall, hf⟩⟩
  refine st1 _ ?_
  show Steps p.tables e below (T1.setTop { method := m, pc := pc + 3, locals := ls, stack := .ref T.heap.size :: rest, locked := none }) _
  jvm_step X₁.here [X₁.here.top, hexec, d3', Value.category]
  exact X₁.ldcString hexec (own := RX5) (text := text) (index := 134) (a := sa) hown' hstr'.1 hstr'.2
    (g := { method := m, pc := pc + 4, locals := ls, stack := .ref T.heap.size :: .ref T.heap.size :: rest, locked := none }) rfl d4' _ hsteps
end ZU
/-- a method that answers an int or throws NoSuchElementException, in the one world -/
def BX (G : Gw) (A : Nat → Prop) (E : String) (u : Sg) (t : State) : Prop := E = zN ∧ BE G A u t
def MetX (l : Launch) (y : MethodName) (ws : List Cond) (rm : Room) (G : Gw) (σ : Sg) (av : List Value) (Q : Int32 → Sg → Prop) (QX : Sg → Prop) : Prop :=
  ∀ sz, vx_Met l y ws rm (va_Pc av (PI G σ sz)) (va_Qi Q (BE G (AA G sz)) (AA G sz)) (vx_X QX (BX G (AA G sz)) (AA G sz)) 1 6 (AA G sz)
abbrev ZX (below : List Frame) (args : Array Value) (s : State) (G : Gw) (Q : Int32 → Sg → Prop) (QX : Sg → Prop) : State → Prop :=
  vx_MQ below (va_Qi Q (BE G (AA G s.heap.size)) (AA G s.heap.size)) (vx_X QX (BX G (AA G s.heap.size)) (AA G s.heap.size)) args s 1 6 (AA G s.heap.size)
theorem MetX.of {l : Launch} {y : MethodName} {ws ws' : List Cond} {rm : Room} {G : Gw} {σ : Sg} {av : List Value} {Q : Int32 → Sg → Prop} {QX : Sg → Prop} (cc : ByteArray) (maxL : Nat) (ret : Option FieldType)
    (hy : plainName y.cls = true) (hw : ws = Cond.code y cc maxL ret :: ws') (hn : (lg_sl av).length ≤ maxL)
    (body : ∀ (p : Program) (e : Env) (s : State) (m : MethodId) (below : List Frame) (meth : Method) (c : Code), KC p m meth c cc maxL s av.toArray ws y.cls ret G → (∀ x ∈ c.exceptionTable.toList, False) → WK G s s.heap [] σ → ∀ ls : Array Slot, lv_has ls maxL (lv_args 0 av) →
      W p l e rm s m av.toArray below meth c s.heap [] 0 0 (ZX below av.toArray s G Q QX) (F0 m 0 ls [])) : MetX l y ws rm G σ av Q QX := by
  intro sz
  refine vx_ofW (cc := cc) (maxL := maxL) (ret := ret) hy hw ?_
  intro p e s m args below meth c s₁ B hml hout hv
  obtain ⟨rfl, hP⟩ := hv
  have hsz := hP.1
  subst hsz
  rw [lg_entry_eq]
  exact body p e s m below meth c ⟨⟨B.exec, B.bytes, hml, findClass_of_methodNamed B.named, atoms_spec (ws := ws) B.pre⟩, B.returns, B.notSynchronized, hP.2.2.2.2⟩ hout hP.wk _ (lv_entry av hn)
section ZV1
variable {p : Program} {l : Launch} {e : Env} {R : Room} {s : State} {m : MethodId} {args : Array Value} {below : List Frame} {meth : Method} {c : Code} {H : Heap} {locs : List Loc}
variable {cc : ByteArray} {pc nL : Nat} {ls : Array Slot} {rest : List Value} {G : Gw} {σ : Sg} {c0 : Cond} {Q : Int32 → Sg → Prop} {QX : Sg → Prop}
theorem k_xret {v : Int32} {Ts : List Cond} {own : String} (X : KC p m meth c cc nL s args Ts own (some .int) G) (hw : WK G s H locs σ) (hq : Q v σ) (hdg : decode cc pc = .ok (.ireturn, 1)) : W p l e R s m args below meth c H locs 0 0 (ZX below args s G Q QX) (F0 m pc ls [.int v]) := by
  obtain ⟨⟨hx, hb, -⟩, hr, hlocks, -⟩ := X
  refine W.widen (k := 1) (n := 6) (Nat.zero_le _) (Nat.zero_le _) (vx_ret ?_)
  exact W.iret hx hb hr (fun t ht hW => ⟨⟨v, σ, rfl, hq, by rw [ht]; exact hw.2.1, va_K.moved hW.alike hw.1, hw.2.2.1⟩, hw.2.2.2.F ht⟩) hw.2.2.2.2.2 hdg
theorem z_hat {s : State} {args : Array Value} (hts : ∀ w ∈ c0 :: wsA, w.before args s = true) (hw : ENw s) : ∀ w ∈ z_at, w.before args s = true := by
  refine vx_hat (B := z_bad) (fun w h => hts w (List.mem_cons_of_mem _ (List.mem_append_right _ h))) z_bad_in ?_
  exact vx_c (va_Nw.use rfl hw.1) (vx_c (va_Nw.use rfl hw.2.1) (vx_c (va_Nw.use rfl hw.2.2.1) (vx_c (va_Nw.use rfl hw.2.2.2) vx_n)))
theorem k_xthrow (X : KC p m meth c cc nL s args (c0 :: wsA) RX5 (some .int) G) (hst : l.stackTraces = false) (hout : ∀ x ∈ c.exceptionTable.toList, False) (hw : WK G s H locs σ) (hl : ls.size = nL) (hq : QX σ) (h1 : Cond.classLink RX5 132 zN ∈ c0 :: wsA) (h2 : Cond.initialized zN ∈ c0 :: wsA)
    (d0 : decode cc pc = .ok (.new 132, 3)) (d3 : decode cc (pc + 3) = .ok (.dup, 1)) (d4 : decode cc (pc + 4) = .ok (.ldc 134, 2)) (d6 : decode cc (pc + 6) = .ok (.invokespecial 136, 3)) (d9 : decode cc (pc + 9) = .ok (.athrow, 1))
    (hRframes : 2 + 3 < R.frames) (hRlocals : (rest.map fun v => v.category).sum + (13 * (2 + 1) + 43) ≤ R.locals) (hRcells : 0 + 1 ≤ R.cells) (hRslots : 0 + 6 ≤ R.slots) : W p l e R s m args below meth c H locs 0 0 (ZX below args s G Q QX) (F0 m pc ls rest) := by
  obtain ⟨⟨hx, hb, hml, hown, hts⟩, hr, hlocks, hen⟩ := X
  refine z_throw hx hb hst hown (hts _ h1) (hts _ h2) (EN.r6 hen) (z_hat hts hen.2.2.2.2.2.1) hen.2.2.1 hen.2.2.2.1 hw.2.2.2 (hl.trans hml.symm) d0 d3 d4 d6 d9 (fun x h => (hout x h).elim) hRframes hRlocals hRcells hRslots hlocks ?_ hw.2.2.2.2.2 (Nat.le_refl _) (Nat.le_refl _)
  intro t hvm hz hk
  have hP : va_P G.2.2.1 vwCl (wd G σ) t.heap := hw.2.1.kept (fun k q h => hk q.1 ((hw.2.1 k q h).lt))
  exact ⟨σ, hq, ⟨rfl, hP, va_K.moved hvm hw.1, hw.2.2.1⟩, Nat.le_trans hw.2.2.2.1 hz, fun q h1 h2 => by rw [hk q (Nat.lt_of_lt_of_le h1 hw.2.2.2.1)]; exact hw.2.2.2.2.1 q h1 h2⟩
end ZV1
