/-! contracts of what throws, and the calls of them -/
abbrev eh_rm1 (fr lo : Nat) : Room := { frames := fr, cells := 1, slots := 6, locals := lo }
/-- a method that throws an object of the class X where the cells ws stand -/
def eh_T (l : Launch) (y : MethodName) (cw : Cond) (fr lo : Nat) (D : va_G) (cl : List vw_C) (tys : List (ClassId × FieldType)) (av : List Value) (ws : va_W) (X : String) : Prop :=
  MetFree l y (headSpec (cw :: ew_t) (eh_rm1 fr lo)) (va_Pc av (fun U => va_P D cl ws U.heap ∧ va_K D cl tys U ∧ ew_n U ∧ eh_st U)) (fun _ _ _ _ _ => True)
    (fun _ st o t => ∃ (x : Addr) (ce : Cell), o = .threw x ∧ st.WarmedH t.vm ∧ st.sameButNew ({ t with vm := st.vm } : State) [] 1 6 ∧ t.heap[x]? = some ce ∧ st.vm.findClass X = some ce.cls ∧ ce.vm = .none)

theorem eh_T.ofW {l : Launch} {y : MethodName} {cc : ByteArray} {maxL : Nat} {ret : Option FieldType} {fr lo : Nat} {D : va_G} {cl : List vw_C} {tys : List (ClassId × FieldType)} {av : List Value} {ws : va_W} {X : String}
    (hl : l.stackTraces = false) (hy : plainName y.cls = true)
    (body : ∀ p e s m args below meth c s₁, BodyLoose p l y (headSpec (Cond.code y cc maxL ret :: ew_t) (eh_rm1 fr lo)) cc maxL ret e s m args below meth c s₁ → c.maxLocals = maxL → c.exceptionTable = #[] → e.platform.stackTraces = false →
      va_Pc av (fun U => va_P D cl ws U.heap ∧ va_K D cl tys U ∧ ew_n U ∧ eh_st U) args s →
      W p l e (headSpec (Cond.code y cc maxL ret :: ew_t) (eh_rm1 fr lo)).room s m args below meth c s.heap [] 0 0 (eh_TQ below X s) (entryFrame m args maxL)) :
    eh_T l y (.code y cc maxL ret) fr lo D cl tys av ws X := by
  have hfirst : ∀ {args : Array Value} {s : State}, (headSpec (Cond.code y cc maxL ret :: ew_t) (eh_rm1 fr lo)).pre.before args s = true → (Cond.code y cc maxL ret).before args s = true :=
    fun h => atoms_spec (ws := Cond.code y cc maxL ret :: ew_t) h _ List.mem_cons_self
  apply MetFree.of_bodyS (code := cc) (maxLocals := maxL) (ret := ret) hy
  case his =>
    intro args s m hpre hnamed
    have ⟨M, C, hM, hC, hcc, hl, hr, hlk, _⟩ := Cond.code_spec hnamed (hfirst hpre)
    exact ⟨M, C, hM, hC, hcc, hl, hr, hlk⟩
  case body =>
    intro p e s m args below meth c s₁ hB hmax hPc _
    have hX := Stand.of_body hB
    have ⟨M, C, hM, hC, _, _, _, _, hnone, _⟩ := Cond.code_spec hB.named (hfirst hB.pre)
    have hmeth : meth = M := Option.some.inj (hX.method.symm.trans hM)
    have hc : c = C := Option.some.inj (hX.code.symm.trans (hmeth ▸ hC))
    have hnone' : c.exceptionTable = #[] := by rw [hc]; exact Array.isEmpty_iff.mp hnone
    obtain ⟨t, hsteps, x, ce, hrun, hend, hrest⟩ := body p e s m args below meth c s₁ hB hmax hnone' (by rw [hX.admits.platform]; exact hl) hPc s₁ (by rw [hB.state]; rfl) hX
    exact ⟨t, .threw x, hsteps, hrun, hend, x, ce, rfl, hrest⟩

/-! the words of a throw -/
abbrev eh_IA : String := "java/lang/IllegalArgumentException"
abbrev eh_IS : String := "java/lang/IllegalStateException"
abbrev eh_IB : String := "java/lang/IndexOutOfBoundsException"
abbrev eh_up : List String := ["java/lang/RuntimeException", "java/lang/Exception"]
abbrev eh_nw : List Cond := [.declares ⟨"java/lang/RuntimeException", "<init>", "()V"⟩, .declares ⟨"java/lang/RuntimeException", "<init>", "(Ljava/lang/String;)V"⟩, .declares ⟨"java/lang/Exception", "<init>", "()V"⟩, .declares ⟨"java/lang/Exception", "<init>", "(Ljava/lang/String;)V"⟩,
  .declares ⟨"java/lang/Throwable", "<init>", "()V"⟩, .declares ⟨"java/lang/Throwable", "<init>", "(Ljava/lang/String;)V"⟩, .castable eh_IA eh_IA, .castable eh_IS eh_IS, .castable eh_IB eh_IB]
abbrev eh_rw : List Cond := [.isRef (.static "java/lang/Throwable" "UNASSIGNED_STACK" "[Ljava/lang/StackTraceElement;"), .isRef (.static "java/lang/Throwable" "SUPPRESSED_SENTINEL" "Ljava/util/List;"), .laysStatic "java/lang/Throwable" "UNASSIGNED_STACK" "[Ljava/lang/StackTraceElement;", .laysStatic "java/lang/Throwable" "SUPPRESSED_SENTINEL" "Ljava/util/List;"]
set_option maxRecDepth 100000 in
theorem eh_ow_IA : ∀ a ∈ Jvm.Bundle.ownAtoms0 "EarthHauls" 56 eh_IA eh_up, a ∈ ew_t ∨ a ∈ eh_nw ∨ a ∈ eh_rw := by decide +kernel
set_option maxRecDepth 100000 in
theorem eh_ow_IS : ∀ a ∈ Jvm.Bundle.ownAtoms0 "EarthHauls" 63 eh_IS eh_up, a ∈ ew_t ∨ a ∈ eh_nw ∨ a ∈ eh_rw := by decide +kernel
set_option maxRecDepth 100000 in
theorem eh_ow_IB : ∀ a ∈ Jvm.Bundle.ownAtoms0 "EarthHauls" 84 eh_IB eh_up, a ∈ ew_t ∨ a ∈ eh_nw ∨ a ∈ eh_rw := by decide +kernel
theorem eh_own {args : Array Value} {s : State} {ic : Nat} {X : String} (h : ∀ a ∈ Jvm.Bundle.ownAtoms0 "EarthHauls" ic X eh_up, a ∈ ew_t ∨ a ∈ eh_nw ∨ a ∈ eh_rw)
    (htb : ∀ w ∈ ew_t, w.before args s = true) (hN : ew_n s) (hst : eh_st s) : ∀ a ∈ Jvm.Bundle.ownAtoms0 "EarthHauls" ic X eh_up, a.before args s = true := by
  intro a ha
  rcases h a ha with h1 | h1 | h1
  · exact htb a h1
  · simp only [List.mem_cons, List.not_mem_nil, or_false] at h1
    rcases h1 with rfl | rfl | rfl | rfl | rfl | rfl | rfl | rfl | rfl
    · exact va_Nw.use rfl (ew_n_5 hN)
    · exact va_Nw.use rfl (ew_n_6 hN)
    · exact va_Nw.use rfl (ew_n_7 hN)
    · exact va_Nw.use rfl (ew_n_8 hN)
    · exact va_Nw.use rfl (ew_n_9 hN)
    · exact va_Nw.use rfl (ew_n_10 hN)
    · exact va_Nw.use rfl (ew_n_11 hN)
    · exact va_Nw.use rfl (ew_n_12 hN)
    · exact va_Nw.use rfl (ew_n_13 hN)
  · simp only [List.mem_cons, List.not_mem_nil, or_false] at h1
    rcases h1 with rfl | rfl | rfl | rfl
    · exact eh_st1 (Vm.Alike.refl s.vm) (fun _ _ h => h) hst.1
    · exact eh_st1 (Vm.Alike.refl s.vm) (fun _ _ h => h) hst.2.1
    · exact eh_st2 (Vm.Alike.refl s.vm) (fun _ _ h => h) hst.2.2.1
    · exact eh_st2 (Vm.Alike.refl s.vm) (fun _ _ h => h) hst.2.2.2

/-- an object of the class X is none of the class Y -/
def eh_apt (X Y : String) (U : State) : Prop := ∀ a b : ClassId, U.vm.findClass X = some a → U.vm.findClass Y = some b → U.vm.assignable a b = false
theorem eh_apt_moved {X Y : String} {u U : State} (hal : u.vm.Alike U.vm) (h : eh_apt X Y u) : eh_apt X Y U := by
  intro a b ha hb
  rw [hal.findClass] at ha hb
  rw [hal.assignable]
  exact h a b ha hb
theorem eh_apt_of {X Y : String} {A0 : Array Value} {U : State} (h : (Cond.not (.castable X Y)).before A0 U = true) : eh_apt X Y U := by
  intro a b ha hb
  have hv := Cond.holds_not_iff.mp h
  simp only [Cond.value, ha, hb] at hv
  exact Option.some.inj hv

section
variable {p : Program} {l : Launch} {e : Env} {R : Room} {s : State} {m : MethodId} {args : Array Value} {below : List Frame} {meth : Method} {c : Code} {H : Heap} {locs : List Loc} {cells slots : Nat} {Q : State → Prop}
variable {cc : ByteArray} {pc : Nat} {ls : Array Slot} {rest st : List Value} {D : va_G} {cl : List vw_C} {b : Nat} {tys tys' : List (ClassId × FieldType)} {ws wc : va_W}
variable {own C : String} {index maxL nL fr lo qb ci : Nat} {y : MethodName} {bytes : ByteArray} {ret : Option FieldType} {As : List Value} {q : vw_C} {fs : List Value} {X : String}

theorem eh_old {u U : State} {k n : Nat} (h : u.sameButNew U [] k n) : u.heap.size ≤ U.heap.size ∧ ∀ q : Nat, q < u.heap.size → U.heap[q]? = u.heap[q]? := by
  obtain ⟨-, h2, -, -, -, h6⟩ := h
  refine ⟨h2, fun q hq => ?_⟩
  have hc : u.heap[q]? = some u.heap[q] := by simp [hq]
  obtain ⟨c', h7, h8, h9, h10⟩ := h6 q _ hc
  rw [h7, hc, h8]
  have : c'.slots = u.heap[q].slots := by
    apply Array.ext_getElem?
    intro i
    exact h10 i (fun z => by cases z)
  rw [this]

/-- a call of what throws, by invokevirtual: the exception lies over the caller's frame -/
theorem eh_cT0 (hexec : p.tables.exec = Jvm.exec) (hb : c.code = cc) (hml : c.maxLocals = nL) (hown : s.vm.findClass own = some m.cls) (htb : ∀ w ∈ ew_t, w.before args s = true) (hN : ew_n s) (hst0 : eh_st s) (hold : ∀ (q : Nat) (cell : Cell), s.heap[q]? = some cell → H[q]? = some cell)
    (hM : eh_T l y (.code y bytes maxL ret) fr lo D cl tys' (.ref b :: As) wc X) (n : Nat) (hw : eh_wV own index q.1 y (.code y bytes maxL ret)) (hd : eh_dV y q.1 n)
    (hR : fr + 1 ≤ R.frames ∧ 8 + (maxL + 11) + lo ≤ R.locals) (hK : va_K D cl tys s) (hP : va_P D cl ws H) (qb : Nat) (hbC : ws[qb]? = some (b, .inr (ci, fs))) (hc : cl[ci]? = some q)
    (isC : List Nat) (hC : isC.filterMap (fun i => ws[i]?) = wc) (isT : List Nat) (hT : isT.filterMap (fun i => tys[i]?) = tys')
    (hst : st = As.reverse ++ .ref b :: rest) (hn : As.length = n) (hsz : ls.size = nL) (hWd : (rest.map fun v => v.category).sum ≤ 8)
    (hdg : decode cc pc = .ok (.invokevirtual index, 3)) (hf : cells + 1 ≤ R.cells ∧ slots + 6 ≤ R.slots) {T : State} (hTH : T.heap = H) (X0 : Stand p l e R s m args below meth c T locs cells slots) :
    ∃ (a : Addr) (ce : Cell) (T' : State), Stand p l e R s m args below meth c T' locs (cells + 1) (slots + 6) ∧ H.size ≤ T'.heap.size ∧ (∀ q : Nat, q < H.size → T'.heap[q]? = H[q]?) ∧ T'.heap[a]? = some ce ∧ s.vm.findClass X = some ce.cls ∧ ce.vm = .none ∧
      ∀ tg, Steps p.tables e below ((T'.setTop (F0 m pc ls rest)).pushFrame (.throwing a)) tg → Steps p.tables e below (T.setTop (F0 m pc ls st)) tg := by
  have hPc := hP.sub isC hC
  have hKc := hK.sub isT hT
  obtain ⟨cellB, hcB, hoB, hclB⟩ := va_recv hK hP hc hbC
  obtain ⟨hyC, hy1, hy2, hyp⟩ := hd
  have hlink := htb _ hw.1
  have hinst := htb _ hw.2.1
  have hsel := htb _ hw.2.2.1
  have hini := htb _ hw.2.2.2.1
  have hcode := htb _ hw.2.2.2.2
  obtain ⟨mk, methM, hnamed, hmethM, hstM, habM⟩ := Cond.instanceMethod_spec hinst
  obtain ⟨methM', cM, hmethM', hcM, -, hlM, -, -, -, hsigM⟩ := Cond.code_spec hnamed hcode
  cases hmethM.symm.trans hmethM'
  obtain ⟨c2, r2, m2, q1, q2, q3, q4, kP, hkP, hkPi⟩ := Cond.selects_spec hsel
  cases hclB.symm.trans q1
  cases (State.methodFound?_of_named hnamed ⟨hy1, hy2⟩).symm.trans q2
  cases hnamed.symm.trans q3
  have hselP : selectMethod e.platform s.vm cellB.cls mk = .method mk := by rw [Launch.admits_selectMethod X0.admits]; exact q4
  have hlen : As.length = methM.sig.parameters.length := by
    rw [hsigM] at hyp
    exact hn.trans (Option.some.inj hyp).symm
  obtain ⟨vm₁, X₁, hstep₁⟩ := X0.invokevirtual hexec hown hlink hnamed hmethM hstM hkP hkPi ⟨hy1, hy2⟩ (a := b) (cell := cellB) (by rw [hTH]; exact hcB)
    (fun z h => by rw [h] at hoB; cases hoB) hselP hmethM habM hkP hkPi (g := F0 m pc ls st) rfl (argsL := As) (rest := rest) hlen hst (by rw [hb]; exact hdg)
  have hW1 : s.WarmedH (T.setVm vm₁).vm := X₁.warmed
  obtain ⟨kY, hkY, -⟩ := className_of_methodNamed hnamed
  have hiY : kY.init = .initialized := Cond.initialized_spec (findClass_of_methodNamed hnamed) hkY (by rw [hyC]; exact hini)
  obtain ⟨kY', hkY', heY⟩ := hW1.alike.2.2 _ _ hkY
  have hP1 : va_Pc (.ref b :: As) (fun U => va_P D cl wc U.heap ∧ va_K D cl tys' U ∧ ew_n U ∧ eh_st U) (Value.ref b :: As).toArray ((T.setVm vm₁).calling (F0 m pc ls rest) mk (Value.ref b :: As).toArray) := by
    refine ⟨rfl, ?_, va_K.moved (u := s) (U := (T.setVm vm₁).calling (F0 m pc ls rest) mk (Value.ref b :: As).toArray) hW1.alike hKc, ew_n_same (u := T.setVm vm₁) rfl (ew_n_warm hW1 hN), eh_st_moved (u := s) (U := (T.setVm vm₁).calling (F0 m pc ls rest) mk (Value.ref b :: As).toArray) hW1.alike ?_ hst0⟩
    · show va_P D cl wc T.heap
      rw [hTH]
      exact hPc
    · intro q0 cell hq
      show T.heap[q0]? = some cell
      rw [hTH]
      exact hold q0 cell hq
  obtain ⟨o, t, hsteps, ⟨x, ce, ho, hWt, hsm, hce, hcl, hvm⟩, hnext⟩ := eh_inv X₁ (y := y) (a := (Value.ref b :: As).toArray) (g := F0 m pc ls rest) hM rfl (hsz.trans hml.symm) (by rw [hb]; exact hdg)
    (X₁.named hnamed) (by rw [hW1.alike.method?]; exact hmethM) hcM hlM hkY' (by rw [heY]; exact hiY) hR.1
    (by have := lv_room (m := m) (pc := pc) (ls := ls) (rest := rest) (st := rest) hWd
        show 2 * (F0 m pc ls rest).monitorRoom + (rest.map fun v => v.category).sum + (maxL + 11) + lo ≤ R.locals
        omega) hf.1 hf.2 (atoms_intro (fun w hw1 => by
          rcases List.mem_cons.mp hw1 with rfl | h1
          · exact word_at hW1 (Or.inl rfl) hcode
          · exact word_at hW1 (ew_good (X := ew_t) (fun _ h => h) w h1).2 (htb w h1))) hP1
  obtain ⟨T', X', e1, e2, -, hthr⟩ := hnext [] 1 6 hWt hsm
  rw [List.append_nil] at X'
  obtain ⟨hz1, hz2⟩ := eh_old hsm
  refine ⟨x, ce, T', X', ?_, ?_, by rw [e1]; exact hce, ?_, hvm, fun tg htg => hstep₁ _ fun acts => ?_⟩
  · rw [e1, ← hTH]; exact hz1
  · intro q0 hq
    rw [e1, ← hTH]
    exact hz2 q0 (by rw [← hTH] at hq; exact hq)
  · rw [← hW1.alike.findClass]; exact hcl
  · rw [doInvoke_state]
    refine hsteps.trans ?_
    rw [hthr x ho]
    exact htg

/-- the rows of a table of handlers that look at one class each: passed by the thrown class, then caught -/
theorem eh_hrow {T : State} {a : Addr} {ce : Cell} {x : ExceptionTableEntry} {tl : List ExceptionTableEntry} {g : JFrame} {S : State} {nm : String} (hadm : l.admits e) (hown : s.vm.findClass own = some g.method.cls) (hW : s.WarmedH S.vm) (hce : S.heap[a]? = some ce) (hvm : ce.vm = .none) (hX : s.vm.findClass X = some ce.cls)
    (hself : (Cond.castable X X).before args s = true) (hx : covers x g.pc = true) (h0 : x.catchType ≠ 0) (hlk : (Cond.classLink own x.catchType nm).before args s = true) :
    ∃ vm', s.WarmedH vm' ∧ (X = nm → ∀ (Qh : Handler → Pre) (E : CtlPost) (d : Bool) (acts : List Action), wp (findHandler.go g a (x :: tl)) Qh E e d acts S ↔ Qh (.found x.handlerPc) d acts (S.setVm vm')) ∧
      (eh_apt X nm s → ∀ (Qh : Handler → Pre) (E : CtlPost) (d : Bool) (acts : List Action), wp (findHandler.go g a (x :: tl)) Qh E e d acts S ↔ wp (findHandler.go g a tl) Qh E e d acts (S.setVm vm')) := by
  obtain ⟨cT, hcT, hcl⟩ := Cond.classLink_spec hown hlk e.platform (by rw [hadm.platform])
  have hl := hW.classLinks hcl
  have hW' : s.WarmedH (S.vm.noted g.method.cls x.catchType (.cls cT)) := by
    obtain ⟨k, -, -, -, hk, -, -, -, -, -, -, hopen⟩ := hcl.here
    exact hW.noted hk hopen (State.rightAt_cls hcl)
  have hin : ∀ {C : ClassId} {N : String}, s.vm.findClass N = some C → ∃ k, (S.vm.noted g.method.cls x.catchType (.cls cT)).classes[C]? = some k := by
    intro C N hN
    rw [← hW'.alike.findClass] at hN
    exact Vm.classAt_of_findClass hN
  have hrow : ∀ (Qh : Handler → Pre) (E : CtlPost) (d : Bool) (acts : List Action), wp (findHandler.go g a (x :: tl)) Qh E e d acts S ↔
      if s.vm.assignable ce.cls cT = true then Qh (.found x.handlerPc) d acts (S.setVm (S.vm.noted g.method.cls x.catchType (.cls cT))) else wp (findHandler.go g a tl) Qh E e d acts (S.setVm (S.vm.noted g.method.cls x.catchType (.cls cT))) := by
    intro Qh E d acts
    have hask := _root_.Jvm.W.findHandler_go_class (Q := Qh) (E := E) (e := e) (d := d) (acts := acts) (a := a) (t := tl) (s := S.setVm (S.vm.noted g.method.cls x.catchType (.cls cT))) hx h0 hl.ready hce (fun k => by rw [hvm]; simp) (hin hX) (hin hcT)
    rw [show (S.setVm (S.vm.noted g.method.cls x.catchType (.cls cT))).vm.assignable ce.cls cT = s.vm.assignable ce.cls cT from hW'.alike.assignable ..] at hask
    exact (eh_cold hx h0 hl).trans hask
  refine ⟨_, hW', fun hXn Qh E d acts => (hrow Qh E d acts).trans ?_, fun hap Qh E d acts => (hrow Qh E d acts).trans ?_⟩
  · obtain ⟨c3, c4, hc3, hc4, has⟩ := Cond.castable_spec hself
    have e3 : c3 = ce.cls := Option.some.inj (hc3.symm.trans hX)
    have e4 : c4 = cT := Option.some.inj (hc4.symm.trans (hXn ▸ hcT))
    rw [e3, e4] at has
    rw [if_pos has]
  · rw [if_neg (by rw [hap _ _ hX hcT]; decide)]
end
