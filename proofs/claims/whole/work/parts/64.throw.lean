/-! what throws: 'throw new X()' out of a method of the road; a call that throws into a handler of its caller; a call of a method with handlers -/
def eh_st (U : State) : Prop := (Cond.isRef (.static "java/lang/Throwable" "UNASSIGNED_STACK" "[Ljava/lang/StackTraceElement;")).before #[] U = true ∧ (Cond.isRef (.static "java/lang/Throwable" "SUPPRESSED_SENTINEL" "Ljava/util/List;")).before #[] U = true ∧
  (Cond.laysStatic "java/lang/Throwable" "UNASSIGNED_STACK" "[Ljava/lang/StackTraceElement;").before #[] U = true ∧ (Cond.laysStatic "java/lang/Throwable" "SUPPRESSED_SENTINEL" "Ljava/util/List;").before #[] U = true

theorem eh_st2 {C f d : String} {u U : State} {A0 A1 : Array Value} (hal : u.vm.Alike U.vm) (hh : ∀ (q : Nat) (cell : Cell), u.heap[q]? = some cell → U.heap[q]? = some cell)
    (h : (Cond.laysStatic C f d).before A0 u = true) : (Cond.laysStatic C f d).before A1 U = true := by
  obtain ⟨c, k, i, fd, a, cell, hc, hi, hst, ha, hcell, hs, hcls, hlt, hty⟩ := Cond.laysStatic_spec (Cond.laysStatic_setVm hal h)
  exact Cond.laysStatic_of (s := U) hc hi hst ha (hh a cell hcell) hs hcls hlt hty

theorem eh_st1 {C f d : String} {u U : State} {A0 A1 : Array Value} (hal : u.vm.Alike U.vm) (hh : ∀ (q : Nat) (cell : Cell), u.heap[q]? = some cell → U.heap[q]? = some cell)
    (h : (Cond.isRef (.static C f d)).before A0 u = true) : (Cond.isRef (.static C f d)).before A1 U = true := by
  have e0 : (Term.static C f d).eval A0 (u.setVm U.vm) none [] (u.setVm U.vm) = (Term.static C f d).eval A0 u none [] u := Term.eval_setVm hal _ _ rfl
  have key : ∀ v, (Term.static C f d).eval A0 u none [] u = some v → (Term.static C f d).eval A1 U none [] U = some v := by
    intro v hv
    rw [← e0] at hv
    simp only [Term.eval] at hv ⊢
    have e1 : (u.setVm U.vm).fieldNamed? C f d true = U.fieldNamed? C f d true := rfl
    rw [e1] at hv
    cases hfn : U.fieldNamed? C f d true with
    | none => rw [hfn] at hv; cases hv
    | some w =>
      obtain ⟨c0, k0, sl⟩ := w
      rw [hfn] at hv
      cases hks : k0.statics with
      | none => simp [hks] at hv
      | some a =>
        have e2 : (u.setVm U.vm).heap = u.heap := rfl
        cases hcell : u.heap[a]? with
        | none => simp [hks, e2, hcell] at hv
        | some cell =>
          have h3 := hh a cell hcell
          simp [hks, e2, hcell] at hv
          simp [hks, h3]
          exact hv
  simp only [Cond.before, Cond.holds, Cond.value] at h ⊢
  cases hv : (Term.static C f d).eval A0 u none [] u with
  | none => simp [hv] at h
  | some v =>
    rw [key v hv]
    rw [hv] at h
    exact h

theorem eh_st_moved {u U : State} (hal : u.vm.Alike U.vm) (hh : ∀ (q : Nat) (cell : Cell), u.heap[q]? = some cell → U.heap[q]? = some cell) (h : eh_st u) : eh_st U :=
  ⟨eh_st1 hal hh h.1, eh_st1 hal hh h.2.1, eh_st2 hal hh h.2.2.1, eh_st2 hal hh h.2.2.2⟩

/-- an end that threw an object of the class X: nothing old has changed -/
def eh_TQ (below : List Frame) (X : String) (s : State) : State → Prop := fun t => ∃ (a : Addr) (ce : Cell), t.status = .running ∧ Ended t below (.threw a) ∧ s.WarmedH t.vm ∧ s.sameButNew ({ t with vm := s.vm } : State) [] 1 6 ∧ t.heap[a]? = some ce ∧ s.vm.findClass X = some ce.cls ∧ ce.vm = .none

section
variable {p : Program} {l : Launch} {e : Env} {R : Room} {s : State} {m : MethodId} {args : Array Value} {below : List Frame} {meth : Method} {c : Code} {T : State} {locs : List Loc} {cells slots : Nat}
variable {cc : ByteArray} {pc : Nat} {ls : Array Slot}

theorem eh_throw0 {X own : String} {names : List String} {ic ix : Nat} (hexec : p.tables.exec = Jvm.exec) (hb : c.code = cc) (htr : e.platform.stackTraces = false) (hown : s.vm.findClass own = some m.cls)
    (hcls : Jvm.Bundle.fit X = true) (hnames : ∀ n ∈ names, Jvm.Bundle.fit n = true) (hat : ∀ a ∈ Jvm.Bundle.ownAtoms0 own ic X names, a.before args s = true)
    (hcl : (Cond.classLink own ix X).before args s = true) (hinst : (Cond.instantiable X 6).before args s = true) (hini : (Cond.initialized X).before args s = true)
    (hno : c.exceptionTable = #[]) (hlocks : meth.locks = false) (hsz : ls.size = c.maxLocals)
    (hR1 : names.length + 3 < R.frames) (hR2 : 13 * (names.length + 1) + 50 ≤ R.locals) (hRc : 1 ≤ R.cells) (hRs : 6 ≤ R.slots)
    (d0 : decode cc pc = .ok (.new ix, 3)) (d3 : decode cc (pc + 3) = .ok (.dup, 1)) (d4 : decode cc (pc + 3 + 1) = .ok (.invokespecial ic, 3)) (d7 : decode cc (pc + 3 + 1 + 3) = .ok (.athrow, 1)) :
    W p l e R s m args below meth c s.heap [] 0 0 (eh_TQ below X s) (F0 m pc ls []) := by
  refine W.newc hexec hb hown hcl hinst hini rfl d0 (by omega) (by omega) (fun cC kC h1 h2 h3 h4 => ?_)
  refine lv_dup hexec hb d3 rfl ?_
  intro T hT X0
  obtain ⟨U, st, hrun, hend, hW, hsame, ce, hce, hoc⟩ := X0.ctorThrow0 hexec htr hown hcls hnames hat (fun x hx => by cases hx) (a := s.heap.size) h1 h2 (by rw [hT]; simp) (Nat.le_refl _)
    (g := F0 m (pc + 3 + 1) ls [.ref s.heap.size, .ref s.heap.size]) rfl hsz rfl rfl (rest := []) rfl (by rw [hb]; exact d4) (by rw [hb]; exact d7) (by rw [hno]; intro x hx; cases hx) hR1
    (by show 2 * 0 + (1 + 0) + (13 * (names.length + 1) + 41) ≤ R.locals; omega) hlocks
  exact ⟨U, st, s.heap.size, ce, hrun, hend, hW, hsame, hce, hoc.cls, hoc.vm⟩

/-- what a method invoked here comes to, and what then stands behind it: it returned, or it threw -/
theorem eh_inv (X : Stand p l e R s m args below meth c T locs cells slots) {y : MethodName} {Sp : Spec} {P : Array Value → State → Prop} {Qf : Array Value → State → Outcome → State → Prop} {maxL : Nat} {mk : MethodId} {methY : Method} {cY : Code} {kY : Class} {a : Array Value} {g : JFrame} {ig : Instr}
    (hM : MetFree l y Sp P (fun _ _ _ _ _ => True) Qf) (hg : g.method = m) (hsize : g.locals.size = c.maxLocals) (hdg : decode c.code g.pc = .ok (ig, 3))
    (hn : T.methodNamed? y = some mk) (hmY : T.vm.method? mk = some methY) (hcY : methY.code = some cY) (hlY : cY.maxLocals = maxL) (hkY : T.vm.classes[mk.cls]? = some kY) (hiY : kY.init = .initialized)
    (hfr : Sp.room.frames + 1 ≤ R.frames) (hlo : 2 * g.monitorRoom + (g.stack.map fun v => v.category).sum + (maxL + 11) + Sp.room.locals ≤ R.locals) (hrc : cells + Sp.room.cells ≤ R.cells) (hrs : slots + Sp.room.slots ≤ R.slots)
    (hpre : Sp.pre.before a T = true) (hP : P a (T.calling g mk a)) :
    ∃ (o : Outcome) (t : State), Steps p.tables e below (doInvoke e (T.setTop g) [] mk a).1 t ∧ Qf a (T.calling g mk a) o t ∧
      ∀ (L : List Loc) (k n : Nat), T.WarmedH t.vm → (T.calling g mk a).sameButNew ({ t with vm := (T.calling g mk a).vm } : State) L k n →
        ∃ T' : State, Stand p l e R s m args below meth c T' (locs ++ L) (cells + k) (slots + n) ∧ T'.heap = t.heap ∧ T'.vm = t.vm ∧
          (∀ v, o = .returned v → t = T'.setTop { g with pc := g.pc + 3, stack := v.toList ++ g.stack }) ∧ (∀ x, o = .threw x → t = (T'.setTop g).pushFrame (.throwing x)) := by
  have happ := Spec.appliesLoose_calling (S := Sp) (args := a) (g := g) (by rw [hg]; exact X.here) hdg hn hkY hiY (X.room_calling (g := g) (R' := Sp.room) hsize hmY hcY hfr (by rw [hlY]; exact hlo) hrc hrs) hpre
  obtain ⟨g₀, hT⟩ := X.frames_eq
  have hF : (T.setTop g).frames = .java g :: below := State.frames_setTop g hT
  obtain ⟨o, t, hsteps, -, hend, hq⟩ := Steps.callFree hM p X.admits X.cas X.clock (acts := []) (mid := [.java g]) hF happ hP trivial
  rw [hF] at hend
  refine ⟨o, t, hsteps, hq, fun L k n hW hsm => ?_⟩
  cases o with
  | returned v =>
    obtain ⟨T', X', -, -, ht⟩ := X.outOf hg hdg hend hW hsm
    have eh : T'.heap = t.heap := by rw [ht]; rfl
    have ev : T'.vm = t.vm := by rw [ht]; rfl
    refine ⟨T', X', eh, ev, fun w hw => ?_, fun z hz => ?_⟩
    · cases hw
      exact ht
    · cases hz
  | threw x =>
    obtain ⟨T', X', -, -, ht⟩ := X.outOfThrown hg hend hW hsm
    have eh : T'.heap = t.heap := by rw [ht, Stand.throwing_heap]
    have ev : T'.vm = t.vm := by rw [ht, Stand.throwing_vm]
    refine ⟨T', X', eh, ev, fun w hw => ?_, fun z hz => ?_⟩
    · cases hw
    · cases hz
      exact ht

/-- the search asks a row's class: what it comes to is what it would come to if the answer had been noted before -/
theorem eh_cold {d : Bool} {acts : List Action} {S : State} {f : JFrame} {a : Addr} {Qh : Handler → Pre} {E : CtlPost} {x : ExceptionTableEntry} {rest : List ExceptionTableEntry} {cT : ClassId}
    (hx : covers x f.pc = true) (h0 : x.catchType ≠ 0) (hlk : S.vm.ClassLinks e.platform f.method.cls x.catchType cT) :
    wp (findHandler.go f a (x :: rest)) Qh E e d acts S ↔ wp (findHandler.go f a (x :: rest)) Qh E e d acts (S.setVm (S.vm.noted f.method.cls x.catchType (.cls cT))) := by
  have first := (resolveClass_links e.toSetting hlk).op (op := VmOp.resolveClass f.method.cls x.catchType) rfl
  obtain ⟨k, hk, hr⟩ := hlk.ready
  have again := resolveClass_memo e hk hr
  have hx' : (decide (x.startPc ≤ f.pc) && decide (f.pc < x.endPc)) = true := hx
  have hz : (x.catchType == 0) = false := beq_false_of_ne h0
  rw [findHandler.go]
  simp only [hx', hz, if_true, Bool.false_eq_true, if_false]
  simp [first.1, first.2, again.1, again.2, VmOp.dirties, VmOp.acts, State.setVm_setVm]

/-- where the search has found a handler, and noted what it asked, the frame goes on at it -/
theorem eh_lands {S : State} {g : JFrame} {a : Addr} {r : List Frame} {hpc : Nat} {vm' : Vm}
    (hfind : ∀ (Qh : Handler → Pre) (E : CtlPost) (d : Bool) (acts : List Action), wp (findHandler g a) Qh E e d acts S ↔ Qh (.found hpc) d acts (S.setVm vm')) :
    (stepThrowing e S a (.java g :: r)).1 = (S.setVm vm').setFrames (.java { g with pc := hpc, stack := [.ref a] } :: r) := by
  show (searchFrame e S [] a g g r).1 = _
  unfold searchFrame vmDo
  split
  next heq =>
    obtain ⟨as, hok, -⟩ := Sem.eq_ok_of heq (a := Handler.found hpc) (s' := S.setVm vm') (acts' := []) (by simp [hfind _ _ _ _])
    cases hok
    rfl
  next heq =>
    obtain ⟨as, hok, -⟩ := Sem.eq_ok_of heq (a := Handler.found hpc) (s' := S.setVm vm') (acts' := []) (by simp [hfind _ _ _ _])
    cases hok

/-- an exception that is found: the frame goes on at the handler -/
theorem eh_found (X : Stand p l e R s m args below meth c T locs cells slots) {a : Addr} {g : JFrame} (hg : g.method = m) {hpc : Nat} {vm' : Vm} (hW : s.WarmedH vm')
    (hfind : ∀ (Qh : Handler → Pre) (E : CtlPost) (d : Bool) (acts : List Action), wp (findHandler g a) Qh E e d acts ((T.setTop g).pushFrame (.throwing a)) ↔ Qh (.found hpc) d acts (((T.setTop g).pushFrame (.throwing a)).setVm vm')) :
    Stand p l e R s m args below meth c (T.setVm vm') locs cells slots ∧ ∀ tg, Steps p.tables e below ((T.setVm vm').setTop { g with pc := hpc, stack := [.ref a] }) tg → Steps p.tables e below ((T.setTop g).pushFrame (.throwing a)) tg := by
  have hat : At T g.method c below := by rw [hg]; exact X.here
  obtain ⟨g₀, hT⟩ := X.frames_eq
  have hS : (T.setTop g).pushFrame (.throwing a) = T.setFrames (.throwing a :: .java g :: below) := by
    rw [State.pushFrame, State.frames_setTop g hT, State.setTop_of_frames g hT, State.setFrames_setFrames]
  have hland : (stepThread p.tables e ((T.setTop g).pushFrame (.throwing a))).1 = (T.setVm vm').setTop { g with pc := hpc, stack := [.ref a] } := by
    rw [stepThread_throwing (below := .java g :: below) (by rw [hS]; exact State.frames_setFrames _ (State.cur_lt_of_frames hT)), eh_lands hfind, hS,
      State.setTop_of_frames (s := T.setVm vm') _ hT]
    exact State.setFrames_setFrames (T.setVm vm') _ _
  exact ⟨X.noted hW, fun tg hrest => Steps.head (hat.throwing a).1 (hat.throwing a).2 (by rw [hland]; exact hrest)⟩
end
