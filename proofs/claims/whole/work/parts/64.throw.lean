/-! what throws: 'throw new X()' out of a method of the road; a call that throws into a handler of its caller; a call of a method with handlers -/
def eh_st (U : State) : Prop := (Cond.isRef (.static "java/lang/Throwable" "UNASSIGNED_STACK" "[Ljava/lang/StackTraceElement;")).before #[] U = true ∧ (Cond.isRef (.static "java/lang/Throwable" "SUPPRESSED_SENTINEL" "Ljava/util/List;")).before #[] U = true ∧
  (Cond.laysStatic "java/lang/Throwable" "UNASSIGNED_STACK" "[Ljava/lang/StackTraceElement;").before #[] U = true ∧ (Cond.laysStatic "java/lang/Throwable" "SUPPRESSED_SENTINEL" "Ljava/util/List;").before #[] U = true

theorem eh_st2 {C f d : String} {u U : State} {A0 A1 : Array Value} (hal : u.vm.Alike U.vm) (hh : ∀ (q : Nat) (cell : Cell), u.heap[q]? = some cell → U.heap[q]? = some cell)
    (h : (Cond.laysStatic C f d).before A0 u = true) : (Cond.laysStatic C f d).before A1 U = true := by
  obtain ⟨c, k, i, fd, a, cell, hc, hi, hst, ha, hcell, hs, hcls, hlt, hty⟩ := Cond.laysStatic_spec (Cond.laysStatic_setVm hal h)
  exact Cond.laysStatic_of (s := U) hc hi hst ha (hh a cell hcell) hs hcls hlt hty

theorem eh_st1 {C f d : String} {u U : State} {A0 A1 : Array Value} (hal : u.vm.Alike U.vm) (hh : ∀ (q : Nat) (cell : Cell), u.heap[q]? = some cell → U.heap[q]? = some cell)
    (h : (Cond.isRef (.static C f d)).before A0 u = true) : (Cond.isRef (.static C f d)).before A1 U = true := by
  have e0 : (Term.static C f d).eval A0 (u.setVm U.vm) none [] (u.setVm U.vm) = (Term.static C f d).eval A0 u none [] u := Term.eval_setVm hal _ _ rfl
  have key : ∀ v, (Term.static C f d).eval A0 u none [] u = some v → (Term.static C f d).eval A1 U none [] U = some v := by
    intro v hv
    rw [← e0] at hv
    simp only [Term.eval] at hv ⊢
    have e1 : (u.setVm U.vm).fieldNamed? C f d true = U.fieldNamed? C f d true := rfl
    rw [e1] at hv
    cases hfn : U.fieldNamed? C f d true with
    | none => rw [hfn] at hv; cases hv
    | some w =>
      obtain ⟨c0, k0, sl⟩ := w
      rw [hfn] at hv
      cases hks : k0.statics with
      | none => simp [hks] at hv
      | some a =>
        have e2 : (u.setVm U.vm).heap = u.heap := rfl
        cases hcell : u.heap[a]? with
        | none => simp [hks, e2, hcell] at hv
        | some cell =>
          have h3 := hh a cell hcell
          simp [hks, e2, hcell] at hv
          simp [hks, h3]
          exact hv
  simp only [Cond.before, Cond.holds, Cond.value] at h ⊢
  cases hv : (Term.static C f d).eval A0 u none [] u with
  | none => simp [hv] at h
  | some v =>
    rw [key v hv]
    rw [hv] at h
    exact h

theorem eh_st_moved {u U : State} (hal : u.vm.Alike U.vm) (hh : ∀ (q : Nat) (cell : Cell), u.heap[q]? = some cell → U.heap[q]? = some cell) (h : eh_st u) : eh_st U :=
  ⟨eh_st1 hal hh h.1, eh_st1 hal hh h.2.1, eh_st2 hal hh h.2.2.1, eh_st2 hal hh h.2.2.2⟩

/-- an end that threw an object of the class X: nothing old has changed -/
def eh_TQ (below : List Frame) (X : String) (s : State) : State → Prop := fun t => ∃ (a : Addr) (ce : Cell), t.status = .running ∧ Ended t below (.threw a) ∧ s.WarmedH t.vm ∧ s.sameButNew ({ t with vm := s.vm } : State) [] 1 6 ∧ t.heap[a]? = some ce ∧ s.vm.findClass X = some ce.cls ∧ ce.vm = .none

section
variable {p : Program} {l : Launch} {e : Env} {R : Room} {s : State} {m : MethodId} {args : Array Value} {below : List Frame} {meth : Method} {c : Code} {T : State} {locs : List Loc} {cells slots : Nat}
variable {cc : ByteArray} {pc : Nat} {ls : Array Slot}

theorem eh_throw0 {X own : String} {names : List String} {ic ix : Nat} (hexec : p.tables.exec = Jvm.exec) (hb : c.code = cc) (htr : e.platform.stackTraces = false) (hown : s.vm.findClass own = some m.cls)
    (hcls : Jvm.Bundle.fit X = true) (hnames : ∀ n ∈ names, Jvm.Bundle.fit n = true) (hat : ∀ a ∈ Jvm.Bundle.ownAtoms0 own ic X names, a.before args s = true)
    (hcl : (Cond.classLink own ix X).before args s = true) (hinst : (Cond.instantiable X 6).before args s = true) (hini : (Cond.initialized X).before args s = true)
    (hno : c.exceptionTable = #[]) (hlocks : meth.locks = false) (hsz : ls.size = c.maxLocals)
    (hR1 : names.length + 3 < R.frames) (hR2 : 13 * (names.length + 1) + 50 ≤ R.locals) (hRc : 1 ≤ R.cells) (hRs : 6 ≤ R.slots)
    (d0 : decode cc pc = .ok (.new ix, 3)) (d3 : decode cc (pc + 3) = .ok (.dup, 1)) (d4 : decode cc (pc + 3 + 1) = .ok (.invokespecial ic, 3)) (d7 : decode cc (pc + 3 + 1 + 3) = .ok (.athrow, 1)) :
    W p l e R s m args below meth c s.heap [] 0 0 (eh_TQ below X s) (F0 m pc ls []) := by
  refine W.newc hexec hb hown hcl hinst hini rfl d0 (by omega) (by omega) (fun cC kC h1 h2 h3 h4 => ?_)
  refine lv_dup hexec hb d3 rfl ?_
  intro T hT X0
  obtain ⟨U, st, hrun, hend, hW, hsame, ce, hce, hoc⟩ := X0.ctorThrow0 hexec htr hown hcls hnames hat (fun x hx => by cases hx) (a := s.heap.size) h1 h2 (by rw [hT]; simp) (Nat.le_refl _)
    (g := F0 m (pc + 3 + 1) ls [.ref s.heap.size, .ref s.heap.size]) rfl hsz rfl rfl (rest := []) rfl (by rw [hb]; exact d4) (by rw [hb]; exact d7) (by rw [hno]; intro x hx; cases hx) hR1
    (by show 2 * 0 + (1 + 0) + (13 * (names.length + 1) + 41) ≤ R.locals; omega) hlocks
  exact ⟨U, st, s.heap.size, ce, hrun, hend, hW, hsame, hce, hoc.cls, hoc.vm⟩

/-- what a method invoked here comes to, and what then stands behind it: it returned, or it threw -/
theorem eh_inv (X : Stand p l e R s m args below meth c T locs cells slots) {y : MethodName} {Sp : Spec} {P : Array Value → State → Prop} {Qf : Array Value → State → Outcome → State → Prop} {maxL : Nat} {mk : MethodId} {methY : Method} {cY : Code} {kY : Class} {a : Array Value} {g : JFrame} {ig : Instr}
    (hM : MetFree l y Sp P (fun _ _ _ _ _ => True) Qf) (hg : g.method = m) (hsize : g.locals.size = c.maxLocals) (hdg : decode c.code g.pc = .ok (ig, 3))
    (hn : T.methodNamed? y = some mk) (hmY : T.vm.method? mk = some methY) (hcY : methY.code = some cY) (hlY : cY.maxLocals = maxL) (hkY : T.vm.classes[mk.cls]? = some kY) (hiY : kY.init = .initialized)
    (hfr : Sp.room.frames + 1 ≤ R.frames) (hlo : 2 * g.monitorRoom + (g.stack.map fun v => v.category).sum + (maxL + 11) + Sp.room.locals ≤ R.locals) (hrc : cells + Sp.room.cells ≤ R.cells) (hrs : slots + Sp.room.slots ≤ R.slots)
    (hpre : Sp.pre.before a T = true) (hP : P a (T.calling g mk a)) :
    ∃ (o : Outcome) (t : State), Steps p.tables e below (doInvoke e (T.setTop g) [] mk a).1 t ∧ Qf a (T.calling g mk a) o t ∧
      ∀ (L : List Loc) (k n : Nat), T.WarmedH t.vm → (T.calling g mk a).sameButNew ({ t with vm := (T.calling g mk a).vm } : State) L k n →
        ∃ T' : State, Stand p l e R s m args below meth c T' (locs ++ L) (cells + k) (slots + n) ∧ T'.heap = t.heap ∧ T'.vm = t.vm ∧
          (∀ v, o = .returned v → t = T'.setTop { g with pc := g.pc + 3, stack := v.toList ++ g.stack }) ∧ (∀ x, o = .threw x → t = (T'.setTop g).pushFrame (.throwing x)) := by
  subst hg
  have h := X.here
  have happ := Spec.appliesLoose_calling (S := Sp) (args := a) (g := g) h hdg hn hkY hiY (X.room_calling (g := g) (R' := Sp.room) hsize hmY hcY hfr (by rw [hlY]; exact hlo) hrc hrs) hpre
  obtain ⟨mid, hmid⟩ := h.above
  have hf0 : (T.setTop g).frames = (.java g :: mid) ++ below := by rw [State.frames_setTop' g h.top, hmid]; rfl
  obtain ⟨o, t, hsteps, -, hend, hq⟩ := Steps.callFree hM p X.admits X.cas X.clock (acts := []) hf0 happ hP trivial
  rw [State.frames_setTop' g h.top] at hend
  refine ⟨o, t, hsteps, hq, fun L k n hW hsm => ?_⟩
  obtain ⟨e2, q2, q3, q4, q5, q6⟩ := hsm
  obtain ⟨g₀, hg0⟩ := Option.isSome_iff_exists.mp h.top
  obtain ⟨r, hr⟩ := State.topJava?_eq_some.mp hg0
  have e3 : t = ({ (T.calling g mk a).setFrames t.frames with heap := t.heap, slotsUsed := t.slotsUsed } : State).setVm t.vm := by
    have z : t = ({ t with vm := (T.calling g mk a).vm } : State).setVm t.vm := rfl
    rw [e2] at z
    exact z
  have hsame : T.sameButNew ({ T with heap := t.heap, slotsUsed := t.slotsUsed } : State) L k n := by
    refine ⟨?_, q2, q3, q4, q5, q6⟩
    obtain ⟨th, hth, -⟩ := State.frames_cons hr
    show ({ T with heap := t.heap, slotsUsed := t.slotsUsed } : State) = { T.setFrames T.frames with heap := t.heap, slotsUsed := t.slotsUsed }
    rw [State.setFrames_self hth]
  have hr' : (({ T with heap := t.heap, slotsUsed := t.slotsUsed } : State).setVm t.vm).frames = .java g₀ :: r := hr
  refine ⟨({ T with heap := t.heap, slotsUsed := t.slotsUsed } : State).setVm t.vm,
    ⟨X.admits, X.cas, X.clock, X.frames, X.room, X.hears, X.method, X.code, (X.here.setHeapUsed t.heap t.slotsUsed).setVm hW.alike, X.tail, State.WarmedH.trans X.warmed hW, X.limits, X.bytes, X.same.trans (hsame.setVm s.vm)⟩, rfl, rfl, ?_, ?_⟩
  · intro v hv
    subst hv
    obtain ⟨c₂, i₂, len₂, hc₂, hd₂, hf₂⟩ := hend
    have hcc : c₂ = c := by
      have h1 : t.code? g.method = T.code? g.method := by rw [State.code?_eq, State.code?_eq, hW.alike.method?]
      exact Option.some.inj (hc₂.symm.trans (h1.trans h.code))
    subst hcc
    have hlen : len₂ = 3 := by rw [hdg] at hd₂; cases hd₂; rfl
    subst hlen
    refine e3.trans ?_
    rw [hf₂, State.calling_eq h.top, State.setFrames_setFrames, State.setTop_of_frames _ hr', hr]
    rfl
  · intro x hx
    subst hx
    have hf₂ : t.frames = .throwing x :: .java g :: T.frames.tail := hend
    refine e3.trans ?_
    rw [hf₂, State.calling_eq h.top, State.setFrames_setFrames, State.pushFrame, State.frames_setTop _ hr', State.setTop_of_frames _ hr', State.setFrames_setFrames, hr]
    rfl

/-- the search of a handler looks at one row whose class is linked: it is found there, or the search goes on -/
theorem eh_go {d : Bool} {acts : List Action} {S : State} {f : JFrame} {a : Addr} {Qh : Handler → Pre} {E : CtlPost} {x : ExceptionTableEntry} {rest : List ExceptionTableEntry} {cT : ClassId} {cell : Cell}
    (hx : covers x f.pc = true) (h0 : x.catchType ≠ 0) (hlk : S.vm.ClassLinks e.platform f.method.cls x.catchType cT) (hcell : S.heap[a]? = some cell) (hobj : ∀ k, cell.vm ≠ .statics k)
    (hk : ∃ k, S.vm.classes[cell.cls]? = some k) (hc : ∃ k, S.vm.classes[cT]? = some k) :
    (S.vm.assignable cell.cls cT = true → (wp (findHandler.go f a (x :: rest)) Qh E e d acts S ↔ Qh (.found x.handlerPc) d acts (S.setVm (S.vm.noted f.method.cls x.catchType (.cls cT))))) ∧
    (S.vm.assignable cell.cls cT = false → (wp (findHandler.go f a (x :: rest)) Qh E e d acts S ↔ wp (findHandler.go f a rest) Qh E e d acts (S.setVm (S.vm.noted f.method.cls x.catchType (.cls cT))))) := by
  simp only [covers] at hx
  obtain ⟨ha, ht⟩ := (resolveClass_links e.toSetting hlk).op (op := VmOp.resolveClass f.method.cls x.catchType) rfl
  have hal : S.vm.Alike (S.vm.noted f.method.cls x.catchType (.cls cT)) := (Vm.Alike.refl S.vm).noted _ _ _
  obtain ⟨k1, hk1⟩ := hk
  obtain ⟨k2, hk2⟩ := hc
  obtain ⟨k1', hk1', -⟩ := hal.2.2 _ _ hk1
  obtain ⟨k2', hk2', -⟩ := hal.2.2 _ _ hk2
  constructor
  · intro hfit
    have hfit' : (S.vm.noted f.method.cls x.catchType (.cls cT)).assignable cell.cls cT = true := by rw [hal.assignable]; exact hfit
    simp [findHandler.go, hx, h0, ha, ht, hcell, hobj, hk1', hk2', hfit', VmOp.dirties, VmOp.acts]
  · intro hfit
    have hfit' : (S.vm.noted f.method.cls x.catchType (.cls cT)).assignable cell.cls cT = false := by rw [hal.assignable]; exact hfit
    simp [findHandler.go, hx, h0, ha, ht, hcell, hobj, hk1', hk2', hfit', VmOp.dirties, VmOp.acts]

/-- an exception that is found: the frame goes on at the handler -/
theorem eh_found (X : Stand p l e R s m args below meth c T locs cells slots) {a : Addr} {g : JFrame} (hg : g.method = m) {hpc : Nat} {vm' : Vm} (hW : s.WarmedH vm')
    (hfind : ∀ (Qh : Handler → Pre) (E : CtlPost) (d : Bool) (acts : List Action), wp (findHandler g a) Qh E e d acts ((T.setTop g).pushFrame (.throwing a)) ↔ Qh (.found hpc) d acts (((T.setTop g).pushFrame (.throwing a)).setVm vm')) :
    Stand p l e R s m args below meth c (T.setVm vm') locs cells slots ∧ ∀ tg, Steps p.tables e below ((T.setVm vm').setTop { g with pc := hpc, stack := [.ref a] }) tg → Steps p.tables e below ((T.setTop g).pushFrame (.throwing a)) tg := by
  subst hg
  refine ⟨X.noted hW, fun tg hrest => ?_⟩
  obtain ⟨hgo, hw⟩ := X.here.throwing a
  refine Steps.head hgo hw ?_
  have hstep : (stepThrowing e ((T.setTop g).pushFrame (.throwing a)) a (.java g :: T.frames.tail)).1 = (((T.setTop g).pushFrame (.throwing a)).setVm vm').setFrames (.java { g with pc := hpc, stack := [.ref a] } :: T.frames.tail) := by
    simp only [stepThrowing, searchFrame, vmDo]
    generalize hr : Sem.go _ e false [] ((T.setTop g).pushFrame (.throwing a)) = res
    obtain ⟨as, rfl, ha⟩ := Sem.eq_ok_of hr (a := Handler.found hpc) (s' := ((T.setTop g).pushFrame (.throwing a)).setVm vm') (acts' := []) (by simp [hfind _ _ _ _])
    rfl
  rw [stepThread_throwing (frames_entered X.here.top _), hstep]
  obtain ⟨g₀, hg0⟩ := Option.isSome_iff_exists.mp X.here.top
  obtain ⟨r, hr⟩ := State.topJava?_eq_some.mp hg0
  have hr' : (T.setVm vm').frames = .java g₀ :: r := hr
  rw [State.setTop_of_frames _ hr'] at hrest
  rw [hr, List.tail_cons, State.setTop_of_frames _ hr]
  have e1 : ∀ (F G : List Frame), (((T.setFrames F).pushFrame (.throwing a)).setVm vm').setFrames G = (T.setVm vm').setFrames G := fun F G => by
    have z : ((T.setFrames F).pushFrame (.throwing a)).setVm vm' = (T.setVm vm').setFrames (.throwing a :: (T.setFrames F).frames) := by
      rw [State.pushFrame, State.setFrames_setFrames]
      rfl
    rw [z, State.setFrames_setFrames]
  rw [e1]
  exact hrest
end
