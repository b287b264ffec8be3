/-! calls that throw into a handler of their caller; methods with handlers, and calls of them -/
section
variable {p : Program} {l : Launch} {e : Env} {R : Room} {s : State} {m : MethodId} {args : Array Value} {below : List Frame} {meth : Method} {c : Code} {H : Heap} {locs : List Loc} {cells slots : Nat} {Q : State → Prop}
variable {cc : ByteArray} {pc : Nat} {ls : Array Slot} {rest st : List Value} {D : va_G} {cl : List vw_C} {b : Nat} {tys tys' : List (ClassId × FieldType)} {ws wc : va_W}
variable {own C : String} {index maxL nL fr lo qb ci : Nat} {y : MethodName} {bytes : ByteArray} {ret : Option FieldType} {As : List Value} {q : vw_C} {fs : List Value} {X : String}

/-- what throws, called by invokevirtual: caught by the first row of the table -/
theorem eh_cTV1 {x : ExceptionTableEntry} {tl : List ExceptionTableEntry} (hexec : p.tables.exec = Jvm.exec) (hb : c.code = cc) (hml : c.maxLocals = nL) (hown : s.vm.findClass own = some m.cls) (htb : ∀ w ∈ ew_t, w.before args s = true) (hN : ew_n s) (hst0 : eh_st s) (hold : ∀ (q : Nat) (cell : Cell), s.heap[q]? = some cell → H[q]? = some cell)
    (hself : (Cond.castable X X).before args s = true) (htab : c.exceptionTable.toList = x :: tl) (hx : covers x pc = true) (h0 : x.catchType ≠ 0) (hlk : (Cond.classLink own x.catchType X).before args s = true)
    (hM : eh_T l y (.code y bytes maxL ret) fr lo D cl tys' (.ref b :: As) wc X) (n : Nat) (hw : eh_wV own index q.1 y (.code y bytes maxL ret)) (hd : eh_dV y q.1 n)
    (hR : fr + 1 ≤ R.frames ∧ 8 + (maxL + 11) + lo ≤ R.locals) (hK : va_K D cl tys s) (hP : va_P D cl ws H) (qb : Nat) (hbC : ws[qb]? = some (b, .inr (ci, fs))) (hc : cl[ci]? = some q)
    (isC : List Nat) (hC : isC.filterMap (fun i => ws[i]?) = wc) (isT : List Nat) (hT : isT.filterMap (fun i => tys[i]?) = tys')
    (hst : st = As.reverse ++ .ref b :: rest) (hn : As.length = n) (hsz : ls.size = nL) (hWd : (rest.map fun v => v.category).sum ≤ 8)
    (hdg : decode cc pc = .ok (.invokevirtual index, 3)) (hf : cells + 1 ≤ R.cells ∧ slots + 6 ≤ R.slots)
    (kk : ∀ (a : Addr) (H1 : Heap), H.size ≤ H1.size → (∀ q : Nat, q < H.size → H1[q]? = H[q]?) → W p l e R s m args below meth c H1 locs (cells + 1) (slots + 6) Q (F0 m x.handlerPc ls [.ref a])) :
    W p l e R s m args below meth c H locs cells slots Q (F0 m pc ls st) := by
  intro T hTH X0
  obtain ⟨a, ce, T', X', hz1, hz2, hce, hcl, hvm, stp⟩ := eh_cT0 hexec hb hml hown htb hN hst0 hold hM n hw hd hR hK hP qb hbC hc isC hC isT hT hst hn hsz hWd hdg hf hTH X0
  obtain ⟨vm', hW', hyes, -⟩ := eh_hrow (e := e) (T := T') (tl := tl) (g := F0 m pc ls rest) (S := (T'.setTop (F0 m pc ls rest)).pushFrame (.throwing a)) (nm := X) X'.admits hown X'.warmed (by rw [Stand.throwing_heap]; exact hce) hvm hcl hself hx h0 hlk
  obtain ⟨XV, stV⟩ := eh_found X' (a := a) (g := F0 m pc ls rest) (hpc := x.handlerPc) rfl hW' (fun Qh E d acts => by
    rw [_root_.Jvm.W.findHandler_eq (s := (T'.setTop (F0 m pc ls rest)).pushFrame (.throwing a)) (f := F0 m pc ls rest) (meth := meth) (code := c) X'.method' X'.code, htab]
    exact hyes rfl Qh E d acts)
  obtain ⟨t, a1, b1⟩ := kk a T'.heap hz1 hz2 (T'.setVm vm') rfl XV
  exact ⟨t, stp t (stV t a1), b1⟩

/-- what throws, called by invokevirtual: passed by the first row of the table, caught by the second -/
theorem eh_cTV2 {z x : ExceptionTableEntry} {tl : List ExceptionTableEntry} {nm : String} (hexec : p.tables.exec = Jvm.exec) (hb : c.code = cc) (hml : c.maxLocals = nL) (hown : s.vm.findClass own = some m.cls) (htb : ∀ w ∈ ew_t, w.before args s = true) (hN : ew_n s) (hst0 : eh_st s) (hold : ∀ (q : Nat) (cell : Cell), s.heap[q]? = some cell → H[q]? = some cell)
    (hself : (Cond.castable X X).before args s = true) (htab : c.exceptionTable.toList = z :: x :: tl) (hz : covers z pc = true) (hz0 : z.catchType ≠ 0) (hzk : (Cond.classLink own z.catchType nm).before args s = true) (hap : eh_apt X nm s)
    (hx : covers x pc = true) (h0 : x.catchType ≠ 0) (hlk : (Cond.classLink own x.catchType X).before args s = true)
    (hM : eh_T l y (.code y bytes maxL ret) fr lo D cl tys' (.ref b :: As) wc X) (n : Nat) (hw : eh_wV own index q.1 y (.code y bytes maxL ret)) (hd : eh_dV y q.1 n)
    (hR : fr + 1 ≤ R.frames ∧ 8 + (maxL + 11) + lo ≤ R.locals) (hK : va_K D cl tys s) (hP : va_P D cl ws H) (qb : Nat) (hbC : ws[qb]? = some (b, .inr (ci, fs))) (hc : cl[ci]? = some q)
    (isC : List Nat) (hC : isC.filterMap (fun i => ws[i]?) = wc) (isT : List Nat) (hT : isT.filterMap (fun i => tys[i]?) = tys')
    (hst : st = As.reverse ++ .ref b :: rest) (hn : As.length = n) (hsz : ls.size = nL) (hWd : (rest.map fun v => v.category).sum ≤ 8)
    (hdg : decode cc pc = .ok (.invokevirtual index, 3)) (hf : cells + 1 ≤ R.cells ∧ slots + 6 ≤ R.slots)
    (kk : ∀ (a : Addr) (H1 : Heap), H.size ≤ H1.size → (∀ q : Nat, q < H.size → H1[q]? = H[q]?) → W p l e R s m args below meth c H1 locs (cells + 1) (slots + 6) Q (F0 m x.handlerPc ls [.ref a])) :
    W p l e R s m args below meth c H locs cells slots Q (F0 m pc ls st) := by
  intro T hTH X0
  obtain ⟨a, ce, T', X', hz1, hz2, hce, hcl, hvm, stp⟩ := eh_cT0 hexec hb hml hown htb hN hst0 hold hM n hw hd hR hK hP qb hbC hc isC hC isT hT hst hn hsz hWd hdg hf hTH X0
  obtain ⟨vm1, hW1, -, hno⟩ := eh_hrow (e := e) (T := T') (tl := x :: tl) (g := F0 m pc ls rest) (S := (T'.setTop (F0 m pc ls rest)).pushFrame (.throwing a)) (nm := nm) X'.admits hown X'.warmed (by rw [Stand.throwing_heap]; exact hce) hvm hcl hself hz hz0 hzk
  obtain ⟨vm', hW', hyes, -⟩ := eh_hrow (e := e) (T := T') (tl := tl) (g := F0 m pc ls rest) (S := ((T'.setTop (F0 m pc ls rest)).pushFrame (.throwing a)).setVm vm1) (nm := X) X'.admits hown hW1 (by
    show ((T'.setTop (F0 m pc ls rest)).pushFrame (.throwing a)).heap[a]? = some ce
    rw [Stand.throwing_heap]; exact hce) hvm hcl hself hx h0 hlk
  obtain ⟨XV, stV⟩ := eh_found X' (a := a) (g := F0 m pc ls rest) (hpc := x.handlerPc) rfl hW' (fun Qh E d acts => by
    rw [_root_.Jvm.W.findHandler_eq (s := (T'.setTop (F0 m pc ls rest)).pushFrame (.throwing a)) (f := F0 m pc ls rest) (meth := meth) (code := c) X'.method' X'.code, htab]
    exact (hno hap Qh E d acts).trans (hyes rfl Qh E d acts))
  obtain ⟨t, a1, b1⟩ := kk a T'.heap hz1 hz2 (T'.setVm vm') rfl XV
  exact ⟨t, stp t (stV t a1), b1⟩

/-- a static method with handlers is called -/
theorem eh_runL {rm : Room} {mc ms : Nat} {hs : List (Nat × Nat × Nat × Nat)} {Pc : Array Value → State → Prop} {Qc : Array Value → State → Outcome → State → Prop} {free : Addr → Prop} (hexec : p.tables.exec = Jvm.exec) (hb : c.code = cc) (hml : c.maxLocals = nL) (hown : s.vm.findClass own = some m.cls) (htb : ∀ w ∈ ew_t, w.before args s = true)
    (hM : Met l y (.codeWith y bytes maxL ret hs :: ew_t) rm Pc Qc mc ms free) (hrc : rm.cells = mc) (hrs : rm.slots = ms) (n : Nat) (hw : eh_wS own index y (.codeWith y bytes maxL ret hs)) (hd : eh_dS y n) (hR : rm.frames + 1 ≤ R.frames ∧ 8 + (maxL + 11) + rm.locals ≤ R.locals)
    (hbl : FrameBlind Pc) (hPc : ∀ U : State, U.heap = H → s.WarmedH U.vm → Pc As.toArray U)
    (hst : st = As.reverse ++ rest) (hn : As.length = n) (hsz : ls.size = nL) (hWd : (rest.map fun v => v.category).sum ≤ 8)
    (hdg : decode cc pc = .ok (.invokestatic index, 3)) (hf : cells + mc ≤ R.cells ∧ slots + ms ≤ R.slots) :
    va_Run p l e R s m args below meth c H locs cells slots mc ms (F0 m pc ls st) rest (Qc As.toArray) free := by
  intro T hTH X0
  have hcode := htb _ hw.2.2.2
  obtain ⟨mk, methM, cM, hnamed, hmethM, hcM, -, hlM, -, -, -, hsigM⟩ := Cond.codeWith_spec hcode
  have hstatic : methM.isStatic = true := Cond.static_spec hnamed hmethM (htb _ hw.2.1)
  obtain ⟨kP, hkP, -⟩ := className_of_methodNamed hnamed
  have hinitP : kP.init = .initialized := Cond.initialized_spec (findClass_of_methodNamed hnamed) hkP (htb _ hw.2.2.1)
  have hlen : As.length = methM.sig.parameters.length := by
    have hyp := hd.2.2
    rw [hsigM] at hyp
    exact hn.trans (Option.some.inj hyp).symm
  obtain ⟨vm₁, X₁, hstep₁⟩ := X0.invokestatic hexec hown (htb _ hw.1) hnamed hmethM hstatic hkP hinitP ⟨hd.1, hd.2.1⟩ (g := F0 m pc ls st) rfl (argsL := As) (rest := rest) hlen hst (by rw [hb]; exact hdg)
  have hW1 : s.WarmedH (T.setVm vm₁).vm := X₁.warmed
  obtain ⟨kY', hkY', heY⟩ := hW1.alike.2.2 _ _ hkP
  obtain ⟨o, t, hsteps, ⟨hq, L, ⟨⟨v, ho⟩, hWt, hsm⟩, hL⟩, hnext⟩ := eh_inv X₁ (y := y) (a := As.toArray) (g := F0 m pc ls rest) hM rfl (hsz.trans hml.symm) (by rw [hb]; exact hdg)
    (X₁.named hnamed) (by rw [hW1.alike.method?]; exact hmethM) hcM hlM hkY' (by rw [heY]; exact hinitP) hR.1
    (by have := lv_room (m := m) (pc := pc) (ls := ls) (rest := rest) (st := rest) hWd
        show 2 * (F0 m pc ls rest).monitorRoom + (rest.map fun v => v.category).sum + (maxL + 11) + rm.locals ≤ R.locals
        omega) (by show cells + rm.cells ≤ R.cells; rw [hrc]; exact hf.1) (by show slots + rm.slots ≤ R.slots; rw [hrs]; exact hf.2) (atoms_intro (fun w hw1 => by
          rcases List.mem_cons.mp hw1 with rfl | h1
          · exact word_at hW1 (Or.inl rfl) hcode
          · exact word_at hW1 (ew_good (X := ew_t) (fun _ h => h) w h1).2 (htb w h1))) (hbl _ _ _ _ (hPc (T.setVm vm₁) hTH hW1))
  obtain ⟨T', X', e1, e2, hret, -⟩ := hnext L mc ms hWt hsm
  subst ho
  refine ⟨v, (T.setVm vm₁).calling (F0 m pc ls rest) mk As.toArray, t, T', L, hTH, X', hL, e1, e2, hq, fun tg htg => hstep₁ _ fun acts => ?_⟩
  rw [doInvoke_state]
  refine hsteps.trans ?_
  rw [hret v rfl]
  exact htg
end

/-- the contract of a method with handlers, out of a walk -/
theorem eh_ofWL {l : Launch} {y : MethodName} {ws ws' : List Cond} {rm : Room} {Pc : Array Value → State → Prop} {Qc : Array Value → State → Outcome → State → Prop} {mc ms : Nat} {free : Addr → Prop} {cc : ByteArray} {maxL : Nat} {ret : Option FieldType} {hs : List (Nat × Nat × Nat × Nat)}
    (hy : plainName y.cls = true) (hw : ws = Cond.codeWith y cc maxL ret hs :: ws')
    (body : ∀ p e s m args below meth c s₁, BodyLoose p l y (headSpec ws rm) cc maxL ret e s m args below meth c s₁ → c.maxLocals = maxL → c.exceptionTable.toList.map (fun h => (h.startPc, h.endPc, h.handlerPc, h.catchType)) = hs → Pc args s →
      W p l e (headSpec ws rm).room s m args below meth c s.heap [] 0 0 (MQ below Qc args s mc ms free) (entryFrame m args maxL)) : Met l y ws rm Pc Qc mc ms free := by
  refine va_MetW hy hw fun p e s m args below meth c s₁ hB hmax hPc => body p e s m args below meth c s₁ hB hmax ?_ hPc
  have hX := Stand.of_body hB
  have ⟨N, M, C, hN, hM, hC, _, _, htab, _⟩ := Cond.codeWith_spec (atoms_spec (ws := ws) hB.pre (Cond.codeWith y cc maxL ret hs) (hw ▸ List.mem_cons_self))
  have hm : m = N := Option.some.inj (hB.named.symm.trans hN)
  have hmeth : meth = M := Option.some.inj (hX.method.symm.trans (hm ▸ hM))
  have hc : c = C := Option.some.inj (hX.code.symm.trans (hmeth ▸ hC))
  rw [hc]
  exact htab
theorem eh_tab1 {L : List ExceptionTableEntry} {a b c d : Nat} (h : L.map (fun h => (h.startPc, h.endPc, h.handlerPc, h.catchType)) = [(a, b, c, d)]) : L = [⟨a, b, c, d⟩] := by
  match L, h with
  | [x], h =>
    simp only [List.map_cons, List.map_nil, List.cons.injEq, Prod.mk.injEq, and_true] at h
    obtain ⟨rfl, rfl, rfl, rfl⟩ := h
    rfl
theorem eh_tab2 {L : List ExceptionTableEntry} {a b c d a' b' c' d' : Nat} (h : L.map (fun h => (h.startPc, h.endPc, h.handlerPc, h.catchType)) = [(a, b, c, d), (a', b', c', d')]) : L = [⟨a, b, c, d⟩, ⟨a', b', c', d'⟩] := by
  match L, h with
  | [x, x'], h =>
    simp only [List.map_cons, List.map_nil, List.cons.injEq, Prod.mk.injEq, and_true] at h
    obtain ⟨⟨rfl, rfl, rfl, rfl⟩, rfl, rfl, rfl, rfl⟩ := h
    rfl
