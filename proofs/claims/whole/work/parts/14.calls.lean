/-! words that need a care of their own: links between nest mates, declarations, casts of a class to itself -/
def ew_n (U : State) : Prop := va_Nw (Jvm.Cond.methodLinkNest "EarthHauls" (34 : Nat) ({ cls := "EarthHauls$Network", name := "<init>", desc := "()V" } : Jvm.MethodName) "EarthHauls") U ∧ va_Nw (Jvm.Cond.methodLinkNest "EarthHauls" (39 : Nat) ({ cls := "EarthHauls$Section", name := "<init>", desc := "()V" } : Jvm.MethodName) "EarthHauls") U ∧ va_Nw (Jvm.Cond.methodLinkNest "EarthHauls$Section" (9 : Nat) ({ cls := "EarthHauls$Fraction", name := "<init>", desc := "()V" } : Jvm.MethodName) "EarthHauls") U ∧ va_Nw (Jvm.Cond.methodLinkNest "EarthHauls" (40 : Nat) ({ cls := "EarthHauls$Yard", name := "<init>", desc := "()V" } : Jvm.MethodName) "EarthHauls") U ∧ va_Nw (Jvm.Cond.methodLinkNest "EarthHauls$Network" (51 : Nat) ({ cls := "EarthHauls", name := "pairOf", desc := "(II)I" } : Jvm.MethodName) "EarthHauls") U ∧ va_Nw (Jvm.Cond.declares ({ cls := "java/lang/RuntimeException", name := "<init>", desc := "()V" } : Jvm.MethodName)) U ∧ va_Nw (Jvm.Cond.declares ({ cls := "java/lang/RuntimeException", name := "<init>", desc := "(Ljava/lang/String;)V" } : Jvm.MethodName)) U ∧ va_Nw (Jvm.Cond.declares ({ cls := "java/lang/Exception", name := "<init>", desc := "()V" } : Jvm.MethodName)) U ∧ va_Nw (Jvm.Cond.declares ({ cls := "java/lang/Exception", name := "<init>", desc := "(Ljava/lang/String;)V" } : Jvm.MethodName)) U ∧ va_Nw (Jvm.Cond.declares ({ cls := "java/lang/Throwable", name := "<init>", desc := "()V" } : Jvm.MethodName)) U ∧ va_Nw (Jvm.Cond.declares ({ cls := "java/lang/Throwable", name := "<init>", desc := "(Ljava/lang/String;)V" } : Jvm.MethodName)) U ∧ va_Nw (Jvm.Cond.castable "java/lang/IllegalArgumentException" "java/lang/IllegalArgumentException") U ∧ va_Nw (Jvm.Cond.castable "java/lang/IllegalStateException" "java/lang/IllegalStateException") U ∧ va_Nw (Jvm.Cond.castable "java/lang/IndexOutOfBoundsException" "java/lang/IndexOutOfBoundsException") U
theorem ew_n_same {u U : State} (h : u.vm = U.vm) (hN : ew_n u) : ew_n U := by
  unfold ew_n at hN ⊢
  exact ⟨va_Nw.same rfl h hN.1, va_Nw.same rfl h hN.2.1, va_Nw.same rfl h hN.2.2.1, va_Nw.same rfl h hN.2.2.2.1, va_Nw.same rfl h hN.2.2.2.2.1, va_Nw.same rfl h hN.2.2.2.2.2.1, va_Nw.same rfl h hN.2.2.2.2.2.2.1, va_Nw.same rfl h hN.2.2.2.2.2.2.2.1, va_Nw.same rfl h hN.2.2.2.2.2.2.2.2.1, va_Nw.same rfl h hN.2.2.2.2.2.2.2.2.2.1, va_Nw.same rfl h hN.2.2.2.2.2.2.2.2.2.2.1, va_Nw.same rfl h hN.2.2.2.2.2.2.2.2.2.2.2.1, va_Nw.same rfl h hN.2.2.2.2.2.2.2.2.2.2.2.2.1, va_Nw.same rfl h hN.2.2.2.2.2.2.2.2.2.2.2.2.2⟩
theorem ew_n_warm {s U : State} (hW : s.WarmedH U.vm) (hN : ew_n s) : ew_n U := by
  unfold ew_n at hN ⊢
  exact ⟨va_Nw.warmM hW hN.1, va_Nw.warmM hW hN.2.1, va_Nw.warmM hW hN.2.2.1, va_Nw.warmM hW hN.2.2.2.1, va_Nw.warmM hW hN.2.2.2.2.1, va_Nw.warmD hW hN.2.2.2.2.2.1, va_Nw.warmD hW hN.2.2.2.2.2.2.1, va_Nw.warmD hW hN.2.2.2.2.2.2.2.1, va_Nw.warmD hW hN.2.2.2.2.2.2.2.2.1, va_Nw.warmD hW hN.2.2.2.2.2.2.2.2.2.1, va_Nw.warmD hW hN.2.2.2.2.2.2.2.2.2.2.1, va_Nw.warmC hW hN.2.2.2.2.2.2.2.2.2.2.2.1, va_Nw.warmC hW hN.2.2.2.2.2.2.2.2.2.2.2.2.1, va_Nw.warmC hW hN.2.2.2.2.2.2.2.2.2.2.2.2.2⟩
theorem ew_n_0 {U : State} (hN : ew_n U) : va_Nw (Jvm.Cond.methodLinkNest "EarthHauls" (34 : Nat) ({ cls := "EarthHauls$Network", name := "<init>", desc := "()V" } : Jvm.MethodName) "EarthHauls") U := hN.1
theorem ew_n_1 {U : State} (hN : ew_n U) : va_Nw (Jvm.Cond.methodLinkNest "EarthHauls" (39 : Nat) ({ cls := "EarthHauls$Section", name := "<init>", desc := "()V" } : Jvm.MethodName) "EarthHauls") U := hN.2.1
theorem ew_n_2 {U : State} (hN : ew_n U) : va_Nw (Jvm.Cond.methodLinkNest "EarthHauls$Section" (9 : Nat) ({ cls := "EarthHauls$Fraction", name := "<init>", desc := "()V" } : Jvm.MethodName) "EarthHauls") U := hN.2.2.1
theorem ew_n_3 {U : State} (hN : ew_n U) : va_Nw (Jvm.Cond.methodLinkNest "EarthHauls" (40 : Nat) ({ cls := "EarthHauls$Yard", name := "<init>", desc := "()V" } : Jvm.MethodName) "EarthHauls") U := hN.2.2.2.1
theorem ew_n_4 {U : State} (hN : ew_n U) : va_Nw (Jvm.Cond.methodLinkNest "EarthHauls$Network" (51 : Nat) ({ cls := "EarthHauls", name := "pairOf", desc := "(II)I" } : Jvm.MethodName) "EarthHauls") U := hN.2.2.2.2.1
theorem ew_n_5 {U : State} (hN : ew_n U) : va_Nw (Jvm.Cond.declares ({ cls := "java/lang/RuntimeException", name := "<init>", desc := "()V" } : Jvm.MethodName)) U := hN.2.2.2.2.2.1
theorem ew_n_6 {U : State} (hN : ew_n U) : va_Nw (Jvm.Cond.declares ({ cls := "java/lang/RuntimeException", name := "<init>", desc := "(Ljava/lang/String;)V" } : Jvm.MethodName)) U := hN.2.2.2.2.2.2.1
theorem ew_n_7 {U : State} (hN : ew_n U) : va_Nw (Jvm.Cond.declares ({ cls := "java/lang/Exception", name := "<init>", desc := "()V" } : Jvm.MethodName)) U := hN.2.2.2.2.2.2.2.1
theorem ew_n_8 {U : State} (hN : ew_n U) : va_Nw (Jvm.Cond.declares ({ cls := "java/lang/Exception", name := "<init>", desc := "(Ljava/lang/String;)V" } : Jvm.MethodName)) U := hN.2.2.2.2.2.2.2.2.1
theorem ew_n_9 {U : State} (hN : ew_n U) : va_Nw (Jvm.Cond.declares ({ cls := "java/lang/Throwable", name := "<init>", desc := "()V" } : Jvm.MethodName)) U := hN.2.2.2.2.2.2.2.2.2.1
theorem ew_n_10 {U : State} (hN : ew_n U) : va_Nw (Jvm.Cond.declares ({ cls := "java/lang/Throwable", name := "<init>", desc := "(Ljava/lang/String;)V" } : Jvm.MethodName)) U := hN.2.2.2.2.2.2.2.2.2.2.1
theorem ew_n_11 {U : State} (hN : ew_n U) : va_Nw (Jvm.Cond.castable "java/lang/IllegalArgumentException" "java/lang/IllegalArgumentException") U := hN.2.2.2.2.2.2.2.2.2.2.2.1
theorem ew_n_12 {U : State} (hN : ew_n U) : va_Nw (Jvm.Cond.castable "java/lang/IllegalStateException" "java/lang/IllegalStateException") U := hN.2.2.2.2.2.2.2.2.2.2.2.2.1
theorem ew_n_13 {U : State} (hN : ew_n U) : va_Nw (Jvm.Cond.castable "java/lang/IndexOutOfBoundsException" "java/lang/IndexOutOfBoundsException") U := hN.2.2.2.2.2.2.2.2.2.2.2.2.2
/-! contracts and calls: readers (nothing changes) and writers (their cells change) -/
abbrev eh_rm0 (fr lo : Nat) : Room := { frames := fr, cells := 0, slots := 0, locals := lo }
/-- a method that only reads: where the cells ws stand it answers v -/
def eh_R (l : Launch) (y : MethodName) (cw : Cond) (fr lo : Nat) (D : va_G) (cl : List vw_C) (tys : List (ClassId × FieldType)) (av : List Value) (ws : va_W) (v : Value) : Prop :=
  Met l y (cw :: ew_t) (eh_rm0 fr lo) (va_Pc av (fun U => va_P D cl ws U.heap ∧ va_K D cl tys U ∧ ew_n U)) (fun _ st o t => o = .returned (some v) ∧ t.heap = st.heap) 0 0 (fun _ => False)
/-- a method that changes the cells ws into W u, where u is as post says; ov: what it answers -/
def eh_M {S : Type} (l : Launch) (y : MethodName) (cw : Cond) (fr lo : Nat) (D : va_G) (cl : List vw_C) (tys : List (ClassId × FieldType)) (av : List Value) (ws : va_W) (post : S → Prop) (ov : S → Option Value) (Wn : S → va_W) : Prop :=
  ∀ sz : Nat, Met l y (cw :: ew_t) (eh_rm0 fr lo) (va_Pc av (fun U => U.heap.size = sz ∧ va_P D cl ws U.heap ∧ va_K D cl tys U ∧ va_D (fun _ => True) ws ∧ ew_n U))
    (fun _ st o t => (∃ u : S, o = .returned (ov u) ∧ post u ∧ va_P D cl (Wn u) t.heap ∧ va_D (va_A ws sz) (Wn u)) ∧ va_F (va_A ws sz) st t) 0 0 (va_A ws sz)

section
variable {p : Program} {l : Launch} {e : Env} {R : Room} {s : State} {m : MethodId} {args : Array Value} {below : List Frame} {meth : Method} {c : Code} {H : Heap} {locs : List Loc} {cells slots : Nat} {Q : State → Prop}
variable {cc : ByteArray} {pc : Nat} {ls : Array Slot} {rest st : List Value} {D : va_G} {cl : List vw_C} {A : Nat → Prop} {b : Nat} {tys tys' : List (ClassId × FieldType)} {ws wc : va_W} {H0 : Heap}
variable {own C : String} {index maxL nL fr lo qb ci : Nat} {y : MethodName} {bytes : ByteArray} {ret : Option FieldType} {As : List Value} {v : Value} {q : vw_C} {fs : List Value}

theorem eh_blR {av : List Value} : FrameBlind (va_Pc av (fun U => va_P D cl ws U.heap ∧ va_K D cl tys U ∧ ew_n U)) := by
  intro a U g mk h
  obtain ⟨h0, h1, h2, h3⟩ := h
  exact ⟨h0, h1, va_K.moved (u := U) (U := U.calling g mk a) (Vm.Alike.refl U.vm) h2, ew_n_same (u := U) rfl h3⟩
theorem eh_blM {av : List Value} {sz : Nat} : FrameBlind (va_Pc av (fun U => U.heap.size = sz ∧ va_P D cl ws U.heap ∧ va_K D cl tys U ∧ va_D (fun _ => True) ws ∧ ew_n U)) := by
  intro a U g mk h
  obtain ⟨h0, h1, h2, h3, h4, h5⟩ := h
  exact ⟨h0, h1, h2, va_K.moved (u := U) (U := U.calling g mk a) (Vm.Alike.refl U.vm) h3, h4, ew_n_same (u := U) rfl h5⟩

/-- the words of a call by invokevirtual -/
def eh_wV (own : String) (index : Nat) (C : String) (y : MethodName) (cw : Cond) : Prop :=
  Cond.methodLink own index y ∈ ew_t ∧ Cond.instanceMethod y ∈ ew_t ∧ Cond.selects C y y ∈ ew_t ∧ Cond.initialized C ∈ ew_t ∧ cw ∈ ew_t
theorem eh_wV_ok {cw : Cond} (h : eh_wV own index C y cw) : GoodIn ew_t (wsV own index C y (cw :: ew_t)) := by
  apply ew_good
  intro w hw
  unfold wsV at hw
  rcases List.mem_append.mp hw with h1 | h1
  · simp only [List.mem_cons, List.not_mem_nil, or_false] at h1
    rcases h1 with rfl | rfl | rfl | rfl
    · exact h.1
    · exact h.2.1
    · exact h.2.2.1
    · exact h.2.2.2.1
  · rcases List.mem_cons.mp h1 with rfl | h1
    · exact h.2.2.2.2
    · exact h1
def eh_wS (own : String) (index : Nat) (y : MethodName) (cw : Cond) : Prop :=
  Cond.methodLink own index y ∈ ew_t ∧ Cond.static y ∈ ew_t ∧ Cond.initialized y.cls ∈ ew_t ∧ cw ∈ ew_t

def eh_dV (y : MethodName) (C : String) (n : Nat) : Prop := y.cls = C ∧ y.cls ≠ "java/lang/invoke/MethodHandle" ∧ y.cls ≠ "java/lang/invoke/VarHandle" ∧ (parseMethodDescriptor y.desc).map (fun d => d.parameters.length) = some n
def eh_dS (y : MethodName) (n : Nat) : Prop := y.cls ≠ "java/lang/invoke/MethodHandle" ∧ y.cls ≠ "java/lang/invoke/VarHandle" ∧ (parseMethodDescriptor y.desc).map (fun d => d.parameters.length) = some n

theorem eh_goS (n : Nat) (htb : ∀ w ∈ ew_t, w.before args s = true) (hw : eh_wS own index y (.code y bytes maxL ret)) (hd : eh_dS y n) (hR : fr + 1 ≤ R.frames ∧ 8 + (maxL + 11) + lo ≤ R.locals) :
    CallB R s args own index y bytes maxL ret (.code y bytes maxL ret :: ew_t) (eh_rm0 fr lo) 0 0 n ∧ (Cond.static y).before args s = true :=
  ⟨callB_of n htb (ew_good (fun w h => (List.mem_cons.mp h).elim (fun e => e ▸ hw.2.2.2) id)) rfl rfl rfl (htb _ hw.2.2.1) (htb _ hw.1) hd hR, htb _ hw.2.1⟩

/-- a reader called by invokevirtual -/
theorem eh_cRV (hexec : p.tables.exec = Jvm.exec) (hb : c.code = cc) (hml : c.maxLocals = nL) (hown : s.vm.findClass own = some m.cls) (htb : ∀ w ∈ ew_t, w.before args s = true) (hN : ew_n s)
    (hM : eh_R l y (.code y bytes maxL ret) fr lo D cl tys' (.ref b :: As) wc v) (n : Nat) (hw : eh_wV own index q.1 y (.code y bytes maxL ret)) (hd : eh_dV y q.1 n)
    (hR : fr + 1 ≤ R.frames ∧ 8 + (maxL + 11) + lo ≤ R.locals) (hK : va_K D cl tys s) (hP : va_P D cl ws H) (qb : Nat) (hbC : ws[qb]? = some (b, .inr (ci, fs))) (hc : cl[ci]? = some q)
    (isC : List Nat) (hC : isC.filterMap (fun i => ws[i]?) = wc) (isT : List Nat) (hT : isT.filterMap (fun i => tys[i]?) = tys')
    (hst : st = As.reverse ++ .ref b :: rest) (hn : As.length = n) (hsz : ls.size = nL) (hWd : (rest.map fun v => v.category).sum ≤ 8)
    (hdg : decode cc pc = .ok (.invokevirtual index, 3)) (hf : cells ≤ R.cells ∧ slots ≤ R.slots)
    (kk : W p l e R s m args below meth c H locs cells slots Q (F0 m (pc + 3) ls (v :: rest))) : W p l e R s m args below meth c H locs cells slots Q (F0 m pc ls st) := by
  have hPc := hP.sub isC hC
  have hKc := hK.sub isT hT
  have hr := va_runV (e := e) (below := below) (meth := meth) (rest := rest) (g := F0 m pc ls st) (H := H) (locs := locs) (cells := cells) (slots := slots) ⟨hexec, hb, hml, hown, htb⟩ hM (cwV n htb (eh_wV_ok hw) rfl rfl rfl hd hR)
    ⟨eh_blR, va_recv hK hP hc hbC, fun U hU hW => ⟨rfl, by rw [hU]; exact hPc, va_K.moved hW.alike hKc, ew_n_warm hW hN⟩⟩ rfl hn hsz (by subst hst; rfl) (lv_room hWd) hdg hf
  intro T hT' X
  obtain ⟨v', st₀, t, T', L, h0, X', hL, e1, e2, ⟨hv, hh⟩, stp⟩ := hr T hT' X
  cases hv
  obtain ⟨t2, a1, b1⟩ := kk T' (by rw [e1, hh, h0]) (Stand.forget X' (fun q h => (hL q h).elim))
  exact ⟨t2, stp t2 a1, b1⟩

/-- a reader called by invokestatic -/
theorem eh_cRS (hexec : p.tables.exec = Jvm.exec) (hb : c.code = cc) (hml : c.maxLocals = nL) (hown : s.vm.findClass own = some m.cls) (htb : ∀ w ∈ ew_t, w.before args s = true) (hN : ew_n s)
    (hM : eh_R l y (.code y bytes maxL ret) fr lo D cl tys' As wc v) (n : Nat) (hw : eh_wS own index y (.code y bytes maxL ret)) (hd : eh_dS y n)
    (hR : fr + 1 ≤ R.frames ∧ 8 + (maxL + 11) + lo ≤ R.locals) (hK : va_K D cl tys s) (hP : va_P D cl ws H)
    (isC : List Nat) (hC : isC.filterMap (fun i => ws[i]?) = wc) (isT : List Nat) (hT : isT.filterMap (fun i => tys[i]?) = tys')
    (hst : st = As.reverse ++ rest) (hn : As.length = n) (hsz : ls.size = nL) (hWd : (rest.map fun v => v.category).sum ≤ 8)
    (hdg : decode cc pc = .ok (.invokestatic index, 3)) (hf : cells ≤ R.cells ∧ slots ≤ R.slots)
    (kk : W p l e R s m args below meth c H locs cells slots Q (F0 m (pc + 3) ls (v :: rest))) : W p l e R s m args below meth c H locs cells slots Q (F0 m pc ls st) := by
  have hPc := hP.sub isC hC
  have hKc := hK.sub isT hT
  have hr := va_runS (e := e) (below := below) (meth := meth) (rest := rest) (g := F0 m pc ls st) (H := H) (locs := locs) (cells := cells) (slots := slots) ⟨hexec, hb, hml, hown, htb⟩ hM (eh_goS n htb hw hd hR)
    ⟨eh_blR, fun U hU hW => ⟨rfl, by rw [hU]; exact hPc, va_K.moved hW.alike hKc, ew_n_warm hW hN⟩⟩ rfl hn hsz (by subst hst; rfl) (lv_room hWd) hdg hf
  intro T hT' X
  obtain ⟨v', st₀, t, T', L, h0, X', hL, e1, e2, ⟨hv, hh⟩, stp⟩ := hr T hT' X
  cases hv
  obtain ⟨t2, a1, b1⟩ := kk T' (by rw [e1, hh, h0]) (Stand.forget X' (fun q h => (hL q h).elim))
  exact ⟨t2, stp t2 a1, b1⟩

/-- a reader of a nest mate called by invokestatic -/
theorem eh_cRSN {host : String} (hexec : p.tables.exec = Jvm.exec) (hb : c.code = cc) (hml : c.maxLocals = nL) (hown : s.vm.findClass own = some m.cls) (htb : ∀ w ∈ ew_t, w.before args s = true) (hN : ew_n s)
    (hM : eh_R l y (.code y bytes maxL ret) fr lo D cl tys' As wc v) (n : Nat) (hlk : va_Nw (.methodLinkNest own index y host) s) (hsw : Cond.static y ∈ ew_t) (hiw : Cond.initialized y.cls ∈ ew_t) (hcw : Cond.code y bytes maxL ret ∈ ew_t) (hd : eh_dS y n)
    (hR : fr + 1 ≤ R.frames ∧ 8 + (maxL + 11) + lo ≤ R.locals) (hK : va_K D cl tys s) (hP : va_P D cl ws H)
    (isC : List Nat) (hC : isC.filterMap (fun i => ws[i]?) = wc) (isT : List Nat) (hT : isT.filterMap (fun i => tys[i]?) = tys')
    (hst : st = As.reverse ++ rest) (hn : As.length = n) (hsz : ls.size = nL) (hWd : (rest.map fun v => v.category).sum ≤ 8)
    (hdg : decode cc pc = .ok (.invokestatic index, 3)) (hf : cells ≤ R.cells ∧ slots ≤ R.slots)
    (kk : W p l e R s m args below meth c H locs cells slots Q (F0 m (pc + 3) ls (v :: rest))) : W p l e R s m args below meth c H locs cells slots Q (F0 m pc ls st) := by
  have hPc := hP.sub isC hC
  have hKc := hK.sub isT hT
  have hr := va_runSN (e := e) (below := below) (meth := meth) (rest := rest) (g := F0 m pc ls st) (H := H) (locs := locs) (cells := cells) (slots := slots) ⟨hexec, hb, hml, hown, htb⟩ hM
    ⟨va_cnB n htb (ew_good (fun w h => (List.mem_cons.mp h).elim (fun e => e ▸ hcw) id)) rfl rfl rfl hlk (htb _ hiw) hd hR, htb _ hsw, trivial⟩
    ⟨eh_blR, fun U hU hW => ⟨rfl, by rw [hU]; exact hPc, va_K.moved hW.alike hKc, ew_n_warm hW hN⟩⟩ rfl hn hsz (by subst hst; rfl) (lv_room hWd) hdg hf
  intro T hT' X
  obtain ⟨v', st₀, t, T', L, h0, X', hL, e1, e2, ⟨hv, hh⟩, stp⟩ := hr T hT' X
  cases hv
  obtain ⟨t2, a1, b1⟩ := kk T' (by rw [e1, hh, h0]) (Stand.forget X' (fun q h => (hL q h).elim))
  exact ⟨t2, stp t2 a1, b1⟩

section
variable {S : Type} {post : S → Prop} {ov : S → Option Value} {Wn : S → va_W} {wr : va_W}

theorem eh_afterM {av : Array Value} (hr : va_Run p l e R s m args below meth c H locs cells slots 0 0 (F0 m pc ls st) rest (fun st o t => (∃ u : S, o = .returned (ov u) ∧ post u ∧ va_P D cl (Wn u) t.heap ∧ va_D (va_A wc H.size) (Wn u)) ∧ va_F (va_A wc H.size) st t) (va_A wc H.size))
    (hP : va_P D cl ws H) (hD : va_D A ws) (hS : va_S A H0 H locs) (hA : ∀ q, H0.size ≤ q → A q) (isC isR : List Nat) (hC : isC.map (fun i => ws[i]?) = wc.map some) (hR : isR.map (fun i => ws[i]?) = wr.map some) (hnd : va_nd isR = true) (hdis : ∀ i ∈ isR, i ∉ isC)
    (kk : ∀ (u : S) (H1 : Heap) (locs1 : List Loc), post u → va_P D cl (wr ++ Wn u) H1 → va_D A (wr ++ Wn u) → va_S A H0 H1 locs1 → W p l e R s m args below meth c H1 locs1 cells slots Q (F0 m (pc + 3) ls ((ov u).toList ++ rest))) : W p l e R s m args below meth c H locs cells slots Q (F0 m pc ls st) := by
  have hFc := va_free hD hS hA isC hC
  intro T hT X
  obtain ⟨v, st₀, t, T', L, h0, X', hL, e1, e2, ⟨⟨u, hv, hp, hB, hB2⟩, hz, hk⟩, stp⟩ := hr T hT X
  have hv' : v = ov u := by injection hv
  subst hv'
  rw [h0] at hz hk
  have hk1 : ∀ q : Nat, q < H.size → ¬ va_A wc H.size q → T'.heap[q]? = H[q]? := fun q h1 h2 => by rw [e1]; exact hk q h1 h2
  obtain ⟨j1, j2⟩ := va_join (wr := wr) (w1 := Wn u) (H1 := T'.heap) hP hD isC isR hC hR hnd hdis hk1 hFc (by rw [e1]; exact hB) hB2
  obtain ⟨t2, a1, b1⟩ := kk u T'.heap (locs ++ L) hp j1 j2
    ⟨Nat.le_trans hS.1 (by rw [e1]; exact hz), fun q h1 h2 => by rw [hk1 q (Nat.lt_of_lt_of_le h1 hS.1) (fun z => h2 (hFc q z))]; exact hS.2.1 q h1 h2, fun q hq => by
      rcases List.mem_append.mp hq with h | h
      · exact hS.2.2 q h
      · exact hFc _ (hL q h)⟩ T' rfl X'
  exact ⟨t2, stp t2 a1, b1⟩

/-- a writer called by invokevirtual -/
theorem eh_cMV (hexec : p.tables.exec = Jvm.exec) (hb : c.code = cc) (hml : c.maxLocals = nL) (hown : s.vm.findClass own = some m.cls) (htb : ∀ w ∈ ew_t, w.before args s = true) (hN : ew_n s)
    (hM : eh_M l y (.code y bytes maxL ret) fr lo D cl tys' (.ref b :: As) wc post ov Wn) (n : Nat) (hw : eh_wV own index q.1 y (.code y bytes maxL ret)) (hd : eh_dV y q.1 n)
    (hR : fr + 1 ≤ R.frames ∧ 8 + (maxL + 11) + lo ≤ R.locals) (hK : va_K D cl tys s) (hP : va_P D cl ws H) (hD : va_D A ws) (hS : va_S A H0 H locs) (hA : ∀ q, H0.size ≤ q → A q) (qb : Nat) (hbC : ws[qb]? = some (b, .inr (ci, fs))) (hc : cl[ci]? = some q)
    (isC isR : List Nat) (hC : isC.map (fun i => ws[i]?) = wc.map some) (hC1 : isC.filterMap (fun i => ws[i]?) = wc) (hCn : va_nd isC = true) (hRr : isR.map (fun i => ws[i]?) = wr.map some) (hnd : va_nd isR = true) (hdis : ∀ i ∈ isR, i ∉ isC)
    (isT : List Nat) (hT : isT.filterMap (fun i => tys[i]?) = tys')
    (hst : st = As.reverse ++ .ref b :: rest) (hn : As.length = n) (hsz : ls.size = nL) (hWd : (rest.map fun v => v.category).sum ≤ 8)
    (hdg : decode cc pc = .ok (.invokevirtual index, 3)) (hf : cells ≤ R.cells ∧ slots ≤ R.slots)
    (kk : ∀ (u : S) (H1 : Heap) (locs1 : List Loc), post u → va_P D cl (wr ++ Wn u) H1 → va_D A (wr ++ Wn u) → va_S A H0 H1 locs1 → W p l e R s m args below meth c H1 locs1 cells slots Q (F0 m (pc + 3) ls ((ov u).toList ++ rest))) : W p l e R s m args below meth c H locs cells slots Q (F0 m pc ls st) := by
  have hPc := hP.sub isC hC1
  have hDc := hD.sub (ws' := wc) isC hCn hC
  have hKc := hK.sub isT hT
  have hr := va_runV (e := e) (below := below) (meth := meth) (rest := rest) (g := F0 m pc ls st) (H := H) (locs := locs) (cells := cells) (slots := slots) ⟨hexec, hb, hml, hown, htb⟩ (hM H.size) (cwV n htb (eh_wV_ok hw) rfl rfl rfl hd hR)
    ⟨eh_blM, va_recv hK hP hc hbC, fun U hU hW => ⟨rfl, by rw [hU], by rw [hU]; exact hPc, va_K.moved hW.alike hKc, hDc.weaken (fun _ _ _ _ => trivial), ew_n_warm hW hN⟩⟩ rfl hn hsz (by subst hst; rfl) (lv_room hWd) hdg hf
  exact eh_afterM (av := #[]) hr hP hD hS hA isC isR hC hRr hnd hdis kk

/-- a writer called by invokestatic -/
theorem eh_cMS (hexec : p.tables.exec = Jvm.exec) (hb : c.code = cc) (hml : c.maxLocals = nL) (hown : s.vm.findClass own = some m.cls) (htb : ∀ w ∈ ew_t, w.before args s = true) (hN : ew_n s)
    (hM : eh_M l y (.code y bytes maxL ret) fr lo D cl tys' As wc post ov Wn) (n : Nat) (hw : eh_wS own index y (.code y bytes maxL ret)) (hd : eh_dS y n)
    (hR : fr + 1 ≤ R.frames ∧ 8 + (maxL + 11) + lo ≤ R.locals) (hK : va_K D cl tys s) (hP : va_P D cl ws H) (hD : va_D A ws) (hS : va_S A H0 H locs) (hA : ∀ q, H0.size ≤ q → A q)
    (isC isR : List Nat) (hC : isC.map (fun i => ws[i]?) = wc.map some) (hC1 : isC.filterMap (fun i => ws[i]?) = wc) (hCn : va_nd isC = true) (hRr : isR.map (fun i => ws[i]?) = wr.map some) (hnd : va_nd isR = true) (hdis : ∀ i ∈ isR, i ∉ isC)
    (isT : List Nat) (hT : isT.filterMap (fun i => tys[i]?) = tys')
    (hst : st = As.reverse ++ rest) (hn : As.length = n) (hsz : ls.size = nL) (hWd : (rest.map fun v => v.category).sum ≤ 8)
    (hdg : decode cc pc = .ok (.invokestatic index, 3)) (hf : cells ≤ R.cells ∧ slots ≤ R.slots)
    (kk : ∀ (u : S) (H1 : Heap) (locs1 : List Loc), post u → va_P D cl (wr ++ Wn u) H1 → va_D A (wr ++ Wn u) → va_S A H0 H1 locs1 → W p l e R s m args below meth c H1 locs1 cells slots Q (F0 m (pc + 3) ls ((ov u).toList ++ rest))) : W p l e R s m args below meth c H locs cells slots Q (F0 m pc ls st) := by
  have hPc := hP.sub isC hC1
  have hDc := hD.sub (ws' := wc) isC hCn hC
  have hKc := hK.sub isT hT
  have hr := va_runS (e := e) (below := below) (meth := meth) (rest := rest) (g := F0 m pc ls st) (H := H) (locs := locs) (cells := cells) (slots := slots) ⟨hexec, hb, hml, hown, htb⟩ (hM H.size) (eh_goS n htb hw hd hR)
    ⟨eh_blM, fun U hU hW => ⟨rfl, by rw [hU], by rw [hU]; exact hPc, va_K.moved hW.alike hKc, hDc.weaken (fun _ _ _ _ => trivial), ew_n_warm hW hN⟩⟩ rfl hn hsz (by subst hst; rfl) (lv_room hWd) hdg hf
  exact eh_afterM (av := #[]) hr hP hD hS hA isC isR hC hRr hnd hdis kk

end
end
