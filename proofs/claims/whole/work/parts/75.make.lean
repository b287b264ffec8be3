/-! what makes cells: arrays, objects, constructors -/
def eh_ao (U : State) : Prop := va_AO "EarthHauls$Section" U ∧ va_AO "EarthHauls$Yard" U
theorem eh_ao_moved {u U : State} (h : u.vm.Alike U.vm) (hA : eh_ao u) : eh_ao U := ⟨hA.1.moved h, hA.2.moved h⟩
/-- the list's numbers as a function -/
def eh_lf (L : List Nat) (i : Nat) : Nat := L.getD i 0

theorem eI_zz : (0 : Int32) = eI 0 := by decide
theorem eL_zz : (0 : Int64) = eL 0 := by decide
theorem eh_dv_int (N : Nat) (cA : ClassId) : vp_cell cA (N, .inl (fun _ => eI 0)) = arrV cA N (fun _ => defaultValue .int) := by
  rw [← eI_zz]
  rfl
theorem eh_dv_boolean (N : Nat) (cA : ClassId) : vp_cell cA (N, .inl (fun _ => eI 0)) = arrV cA N (fun _ => defaultValue .boolean) := by
  rw [← eI_zz]
  rfl
theorem eh_dv_long (N : Nat) (cA : ClassId) : vp_cell cA (N, .inr (.inl (fun _ => eL 0))) = arrV cA N (fun _ => defaultValue .long) := by
  rw [← eL_zz]
  rfl
theorem eh_cb_int {N : Nat} (hN : N < 100000) : N * componentBytes .int ≤ 536870912 := by
  have e : componentBytes .int = 4 := rfl
  rw [e]; omega
theorem eh_cb_boolean {N : Nat} (hN : N < 100000) : N * componentBytes .boolean ≤ 536870912 := by
  have e : componentBytes .boolean = 1 := rfl
  rw [e]; omega
theorem eh_cb_long {N : Nat} (hN : N < 100000) : N * componentBytes .long ≤ 536870912 := by
  have e : componentBytes .long = 8 := rfl
  rw [e]; omega
theorem eh_ra_x {o : Option ClassId} {a b : ClassId} (h1 : o = some a) (h2 : o = some b) : a = b := Option.some.inj (h1.symm.trans h2)
theorem eh_ra_int {s : State} {a b : ClassId} (h1 : va_RA s a .int) (h2 : va_RA s b .int) : a = b := by
  unfold va_RA at h1 h2
  exact eh_ra_x h1 h2
theorem eh_ra_boolean {s : State} {a b : ClassId} (h1 : va_RA s a .boolean) (h2 : va_RA s b .boolean) : a = b := by
  unfold va_RA at h1 h2
  exact eh_ra_x h1 h2
theorem eh_ra_long {s : State} {a b : ClassId} (h1 : va_RA s a .long) (h2 : va_RA s b .long) : a = b := by
  unfold va_RA at h1 h2
  exact eh_ra_x h1 h2

section
variable {p : Program} {l : Launch} {e : Env} {R : Room} {s : State} {m : MethodId} {args : Array Value} {below : List Frame} {meth : Method} {c : Code} {H : Heap} {locs : List Loc} {cells slots : Nat} {Q : State → Prop}
variable {cc : ByteArray} {pc : Nat} {ls : Array Slot} {rest st : List Value} {D : va_G} {cl : List vw_C} {A : Nat → Prop} {b : Nat} {tys tys' : List (ClassId × FieldType)} {ws wc : va_W} {H0 : Heap}
variable {own C : String} {index maxL nL fr lo qb ci mc ms : Nat} {y : MethodName} {bytes : ByteArray} {As : List Value} {q : vw_C} {fs : List Value} {cA : ClassId}

theorem we_clN {N : Nat} (hN : N < 100000) : (¬ eI (N : Int) < 0) ∧ (eI (N : Int)).toNatClampNeg = N := by
  have hi : eh_i (N : Int) := ⟨by omega, by omega⟩
  refine ⟨fun z => ?_, by rw [eI_cl hi]; omega⟩
  rw [Int32.lt_iff_toInt_lt, eI_t hi] at z
  have : (0 : Int32).toInt = 0 := rfl
  omega
set_option maxHeartbeats 100000 in
theorem we_newaI (hexec : p.tables.exec = Jvm.exec) (hb : c.code = cc) (harr : (Cond.arrayClass .int).before args s = true) (hK : va_K D cl tys s) (t0 : Nat) (ht : tys[t0]? = some (cA, .int)) (hP : va_P D cl ws H) (hD : va_D A ws) (hS : va_S A H0 H locs) (hA : ∀ q, H0.size ≤ q → A q)
    (N : Nat) (hN : N < 100000) (hcells : cells + 1 ≤ R.cells) (hslots : slots + N ≤ R.slots) (hdg : decode cc pc = .ok (.newarray .int, 2))
    (kk : ∀ (q : Nat) (H1 : Heap), va_P D cl (ws ++ [(q, aI cA N (fun _ => 0))]) H1 → va_D A (ws ++ [(q, aI cA N (fun _ => 0))]) → va_S A H0 H1 locs → W p l e R s m args below meth c H1 locs (cells + 1) (slots + N) Q (F0 m (pc + 2) ls (.ref q :: rest))) :
    W p l e R s m args below meth c H locs cells slots Q (F0 m pc ls (.int (eI (N : Int)) :: rest)) := by
  obtain ⟨h1, h2⟩ := we_clN hN
  refine va_newa (atype := .int) (ty := .int) (a0 := (N, .inl (fun _ => eI 0))) hexec hb harr rfl hK hP hD hS hA (eh_dv_int N) h1 h2 (eh_cb_int hN) hcells hslots hdg (fun q cB H1 hK' hP' hD' hS' => ?_)
  have z1 : va_RA s cB .int := (hK'.2 tys.length (cB, .int) (by simp)).2
  have z2 : va_RA s cA .int := (hK.2 t0 _ ht).2
  have e9 : cB = cA := eh_ra_int z1 z2
  subst e9
  exact kk q H1 hP' hD' hS'
set_option maxHeartbeats 100000 in
theorem we_newaZ (hexec : p.tables.exec = Jvm.exec) (hb : c.code = cc) (harr : (Cond.arrayClass .boolean).before args s = true) (hK : va_K D cl tys s) (t0 : Nat) (ht : tys[t0]? = some (cA, .boolean)) (hP : va_P D cl ws H) (hD : va_D A ws) (hS : va_S A H0 H locs) (hA : ∀ q, H0.size ≤ q → A q)
    (N : Nat) (hN : N < 100000) (hcells : cells + 1 ≤ R.cells) (hslots : slots + N ≤ R.slots) (hdg : decode cc pc = .ok (.newarray .boolean, 2))
    (kk : ∀ (q : Nat) (H1 : Heap), va_P D cl (ws ++ [(q, aI cA N (fun _ => 0))]) H1 → va_D A (ws ++ [(q, aI cA N (fun _ => 0))]) → va_S A H0 H1 locs → W p l e R s m args below meth c H1 locs (cells + 1) (slots + N) Q (F0 m (pc + 2) ls (.ref q :: rest))) :
    W p l e R s m args below meth c H locs cells slots Q (F0 m pc ls (.int (eI (N : Int)) :: rest)) := by
  obtain ⟨h1, h2⟩ := we_clN hN
  refine va_newa (atype := .boolean) (ty := .boolean) (a0 := (N, .inl (fun _ => eI 0))) hexec hb harr rfl hK hP hD hS hA (eh_dv_boolean N) h1 h2 (eh_cb_boolean hN) hcells hslots hdg (fun q cB H1 hK' hP' hD' hS' => ?_)
  have z1 : va_RA s cB .boolean := (hK'.2 tys.length (cB, .boolean) (by simp)).2
  have z2 : va_RA s cA .boolean := (hK.2 t0 _ ht).2
  have e9 : cB = cA := eh_ra_boolean z1 z2
  subst e9
  exact kk q H1 hP' hD' hS'
set_option maxHeartbeats 100000 in
theorem we_newaL (hexec : p.tables.exec = Jvm.exec) (hb : c.code = cc) (harr : (Cond.arrayClass .long).before args s = true) (hK : va_K D cl tys s) (t0 : Nat) (ht : tys[t0]? = some (cA, .long)) (hP : va_P D cl ws H) (hD : va_D A ws) (hS : va_S A H0 H locs) (hA : ∀ q, H0.size ≤ q → A q)
    (N : Nat) (hN : N < 100000) (hcells : cells + 1 ≤ R.cells) (hslots : slots + N ≤ R.slots) (hdg : decode cc pc = .ok (.newarray .long, 2))
    (kk : ∀ (q : Nat) (H1 : Heap), va_P D cl (ws ++ [(q, aL cA N (fun _ => 0))]) H1 → va_D A (ws ++ [(q, aL cA N (fun _ => 0))]) → va_S A H0 H1 locs → W p l e R s m args below meth c H1 locs (cells + 1) (slots + N) Q (F0 m (pc + 2) ls (.ref q :: rest))) :
    W p l e R s m args below meth c H locs cells slots Q (F0 m pc ls (.int (eI (N : Int)) :: rest)) := by
  obtain ⟨h1, h2⟩ := we_clN hN
  refine va_newa (atype := .long) (ty := .long) (a0 := (N, .inr (.inl (fun _ => eL 0)))) hexec hb harr rfl hK hP hD hS hA (eh_dv_long N) h1 h2 (eh_cb_long hN) hcells hslots hdg (fun q cB H1 hK' hP' hD' hS' => ?_)
  have z1 : va_RA s cB .long := (hK'.2 tys.length (cB, .long) (by simp)).2
  have z2 : va_RA s cA .long := (hK.2 t0 _ ht).2
  have e9 : cB = cA := eh_ra_long z1 z2
  subst e9
  exact kk q H1 hP' hD' hS'
theorem we_newaR (hexec : p.tables.exec = Jvm.exec) (hb : c.code = cc) (hown : s.vm.findClass own = some m.cls) (hclink : (Cond.classLink own index C).before args s = true) (hover : va_AO C s) (hK : va_K D cl tys s) (t0 : Nat) (ht : tys[t0]? = some (cA, .object C)) (hP : va_P D cl ws H) (hD : va_D A ws) (hS : va_S A H0 H locs) (hA : ∀ q, H0.size ≤ q → A q)
    (N : Nat) (hN : N < 100000) (hcells : cells + 1 ≤ R.cells) (hslots : slots + N ≤ R.slots) (hdg : decode cc pc = .ok (.anewarray index, 3))
    (kk : ∀ (q : Nat) (H1 : Heap), va_P D cl (ws ++ [(q, .inl (cA, N, .inr (.inr (.inr (.inr (fun _ => none))))))]) H1 → va_D A (ws ++ [(q, .inl (cA, N, .inr (.inr (.inr (.inr (fun _ => none))))))]) → va_S A H0 H1 locs → W p l e R s m args below meth c H1 locs (cells + 1) (slots + N) Q (F0 m (pc + 3) ls (.ref q :: rest))) :
    W p l e R s m args below meth c H locs cells slots Q (F0 m pc ls (.int (eI (N : Int)) :: rest)) := by
  obtain ⟨h1, h2⟩ := we_clN hN
  refine va_newq hexec hb hown hclink hover hK hP hD hS hA h1 h2 (by omega) hcells hslots hdg (fun q cB H1 hK' hP' hD' hS' => ?_)
  have z1 : va_RA s cB (.object C) := (hK'.2 tys.length (cB, .object C) (by simp)).2
  have z2 : va_RA s cA (.object C) := (hK.2 t0 _ ht).2
  obtain ⟨_, _, _, _, _, w1⟩ := z1
  obtain ⟨_, _, _, _, _, w2⟩ := z2
  cases Option.some.inj (w1.symm.trans w2)
  exact kk q H1 hP' hD' hS'

/-- a constructor that makes mc cells of ms slots -/
def eh_C {S : Type} (l : Launch) (y : MethodName) (cw : Cond) (fr lo mc ms : Nat) (D : va_G) (cl : List vw_C) (tys : List (ClassId × FieldType)) (av : List Value) (ws : va_W) (post : S → Prop) (Wn : S → va_W) : Prop :=
  ∀ sz : Nat, Met l y (cw :: ew_t) { frames := fr, cells := mc, slots := ms, locals := lo } (va_Pc av (fun U => U.heap.size = sz ∧ va_P D cl ws U.heap ∧ va_K D cl tys U ∧ va_D (fun _ => True) ws ∧ ew_n U ∧ eh_ao U))
    (fun _ st o t => (∃ u : S, o = .returned none ∧ post u ∧ va_P D cl (Wn u) t.heap ∧ va_D (va_A ws sz) (Wn u)) ∧ va_F (va_A ws sz) st t) mc ms (va_A ws sz)
theorem eh_blC {av : List Value} {sz : Nat} : FrameBlind (va_Pc av (fun U => U.heap.size = sz ∧ va_P D cl ws U.heap ∧ va_K D cl tys U ∧ va_D (fun _ => True) ws ∧ ew_n U ∧ eh_ao U)) := by
  intro a U g mk h
  obtain ⟨h0, h1, h2, h3, h4, h5, h6⟩ := h
  exact ⟨h0, h1, h2, va_K.moved (u := U) (U := U.calling g mk a) (Vm.Alike.refl U.vm) h3, h4, ew_n_same (u := U) rfl h5, eh_ao_moved (u := U) (U := U.calling g mk a) (Vm.Alike.refl U.vm) h6⟩
section
variable {S : Type} {post : S → Prop} {Wn : S → va_W} {wr : va_W}
theorem eh_afterC (hr : va_Run p l e R s m args below meth c H locs cells slots mc ms (F0 m pc ls st) rest (fun st o t => (∃ u : S, o = .returned none ∧ post u ∧ va_P D cl (Wn u) t.heap ∧ va_D (va_A wc H.size) (Wn u)) ∧ va_F (va_A wc H.size) st t) (va_A wc H.size))
    (hP : va_P D cl ws H) (hD : va_D A ws) (hS : va_S A H0 H locs) (hA : ∀ q, H0.size ≤ q → A q) (isC isR : List Nat) (hC : isC.map (fun i => ws[i]?) = wc.map some) (hR : isR.map (fun i => ws[i]?) = wr.map some) (hnd : va_nd isR = true) (hdis : ∀ i ∈ isR, i ∉ isC)
    (kk : ∀ (u : S) (H1 : Heap) (locs1 : List Loc), post u → va_P D cl (wr ++ Wn u) H1 → va_D A (wr ++ Wn u) → va_S A H0 H1 locs1 → W p l e R s m args below meth c H1 locs1 (cells + mc) (slots + ms) Q (F0 m (pc + 3) ls rest)) : W p l e R s m args below meth c H locs cells slots Q (F0 m pc ls st) := by
  have hFc := va_free hD hS hA isC hC
  intro T hT X
  obtain ⟨v, st₀, t, T', L, h0, X', hL, e1, e2, ⟨⟨u, hv, hp, hB, hB2⟩, hz, hk⟩, stp⟩ := hr T hT X
  have hv' : v = none := by injection hv
  subst hv'
  rw [h0] at hz hk
  have hk1 : ∀ q : Nat, q < H.size → ¬ va_A wc H.size q → T'.heap[q]? = H[q]? := fun q h1 h2 => by rw [e1]; exact hk q h1 h2
  obtain ⟨j1, j2⟩ := va_join (wr := wr) (w1 := Wn u) (H1 := T'.heap) hP hD isC isR hC hR hnd hdis hk1 hFc (by rw [e1]; exact hB) hB2
  obtain ⟨t2, a1, b1⟩ := kk u T'.heap (locs ++ L) hp j1 j2
    ⟨Nat.le_trans hS.1 (by rw [e1]; exact hz), fun q h1 h2 => by rw [hk1 q (Nat.lt_of_lt_of_le h1 hS.1) (fun z => h2 (hFc q z))]; exact hS.2.1 q h1 h2, fun q hq => by
      rcases List.mem_append.mp hq with h | h
      · exact hS.2.2 q h
      · exact hFc _ (hL q h)⟩ T' rfl X'
  exact ⟨t2, stp t2 a1, b1⟩
/-- a constructor of a nest mate is called -/
theorem eh_cCN {host : String} (hexec : p.tables.exec = Jvm.exec) (hb : c.code = cc) (hml : c.maxLocals = nL) (hown : s.vm.findClass own = some m.cls) (htb : ∀ w ∈ ew_t, w.before args s = true) (hN : ew_n s) (hao : eh_ao s)
    (hM : eh_C l y (.code y bytes maxL none) fr lo mc ms D cl tys' [.ref b] wc post Wn) (hlk : va_Nw (.methodLinkNest own index y host) s) (hiw : Cond.initialized y.cls ∈ ew_t) (hcw : Cond.code y bytes maxL none ∈ ew_t) (hinw : Cond.instanceMethod y ∈ ew_t) (hyn : y.name = "<init>") (hd : eh_dS y 0)
    (hR : fr + 1 ≤ R.frames ∧ 8 + (maxL + 11) + lo ≤ R.locals) (hK : va_K D cl tys s) (hP : va_P D cl ws H) (hD : va_D A ws) (hS : va_S A H0 H locs) (hA : ∀ q, H0.size ≤ q → A q)
    (isC isR : List Nat) (hC : isC.map (fun i => ws[i]?) = wc.map some) (hC1 : isC.filterMap (fun i => ws[i]?) = wc) (hCn : va_nd isC = true) (hRr : isR.map (fun i => ws[i]?) = wr.map some) (hnd : va_nd isR = true) (hdis : ∀ i ∈ isR, i ∉ isC)
    (isT : List Nat) (hT : isT.filterMap (fun i => tys[i]?) = tys') (hst : st = .ref b :: rest) (hsz : ls.size = nL) (hWd : (rest.map fun v => v.category).sum ≤ 8)
    (hdg : decode cc pc = .ok (.invokespecial index, 3)) (hf : cells + mc ≤ R.cells ∧ slots + ms ≤ R.slots)
    (kk : ∀ (u : S) (H1 : Heap) (locs1 : List Loc), post u → va_P D cl (wr ++ Wn u) H1 → va_D A (wr ++ Wn u) → va_S A H0 H1 locs1 → W p l e R s m args below meth c H1 locs1 (cells + mc) (slots + ms) Q (F0 m (pc + 3) ls rest)) : W p l e R s m args below meth c H locs cells slots Q (F0 m pc ls st) := by
  have hPc := hP.sub isC hC1
  have hDc := hD.sub (ws' := wc) isC hCn hC
  have hKc := hK.sub isT hT
  have hr := va_runIN (e := e) (below := below) (meth := meth) (rest := rest) (As := []) (g := F0 m pc ls st) (H := H) (locs := locs) (cells := cells) (slots := slots) ⟨hexec, hb, hml, hown, htb⟩ (hM H.size)
    ⟨va_cnB 0 htb (ew_good (fun w h => (List.mem_cons.mp h).elim (fun e => e ▸ hcw) id)) rfl rfl rfl hlk (htb _ hiw) hd hR, hyn, htb _ hinw⟩
    ⟨eh_blC, fun U hU hW => ⟨rfl, by rw [hU], by rw [hU]; exact hPc, va_K.moved hW.alike hKc, hDc.weaken (fun _ _ _ _ => trivial), ew_n_warm hW hN, eh_ao_moved hW.alike hao⟩⟩ rfl rfl hsz (by subst hst; rfl) (lv_room hWd) hdg hf
  exact eh_afterC hr hP hD hS hA isC isR hC hRr hnd hdis kk
/-- a constructor is called -/
theorem eh_cCI (hexec : p.tables.exec = Jvm.exec) (hb : c.code = cc) (hml : c.maxLocals = nL) (hown : s.vm.findClass own = some m.cls) (htb : ∀ w ∈ ew_t, w.before args s = true) (hN : ew_n s) (hao : eh_ao s)
    (hM : eh_C l y (.code y bytes maxL none) fr lo mc ms D cl tys' [.ref b] wc post Wn) (hlk : Cond.methodLink own index y ∈ ew_t) (hiw : Cond.initialized y.cls ∈ ew_t) (hcw : Cond.code y bytes maxL none ∈ ew_t) (hinw : Cond.instanceMethod y ∈ ew_t) (hyn : y.name = "<init>") (hd : eh_dS y 0)
    (hR : fr + 1 ≤ R.frames ∧ 8 + (maxL + 11) + lo ≤ R.locals) (hK : va_K D cl tys s) (hP : va_P D cl ws H) (hD : va_D A ws) (hS : va_S A H0 H locs) (hA : ∀ q, H0.size ≤ q → A q)
    (isC isR : List Nat) (hC : isC.map (fun i => ws[i]?) = wc.map some) (hC1 : isC.filterMap (fun i => ws[i]?) = wc) (hCn : va_nd isC = true) (hRr : isR.map (fun i => ws[i]?) = wr.map some) (hnd : va_nd isR = true) (hdis : ∀ i ∈ isR, i ∉ isC)
    (isT : List Nat) (hT : isT.filterMap (fun i => tys[i]?) = tys') (hst : st = .ref b :: rest) (hsz : ls.size = nL) (hWd : (rest.map fun v => v.category).sum ≤ 8)
    (hdg : decode cc pc = .ok (.invokespecial index, 3)) (hf : cells + mc ≤ R.cells ∧ slots + ms ≤ R.slots)
    (kk : ∀ (u : S) (H1 : Heap) (locs1 : List Loc), post u → va_P D cl (wr ++ Wn u) H1 → va_D A (wr ++ Wn u) → va_S A H0 H1 locs1 → W p l e R s m args below meth c H1 locs1 (cells + mc) (slots + ms) Q (F0 m (pc + 3) ls rest)) : W p l e R s m args below meth c H locs cells slots Q (F0 m pc ls st) := by
  have hPc := hP.sub isC hC1
  have hDc := hD.sub (ws' := wc) isC hCn hC
  have hKc := hK.sub isT hT
  have hr := va_runI (e := e) (below := below) (meth := meth) (rest := rest) (As := []) (g := F0 m pc ls st) (H := H) (locs := locs) (cells := cells) (slots := slots) ⟨hexec, hb, hml, hown, htb⟩ (hM H.size)
    (cwI 0 htb (ew_good (fun w h => (List.mem_cons.mp h).elim (fun e => e ▸ hcw) id)) rfl rfl rfl (htb _ hiw) (htb _ hlk) (htb _ hinw) hyn hd hR)
    ⟨eh_blC, fun U hU hW => ⟨rfl, by rw [hU], by rw [hU]; exact hPc, va_K.moved hW.alike hKc, hDc.weaken (fun _ _ _ _ => trivial), ew_n_warm hW hN, eh_ao_moved hW.alike hao⟩⟩ rfl rfl hsz (by subst hst; rfl) (lv_room hWd) hdg hf
  exact eh_afterC hr hP hD hS hA isC isR hC hRr hnd hdis kk
end
end
theorem eh_o5_up (a0 a1 a2 a3 a4 : Nat) : va_up (va_up (va_up (va_up (va_up (fun _ => none) 0 (some a0)) 1 (some a1)) 2 (some a2)) 3 (some a3)) 4 (some a4) = eh_o5 a0 a1 a2 a3 a4 := by
  funext i
  match i with
  | 0 => rfl
  | 1 => rfl
  | 2 => rfl
  | 3 => rfl
  | 4 => rfl
  | _ + 5 => rfl
theorem eh_o3_up (a0 a1 a2 : Nat) : va_up (va_up (va_up (fun _ => none) 0 (some a0)) 1 (some a1)) 2 (some a2) = eh_o3 a0 a1 a2 := by
  funext i
  match i with
  | 0 => rfl
  | 1 => rfl
  | 2 => rfl
  | _ + 3 => rfl
