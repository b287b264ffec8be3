/-! the law's small methods: contracts of those that catch, and the calls of both kinds -/
def eh_aps (U : State) : Prop := eh_apt eh_IS eh_IA U ∧ eh_apt eh_IS eh_IB U ∧ eh_apt eh_IA eh_IB U
theorem eh_aps_moved {u U : State} (h : u.vm.Alike U.vm) (hA : eh_aps u) : eh_aps U := ⟨eh_apt_moved h hA.1, eh_apt_moved h hA.2.1, eh_apt_moved h hA.2.2⟩
/-- a method of the law that catches what is thrown, and answers k -/
def eh_X (l : Launch) (y : MethodName) (cw : Cond) (fr lo : Nat) (D : va_G) (cl : List vw_C) (tys : List (ClassId × FieldType)) (av : List Value) (ws : va_W) (k : Int) : Prop :=
  Met l y (cw :: ew_t) (eh_rm1 fr lo) (va_Pc av (fun U => va_P D cl ws U.heap ∧ va_K D cl tys U ∧ ew_n U ∧ eh_st U ∧ eh_aps U))
    (fun _ st o t => o = .returned (some (.int (eI k))) ∧ st.heap.size ≤ t.heap.size ∧ ∀ q : Nat, q < st.heap.size → t.heap[q]? = st.heap[q]?) 1 6 (fun _ => False)
theorem eh_blX {D : va_G} {cl : List vw_C} {tys : List (ClassId × FieldType)} {ws : va_W} {av : List Value} : FrameBlind (va_Pc av (fun U => va_P D cl ws U.heap ∧ va_K D cl tys U ∧ ew_n U ∧ eh_st U ∧ eh_aps U)) := by
  intro a U g mk h
  obtain ⟨h0, h1, h2, h3, h4, h5⟩ := h
  exact ⟨h0, h1, va_K.moved (u := U) (U := U.calling g mk a) (Vm.Alike.refl U.vm) h2, ew_n_same (u := U) rfl h3, eh_st_moved (u := U) (U := U.calling g mk a) (Vm.Alike.refl U.vm) (fun _ _ h => h) h4, eh_aps_moved (u := U) (U := U.calling g mk a) (Vm.Alike.refl U.vm) h5⟩

section
variable {p : Program} {l : Launch} {e : Env} {R : Room} {s : State} {m : MethodId} {args : Array Value} {below : List Frame} {meth : Method} {c : Code} {H : Heap} {locs : List Loc} {cells slots : Nat} {Q : State → Prop}
variable {cc : ByteArray} {pc : Nat} {ls : Array Slot} {rest st : List Value} {D : va_G} {cl : List vw_C} {A : Nat → Prop} {b : Nat} {tys tys' : List (ClassId × FieldType)} {ws wc : va_W} {H0 : Heap}
variable {own C : String} {index maxL nL fr lo qb ci : Nat} {y : MethodName} {bytes : ByteArray} {ret : Option FieldType} {As : List Value} {hs : List (Nat × Nat × Nat × Nat)} {k : Int}
/-- such a method is called -/
theorem eh_cX (hexec : p.tables.exec = Jvm.exec) (hb : c.code = cc) (hml : c.maxLocals = nL) (hown : s.vm.findClass own = some m.cls) (htb : ∀ w ∈ ew_t, w.before args s = true) (hN : ew_n s) (hst0 : eh_st s) (hap : eh_aps s)
    (hM : eh_X l y (.codeWith y bytes maxL ret hs) fr lo D cl tys' As wc k) (n : Nat) (hw : eh_wS own index y (.codeWith y bytes maxL ret hs)) (hd : eh_dS y n)
    (hR : fr + 1 ≤ R.frames ∧ 8 + (maxL + 11) + lo ≤ R.locals) (hK : va_K D cl tys s) (hP : va_P D cl ws H) (hD : va_D A ws) (hS : va_S A s.heap H locs) (hA : ∀ q : Nat, q < s.heap.size → ¬ A q)
    (isC : List Nat) (hC : isC.filterMap (fun i => ws[i]?) = wc) (isT : List Nat) (hT : isT.filterMap (fun i => tys[i]?) = tys')
    (hst : st = As.reverse ++ rest) (hn : As.length = n) (hsz : ls.size = nL) (hWd : (rest.map fun v => v.category).sum ≤ 8)
    (hdg : decode cc pc = .ok (.invokestatic index, 3)) (hf : cells + 1 ≤ R.cells ∧ slots + 6 ≤ R.slots)
    (kk : ∀ (H1 : Heap), va_P D cl ws H1 → va_S A s.heap H1 locs → W p l e R s m args below meth c H1 locs (cells + 1) (slots + 6) Q (F0 m (pc + 3) ls (.int (eI k) :: rest))) : W p l e R s m args below meth c H locs cells slots Q (F0 m pc ls st) := by
  have hPc := hP.sub isC hC
  have hKc := hK.sub isT hT
  have hr := eh_runL (e := e) (below := below) (meth := meth) (rest := rest) (H := H) (locs := locs) (cells := cells) (slots := slots) hexec hb hml hown htb hM rfl rfl n hw hd hR eh_blX
    (fun U hU hW => ⟨rfl, by rw [hU]; exact hPc, va_K.moved hW.alike hKc, ew_n_warm hW hN, eh_st_moved hW.alike (fun q0 cell hq => by
      have hlt : q0 < s.heap.size := (Array.getElem?_eq_some_iff.mp hq).1
      rw [hU, hS.2.1 q0 hlt (hA q0 hlt)]
      exact hq) hst0, eh_aps_moved hW.alike hap⟩) hst hn hsz hWd hdg hf
  intro T hT' X
  obtain ⟨v', st₀, t, T', L, h0, X', hL, e1, e2, ⟨hv, hz1, hz2⟩, stp⟩ := hr T hT' X
  cases hv
  rw [h0] at hz1 hz2
  have hk1 : ∀ q : Nat, q < H.size → T'.heap[q]? = H[q]? := fun q h1 => by rw [e1]; exact hz2 q h1
  have hP1 : va_P D cl ws T'.heap := hP.kept (fun k0 x hx => hk1 x.1 ((hP k0 x hx).lt))
  have hL0 : L = [] := by
    cases L with
    | nil => rfl
    | cons a L' => exact absurd (hL a List.mem_cons_self) id
  subst hL0
  rw [List.append_nil] at X'
  obtain ⟨t2, a1, b1⟩ := kk T'.heap hP1 ⟨Nat.le_trans hS.1 (by rw [e1]; exact hz1), fun q h1 h2 => by rw [hk1 q (Nat.lt_of_lt_of_le h1 hS.1)]; exact hS.2.1 q h1 h2, hS.2.2⟩ T' rfl X'
  exact ⟨t2, stp t2 a1, b1⟩
section
variable {S : Type} {post : S → Prop} {ov : S → Option Value} {Wn : S → va_W} {wr : va_W}
/-- a method with handlers that does not throw is called -/
theorem eh_cML (hexec : p.tables.exec = Jvm.exec) (hb : c.code = cc) (hml : c.maxLocals = nL) (hown : s.vm.findClass own = some m.cls) (htb : ∀ w ∈ ew_t, w.before args s = true) (hN : ew_n s)
    (hM : eh_M l y (.codeWith y bytes maxL ret hs) fr lo D cl tys' As wc post ov Wn) (n : Nat) (hw : eh_wS own index y (.codeWith y bytes maxL ret hs)) (hd : eh_dS y n)
    (hR : fr + 1 ≤ R.frames ∧ 8 + (maxL + 11) + lo ≤ R.locals) (hK : va_K D cl tys s) (hP : va_P D cl ws H) (hD : va_D A ws) (hS : va_S A H0 H locs) (hA : ∀ q, H0.size ≤ q → A q)
    (isC isR : List Nat) (hC : isC.map (fun i => ws[i]?) = wc.map some) (hC1 : isC.filterMap (fun i => ws[i]?) = wc) (hCn : va_nd isC = true) (hRr : isR.map (fun i => ws[i]?) = wr.map some) (hnd : va_nd isR = true) (hdis : ∀ i ∈ isR, i ∉ isC)
    (isT : List Nat) (hT : isT.filterMap (fun i => tys[i]?) = tys')
    (hst : st = As.reverse ++ rest) (hn : As.length = n) (hsz : ls.size = nL) (hWd : (rest.map fun v => v.category).sum ≤ 8)
    (hdg : decode cc pc = .ok (.invokestatic index, 3)) (hf : cells ≤ R.cells ∧ slots ≤ R.slots)
    (kk : ∀ (u : S) (H1 : Heap) (locs1 : List Loc), post u → va_P D cl (wr ++ Wn u) H1 → va_D A (wr ++ Wn u) → va_S A H0 H1 locs1 → W p l e R s m args below meth c H1 locs1 cells slots Q (F0 m (pc + 3) ls ((ov u).toList ++ rest))) : W p l e R s m args below meth c H locs cells slots Q (F0 m pc ls st) := by
  have hPc := hP.sub isC hC1
  have hDc := hD.sub (ws' := wc) isC hCn hC
  have hKc := hK.sub isT hT
  have hr := eh_runL (e := e) (below := below) (meth := meth) (rest := rest) (H := H) (locs := locs) (cells := cells) (slots := slots) hexec hb hml hown htb (hM H.size) rfl rfl n hw hd hR eh_blM
    (fun U hU hW => ⟨rfl, by rw [hU], by rw [hU]; exact hPc, va_K.moved hW.alike hKc, hDc.weaken (fun _ _ _ _ => trivial), ew_n_warm hW hN⟩) hst hn hsz hWd hdg hf
  exact eh_afterM (av := #[]) hr hP hD hS hA isC isR hC hRr hnd hdis kk
end
end
