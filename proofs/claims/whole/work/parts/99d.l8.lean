theorem d_L_law_0 : decode code 0 = .ok (.new 8, 3) := by decide +kernel
theorem d_L_law_3 : decode code 3 = .ok (.dup, 1) := by decide +kernel
theorem d_L_law_4 : decode code 4 = .ok (.invokespecial 60, 3) := by decide +kernel
theorem d_L_law_7 : decode code 7 = .ok (.astore_n 1, 1) := by decide +kernel
theorem d_L_law_8 : decode code 8 = .ok (.new 61, 3) := by decide +kernel
theorem d_L_law_11 : decode code 11 = .ok (.dup, 1) := by decide +kernel
theorem d_L_law_12 : decode code 12 = .ok (.invokespecial 63, 3) := by decide +kernel
theorem d_L_law_15 : decode code 15 = .ok (.astore_n 2, 1) := by decide +kernel
theorem d_L_law_16 : decode code 16 = .ok (.iconst 1, 1) := by decide +kernel
theorem d_L_law_17 : decode code 17 = .ok (.newarray .long, 2) := by decide +kernel
theorem d_L_law_19 : decode code 19 = .ok (.astore_n 3, 1) := by decide +kernel
theorem d_L_law_20 : decode code 20 = .ok (.iconst 0, 1) := by decide +kernel
theorem d_L_law_21 : decode code 21 = .ok (.istore 4, 2) := by decide +kernel
theorem d_L_law_23 : decode code 23 = .ok (.iload 4, 2) := by decide +kernel
theorem d_L_law_25 : decode code 25 = .ok (.aload_n 0, 1) := by decide +kernel
theorem d_L_law_26 : decode code 26 = .ok (.arraylength, 1) := by decide +kernel
theorem d_L_law_27 : decode code 27 = .ok (.bipush 6, 2) := by decide +kernel
theorem d_L_law_29 : decode code 29 = .ok (.isub, 1) := by decide +kernel
theorem d_L_law_30 : decode code 30 = .ok (.if_icmp .gt 1009, 3) := by decide +kernel
theorem d_L_law_33 : decode code 33 = .ok (.aload_n 0, 1) := by decide +kernel
theorem d_L_law_34 : decode code 34 = .ok (.iload 4, 2) := by decide +kernel
theorem d_L_law_36 : decode code 36 = .ok (.iaload, 1) := by decide +kernel
theorem d_L_law_37 : decode code 37 = .ok (.bipush 31, 2) := by decide +kernel
theorem d_L_law_39 : decode code 39 = .ok (.iand, 1) := by decide +kernel
theorem d_L_law_40 : decode code 40 = .ok (.tableswitch 993 0 17 #[88, 99, 203, 251, 315, 387, 454, 522, 578, 603, 671, 685, 753, 836, 896, 909, 923, 937], 88) := by decide +kernel
theorem d_L_law_1033 : decode code 1033 = .ok (.iinc 4 6, 3) := by decide +kernel
theorem d_L_law_1036 : decode code 1036 = .ok (.goto (-1013), 3) := by decide +kernel
theorem d_L_law_1039 : decode code 1039 = .ok (.iconst 1, 1) := by decide +kernel
theorem d_L_law_1040 : decode code 1040 = .ok (.ireturn, 1) := by decide +kernel
/-! THE CLAIM OUT OF ONE WALK OF THE LAW'S BODY. Your part is whole_start (and what it stands on); all else here is the same for every law, but numbers. -/
def R_law : String := "EarthHaulsLaw"
def lw_P (b : Addr) (xs : List Int32) (args : Array Value) (s : State) : Prop := args = #[.ref b] ∧ s.IntsAt b xs ∧ xs.length ≤ 3072 ∧ (Jvm.Cond.and given_1 narrow_1).before args s = true
def lw_Q (_ : Array Value) (s : State) (o : Outcome) (t : State) : Prop := o = .returned (some (.int 1)) ∧ Framed s o t [] 625930 7218314
def lw_Z (below : List Frame) (a : Array Value) (s : State) : State → Prop := fun t => ∃ o, t.status = .running ∧ Ended t below o ∧ lw_Q a s o t
/-- the law's own end, with 1 on the stack, nothing written that was there before, its room as the claim has it -/
theorem lw_ret {p : Program} {l : Launch} {e : Env} {s : State} {m : MethodId} {below : List Frame} {meth : Method} {c : Code} {b : Nat} (hx : p.tables.exec = Jvm.exec) (hb : c.code = code) (hr : meth.sig.returnType = ret) (hlocks : meth.locks = false) {pc : Nat} {H : Heap} {ls : Array Slot} (hdg : decode code pc = .ok (.ireturn, 1)) : W p l e room_1 s m #[Value.ref b] below meth c H [] 625930 7218314 (lw_Z below #[Value.ref b] s) (F0 m pc ls [.int 1]) := by
  intro T hT X
  obtain ⟨fs, hret, hrun, hended, hW, hframe⟩ := X.leave (v := some (.int 1)) (hlocks := hlocks) (fun h => by rw [hr] at h; cases h)
  have hmeth' : T.vm.method? m = some meth := X.method'
  refine ⟨T.setFrames fs, ?_, .returned (some (.int 1)), hrun, hended, rfl, ⟨_, rfl⟩, hW, hframe⟩
  jvm_step X.here [X.here.top, hx, hb, hdg, hmeth', hr, ret, narrow_b1]
  (try refine ⟨rfl, ?_⟩); (try refine ⟨rfl, ?_⟩)
  first | (intro acts; rw [hret _ acts rfl rfl rfl]) | rw [hret _ _ rfl rfl rfl]
  exact Steps.refl _
/-- what holds at the law's entry: the machine, the code, the tables' words (any of lw_tbl by 'hts w (by decide +kernel)'), the script of L ints xs at the cell b, what the Statement gives of the start (any of its parts by flat_of_before) -/
def lw_At (p : Program) (s : State) (m : MethodId) (meth : Method) (c : Code) (b L : Nat) (xs : Nat → Int32) : Prop :=
  p.tables.exec = Jvm.exec ∧ c.code = code ∧ meth.sig.returnType = ret ∧ c.maxLocals = 8 ∧ s.vm.findClass R_law = some m.cls ∧ (∀ w ∈ lw_tbl, w.before #[Value.ref b] s = true) ∧ va_X b L xs s s.heap ∧ b < s.heap.size ∧ meth.locks = false ∧ (Jvm.Cond.and given_1 narrow_1).before #[Value.ref b] s = true

section
variable {p : Program} {l : Launch} {e : Env} {R : Room} {s : State} {m : MethodId} {args : Array Value} {below : List Frame} {meth : Method} {c : Code} {H : Heap} {locs : List Loc} {cells slots : Nat} {Q : State → Prop}
variable {cc : ByteArray} {pc : Nat} {ls : Array Slot} {rest : List Value}
theorem we_iandG (hexec : p.tables.exec = Jvm.exec) (hb : c.code = cc) {x y : Int32} (hdg : decode cc pc = .ok (.iand, 1))
    (kk : ∀ z : Int, eh_i z → W p l e R s m args below meth c H locs cells slots Q (F0 m (pc + 1) ls (.int (eI z) :: rest))) : W p l e R s m args below meth c H locs cells slots Q (F0 m pc ls (.int y :: .int x :: rest)) := by
  refine lv_iand hexec hb hdg ?_
  have h := kk (x &&& y).toInt (eI_rg _)
  rw [← eI_of] at h
  exact h
end
theorem lw_n {args : Array Value} {s : State} (hts : ∀ w ∈ lw_tbl, w.before args s = true) : ew_n s := by
  unfold ew_n
  exact ⟨va_Nw.of rfl (hts _ (List.mem_append_right _ (List.mem_of_getElem? (i := 29) (by decide +kernel)))), va_Nw.of rfl (hts _ (List.mem_append_right _ (List.mem_of_getElem? (i := 62) (by decide +kernel)))), va_Nw.of rfl (hts _ (List.mem_append_right _ (List.mem_of_getElem? (i := 68) (by decide +kernel)))), va_Nw.of rfl (hts _ (List.mem_append_right _ (List.mem_of_getElem? (i := 91) (by decide +kernel)))), va_Nw.of rfl (hts _ (List.mem_append_right _ (List.mem_of_getElem? (i := 245) (by decide +kernel)))), va_Nw.of rfl (hts _ (List.mem_append_right _ (List.mem_of_getElem? (i := 343) (by decide +kernel)))), va_Nw.of rfl (hts _ (List.mem_append_right _ (List.mem_of_getElem? (i := 344) (by decide +kernel)))), va_Nw.of rfl (hts _ (List.mem_append_right _ (List.mem_of_getElem? (i := 345) (by decide +kernel)))), va_Nw.of rfl (hts _ (List.mem_append_right _ (List.mem_of_getElem? (i := 346) (by decide +kernel)))), va_Nw.of rfl (hts _ (List.mem_append_right _ (List.mem_of_getElem? (i := 347) (by decide +kernel)))), va_Nw.of rfl (hts _ (List.mem_append_right _ (List.mem_of_getElem? (i := 348) (by decide +kernel)))), va_Nw.of rfl (hts _ (List.mem_append_right _ (List.mem_of_getElem? (i := 342) (by decide +kernel)))), va_Nw.of rfl (hts _ (List.mem_append_right _ (List.mem_of_getElem? (i := 405) (by decide +kernel)))), va_Nw.of rfl (hts _ (List.mem_append_right _ (List.mem_of_getElem? (i := 459) (by decide +kernel))))⟩
theorem lw_st {b : Nat} {s : State} (hts : ∀ w ∈ lw_tbl, w.before #[Value.ref b] s = true) (hgv : (Jvm.Cond.and given_1 narrow_1).before #[Value.ref b] s = true) : eh_st s ∧ eh_aps s ∧ eh_ao s := by
  have hs := flat_of_before _ hgv
  refine ⟨⟨eh_st1 (A0 := #[Value.ref b]) (Vm.Alike.refl s.vm) (fun _ _ h => h) (hs _ (by decide +kernel)), eh_st1 (A0 := #[Value.ref b]) (Vm.Alike.refl s.vm) (fun _ _ h => h) (hs _ (by decide +kernel)), eh_st2 (A0 := #[Value.ref b]) (Vm.Alike.refl s.vm) (fun _ _ h => h) (hts _ (List.mem_append_right _ (List.mem_of_getElem? (i := 367) (by decide +kernel)))), eh_st2 (A0 := #[Value.ref b]) (Vm.Alike.refl s.vm) (fun _ _ h => h) (hts _ (List.mem_append_right _ (List.mem_of_getElem? (i := 369) (by decide +kernel))))⟩,
    ⟨eh_apt_of (A0 := #[Value.ref b]) (hs _ (by decide +kernel)), eh_apt_of (A0 := #[Value.ref b]) (hs _ (by decide +kernel)), eh_apt_of (A0 := #[Value.ref b]) (hs _ (by decide +kernel))⟩, va_AO.of (hts _ (List.mem_append_right _ (List.mem_of_getElem? (i := 24) (by decide +kernel)))), va_AO.of (hts _ (List.mem_append_right _ (List.mem_of_getElem? (i := 26) (by decide +kernel))))⟩
set_option maxRecDepth 100000 in
theorem lw_K {args : Array Value} {s : State} (htb : ∀ w ∈ ew_t, w.before args s = true) (hao : eh_ao s) : ∃ (D : va_G) (cI cL cZ cS cY : ClassId), va_K D classes [(cI, .int), (cL, .long), (cZ, .boolean), (cS, .object "EarthHauls$Section"), (cY, .object "EarthHauls$Yard")] s := by
  obtain ⟨x0, i0, h0⟩ := u_known (n := 2) htb in_F (htb _ tb_67)
  obtain ⟨x1, i1, h1⟩ := u_known (n := 8) htb in_N (htb _ tb_28)
  obtain ⟨x2, i2, h2⟩ := u_known (n := 2) htb in_S (htb _ tb_61)
  obtain ⟨x3, i3, h3⟩ := u_known (n := 3) htb in_Y (htb _ tb_90)
  obtain ⟨x4, i4, h4⟩ := u_known (n := 11) htb in_E (htb _ tb_16)
  obtain ⟨x5, i5, h5⟩ := u_known (n := 23) htb in_M (htb _ tb_583)
  obtain ⟨cI, kI, mI, aI1, bI1, dI1⟩ := Cond.arrayClass_spec (htb _ tb_58)
  obtain ⟨cZ, kZ, mZ, aZ1, bZ1, dZ1⟩ := Cond.arrayClass_spec (htb _ tb_59)
  obtain ⟨cL, kL, mL, aL1, bL1, dL1⟩ := Cond.arrayClass_spec (htb _ tb_60)
  obtain ⟨mS, cS, kS, e1, e2, e3, e4, e5⟩ := Cond.arrayOver_spec hao.1
  obtain ⟨mY, cY, kY, f1, f2, f3, f4, f5⟩ := Cond.arrayOver_spec hao.2
  refine ⟨(fun k => match k with | 0 => x0 | 1 => x1 | 2 => x2 | 3 => x3 | 4 => x4 | _ => x5, fun k => match k with | 0 => i0 | 1 => i1 | 2 => i2 | 3 => i3 | 4 => i4 | _ => i5), cI, cL, cZ, cS, cY, ?_, ?_⟩
  · intro c q hq
    match c, hq with
    | 0, hq => cases hq; exact h0
    | 1, hq => cases hq; exact h1
    | 2, hq => cases hq; exact h2
    | 3, hq => cases hq; exact h3
    | 4, hq => cases hq; exact h4
    | 5, hq => cases hq; exact h5
    | _ + 6, hq => cases hq
  · intro k q hq
    match k, hq with
    | 0, hq => cases hq; exact ⟨fun n z => ⟨(fun k h => by cases h), kI, bI1, mI, dI1⟩, aI1⟩
    | 1, hq => cases hq; exact ⟨fun n z => ⟨(fun k h => by cases h), kL, bL1, mL, dL1⟩, aL1⟩
    | 2, hq => cases hq; exact ⟨fun n z => ⟨(fun k h => by cases h), kZ, bZ1, mZ, dZ1⟩, aZ1⟩
    | 3, hq => cases hq; exact ⟨fun n z => ⟨(fun k h => by cases h), kS, e3, mS, e4⟩, kS, mS, e3, e4, e1, e5⟩
    | 4, hq => cases hq; exact ⟨fun n z => ⟨(fun k h => by cases h), kY, f3, mY, f4⟩, kY, mY, f3, f4, f1, f5⟩
    | _ + 5, hq => cases hq
set_option maxHeartbeats 1000000 in
set_option maxRecDepth 100000 in
theorem lw_loop {p : Program} {l : Launch} {e : Env} {R : Room} {s : State} {m : MethodId} {below : List Frame} {meth : Method} {c : Code} {D : va_G} {cI cL cZ cS cY : ClassId} {ad md : Nat → Nat} {ou : Nat} {A : Nat → Prop} {b L : Nat} {xs : Nat → Int32} (hC : eh_Cx p l R s m #[Value.ref b] c D cI cL cZ cS cY A b L xs) (hL3 : L ≤ 3072) (hAe : ∀ q : Nat, A q → s.heap.size ≤ q)
    (hlast : ∀ (H : Heap) (ls : Array Slot), W p l e R s m #[Value.ref b] below meth c H [] 625930 7218314 (lw_Z below #[Value.ref b] s) (F0 m 1040 ls [.int (eI 1)])) :
    ∀ (q j : Nat) (H : Heap) (locs : List Loc) (ls : Array Slot), L / 6 - j = q → j ≤ L / 6 → eh_I D cI cL cZ cS cY ad md ou A s.heap H locs → lv_has ls 8 [(4, .int (eI ((6 * j : Nat) : Int))), (0, .ref b), (1, .ref (ad 0)), (2, .ref (md 0)), (3, .ref ou)] → W p l e R s m #[Value.ref b] below meth c H locs (49 + j) (720 + 6 * j) (lw_Z below #[Value.ref b] s) (F0 m 23 ls []) := by
  obtain ⟨hx, hb, hml, hown, htb, hN, hst, hap, hl0, ⟨hR1, hR2, hR3, hR4⟩, hK, hA, hA2, hX, hbl⟩ := id hC
  intro q
  induction q with
  | zero =>
    intro j H locs ls hq hj hI hl
    have hLe : (Int32.ofNat L) = eI (L : Int) := (eI_n L).symm
    have hS : va_S A s.heap H locs := by obtain ⟨_, _, _, _, _, _, _, _, _, _, _, _, _, _, _, _, _, _, _, _, _, _, _, _, _, _, _, _, _, _, _, _, _, _, _, _, _, _, _, _, _, hM, hpv, hkn, hP, hD, hS⟩ := hI; exact hS
    refine lv_iload hx hb d_L_law_23 (lv_at hl 0 rfl) ?_
    refine lv_aload_n hx hb d_L_law_25 rfl (lv_at hl 1 rfl) ?_
    refine va_slen hx hb hX hbl (hA2 b hbl) hS d_L_law_26 ?_
    refine W.eq (g2 := F0 m 27 ls [.int (eI (L : Int)), .int (eI ((6 * j : Nat) : Int))]) (by rw [hLe]; try rfl) ?_
    refine lv_bipush (v := eI 6) hx hb d_L_law_27 (by decide) ?_
    refine we_isub hx hb d_L_law_29 ?_
    refine we_icmp_gt (tgt := 1039) hx hb (by constructor <;> omega) (by constructor <;> omega) d_L_law_30 rfl (fun hc30 => ?_) (fun hc30 => absurd hc30 (by omega))
    refine lv_iconst (v := eI 1) hx hb d_L_law_1039 rfl ?_
    refine va_forget (fun q h => hAe _ (hS.2.2 q h)) ?_
    refine W.widen (k := 625930) (n := 7218314) (by omega) (by omega) ?_
    exact hlast H ls
  | succ q ih =>
    intro j H locs ls hq hj hI hl
    have hLe : (Int32.ofNat L) = eI (L : Int) := (eI_n L).symm
    have hS : va_S A s.heap H locs := by obtain ⟨_, _, _, _, _, _, _, _, _, _, _, _, _, _, _, _, _, _, _, _, _, _, _, _, _, _, _, _, _, _, _, _, _, _, _, _, _, _, _, _, _, hM, hpv, hkn, hP, hD, hS⟩ := hI; exact hS
    have hj6 : 6 * j + 6 ≤ L := by omega
    have step : ∀ (H1 : Heap) (locs1 : List Loc) (ls1 : Array Slot) (c1 s1 : Nat), c1 ≤ 49 + j + 1 → s1 ≤ 720 + 6 * j + 6 → eh_I D cI cL cZ cS cY ad md ou A s.heap H1 locs1 → lv_has ls1 8 [(4, .int (eI ((6 * j : Nat) : Int))), (0, .ref b), (1, .ref (ad 0)), (2, .ref (md 0)), (3, .ref ou)] → W p l e R s m #[Value.ref b] below meth c H1 locs1 c1 s1 (lw_Z below #[Value.ref b] s) (F0 m 1033 ls1 []) := by
      intro H1 locs1 ls1 c1 s1 h1 h2 hI1 hl1
      refine lv_iinc (v := eI (((6 * j : Nat) : Int) + 6)) hx hb d_L_law_1033 hl1 (k := 0) rfl (eI_add _ _) (by decide) rfl (fun ls hl => ?_)
      refine lv_goto (tgt := 23) hx hb d_L_law_1036 rfl ?_
      rw [show (((6 * j : Nat) : Int) + 6) = ((6 * (j + 1) : Nat) : Int) by omega] at hl
      refine W.widen (k := 49 + (j + 1)) (n := 720 + 6 * (j + 1)) (by omega) (by omega) ?_
      exact ih (j + 1) H1 locs1 ls (by omega) (by omega) hI1 (lv_sub hl [0, 1, 2, 3, 4] rfl)
    refine lv_iload hx hb d_L_law_23 (lv_at hl 0 rfl) ?_
    refine lv_aload_n hx hb d_L_law_25 rfl (lv_at hl 1 rfl) ?_
    refine va_slen hx hb hX hbl (hA2 b hbl) hS d_L_law_26 ?_
    refine W.eq (g2 := F0 m 27 ls [.int (eI (L : Int)), .int (eI ((6 * j : Nat) : Int))]) (by rw [hLe]; try rfl) ?_
    refine lv_bipush (v := eI 6) hx hb d_L_law_27 (by decide) ?_
    refine we_isub hx hb d_L_law_29 ?_
    refine we_icmp_gt (tgt := 1039) hx hb (by constructor <;> omega) (by constructor <;> omega) d_L_law_30 rfl (fun hc30 => absurd hc30 (by omega)) (fun hc30 => ?_)
    refine lv_aload_n hx hb d_L_law_33 rfl (lv_at hl 1 rfl) ?_
    refine lv_iload hx hb d_L_law_34 (lv_at hl 0 rfl) ?_
    refine we_sld hx hb hX hbl (hA2 b hbl) hS (6 * j) rfl (by omega) (by omega) rfl d_L_law_36 ?_
    refine lv_bipush (v := eI 31) hx hb d_L_law_37 (by decide) ?_
    refine we_iandG hx hb d_L_law_39 (fun z hz => ?_)
    rcases (show z = 0 ∨ z = 1 ∨ z = 2 ∨ z = 3 ∨ z = 4 ∨ z = 5 ∨ z = 6 ∨ z = 7 ∨ z = 8 ∨ z = 9 ∨ z = 10 ∨ z = 11 ∨ z = 12 ∨ z = 13 ∨ z = 14 ∨ z = 15 ∨ z = 16 ∨ z = 17 ∨ (z < 0 ∨ 17 < z) by omega) with rfl | rfl | rfl | rfl | rfl | rfl | rfl | rfl | rfl | rfl | rfl | rfl | rfl | rfl | rfl | rfl | rfl | rfl | hz9
    · refine lv_tableIn (x := eI 0) (tgt := 128) hx hb d_L_law_40 (by decide) (by decide) (by first | rfl | decide) (by decide) ?_
      exact lw_c0 hC hI j hj6 hL3 (by omega) hl step
    · refine lv_tableIn (x := eI 1) (tgt := 139) hx hb d_L_law_40 (by decide) (by decide) (by first | rfl | decide) (by decide) ?_
      exact lw_c1 hC hI j hj6 hL3 (by omega) hl step
    · refine lv_tableIn (x := eI 2) (tgt := 243) hx hb d_L_law_40 (by decide) (by decide) (by first | rfl | decide) (by decide) ?_
      exact lw_c2 hC hI j hj6 hL3 (by omega) hl step
    · refine lv_tableIn (x := eI 3) (tgt := 291) hx hb d_L_law_40 (by decide) (by decide) (by first | rfl | decide) (by decide) ?_
      exact lw_c3 hC hI j hj6 hL3 (by omega) hl step
    · refine lv_tableIn (x := eI 4) (tgt := 355) hx hb d_L_law_40 (by decide) (by decide) (by first | rfl | decide) (by decide) ?_
      exact lw_c4 hC hI j hj6 hL3 (by omega) hl step
    · refine lv_tableIn (x := eI 5) (tgt := 427) hx hb d_L_law_40 (by decide) (by decide) (by first | rfl | decide) (by decide) ?_
      exact lw_c5 hC hI j hj6 hL3 (by omega) hl step
    · refine lv_tableIn (x := eI 6) (tgt := 494) hx hb d_L_law_40 (by decide) (by decide) (by first | rfl | decide) (by decide) ?_
      exact lw_c6 hC hI j hj6 hL3 (by omega) hl step
    · refine lv_tableIn (x := eI 7) (tgt := 562) hx hb d_L_law_40 (by decide) (by decide) (by first | rfl | decide) (by decide) ?_
      exact lw_c7 hC hI j hj6 hL3 (by omega) hl step
    · refine lv_tableIn (x := eI 8) (tgt := 618) hx hb d_L_law_40 (by decide) (by decide) (by first | rfl | decide) (by decide) ?_
      exact lw_c8 hC hI j hj6 hL3 (by omega) hl step
    · refine lv_tableIn (x := eI 9) (tgt := 643) hx hb d_L_law_40 (by decide) (by decide) (by first | rfl | decide) (by decide) ?_
      exact lw_c9 hC hI j hj6 hL3 (by omega) hl step
    · refine lv_tableIn (x := eI 10) (tgt := 711) hx hb d_L_law_40 (by decide) (by decide) (by first | rfl | decide) (by decide) ?_
      exact lw_c10 hC hI j hj6 hL3 (by omega) hl step
    · refine lv_tableIn (x := eI 11) (tgt := 725) hx hb d_L_law_40 (by decide) (by decide) (by first | rfl | decide) (by decide) ?_
      exact lw_c11 hC hI j hj6 hL3 (by omega) hl step
    · refine lv_tableIn (x := eI 12) (tgt := 793) hx hb d_L_law_40 (by decide) (by decide) (by first | rfl | decide) (by decide) ?_
      exact lw_c12 hC hI j hj6 hL3 (by omega) hl step
    · refine lv_tableIn (x := eI 13) (tgt := 876) hx hb d_L_law_40 (by decide) (by decide) (by first | rfl | decide) (by decide) ?_
      exact lw_c13 hC hI j hj6 hL3 (by omega) hl step
    · refine lv_tableIn (x := eI 14) (tgt := 936) hx hb d_L_law_40 (by decide) (by decide) (by first | rfl | decide) (by decide) ?_
      exact lw_c14 hC hI j hj6 hL3 (by omega) hl step
    · refine lv_tableIn (x := eI 15) (tgt := 949) hx hb d_L_law_40 (by decide) (by decide) (by first | rfl | decide) (by decide) ?_
      exact lw_c15 hC hI j hj6 hL3 (by omega) hl step
    · refine lv_tableIn (x := eI 16) (tgt := 963) hx hb d_L_law_40 (by decide) (by decide) (by first | rfl | decide) (by decide) ?_
      exact lw_c16 hC hI j hj6 hL3 (by omega) hl step
    · refine lv_tableIn (x := eI 17) (tgt := 977) hx hb d_L_law_40 (by decide) (by decide) (by first | rfl | decide) (by decide) ?_
      exact lw_c17 hC hI j hj6 hL3 (by omega) hl step
    · refine lv_tableOut (x := eI z) (tgt := 1033) hx hb d_L_law_40 (by rw [eI_t hz]; exact hz9) (by decide) ?_
      exact step H locs ls _ _ (by omega) (by omega) hI hl
set_option maxHeartbeats 1000000 in
set_option maxRecDepth 100000 in
theorem whole_start {p : Program} {e : Env} {s : State} {m : MethodId} {below : List Frame} {meth : Method} {c : Code} (l : Launch) (hl0 : l.stackTraces = false) {b L : Nat} {xs : Nat → Int32} (hL : L ≤ 3072) (C0 : lw_At p s m meth c b L xs) : W p l e room_1 s m #[Value.ref b] below meth c s.heap [] 0 0 (lw_Z below #[Value.ref b] s) (entryFrame m ([Value.ref b] : List Value).toArray 8) := by
  obtain ⟨hx, hb, hrt, hml, hown, hts, hX, hbl, hlocks, hgv⟩ := C0
  have htb : ∀ w ∈ ew_t, w.before #[Value.ref b] s = true := fun w h => hts w (List.mem_filter.mp h).1
  have hN := lw_n hts
  obtain ⟨hst, hap, hao⟩ := lw_st hts hgv
  obtain ⟨D, cI, cL, cZ, cS, cY, hK⟩ := lw_K htb hao
  have hR1 : room_1.frames = 11 := rfl
  have hR2 : room_1.locals = 464 := rfl
  have hR3 : room_1.cells = 625930 := rfl
  have hR4 : room_1.slots = 7218314 := rfl
  have hRr : room_1.frames = 11 ∧ room_1.locals = 464 ∧ room_1.cells = 625930 ∧ room_1.slots = 7218314 := ⟨rfl, rfl, rfl, rfl⟩
  generalize hRe : room_1 = R at hR1 hR2 hR3 hR4 hRr ⊢
  obtain ⟨A, hA, hA2, hAe⟩ : ∃ A : Nat → Prop, (∀ q : Nat, s.heap.size ≤ q → A q) ∧ (∀ q : Nat, q < s.heap.size → ¬ A q) ∧ (∀ q : Nat, A q → s.heap.size ≤ q) := ⟨fun q => s.heap.size ≤ q, fun _ h => h, fun q h1 h2 => by omega, fun _ h => h⟩
  have hC : eh_Cx p l R s m #[Value.ref b] c D cI cL cZ cS cY A b L xs := ⟨hx, hb, hml, hown, htb, hN, hst, hap, hl0, hRr, hK, hA, hA2, hX, hbl⟩
  have hlast : ∀ (H : Heap) (ls : Array Slot), W p l e R s m #[Value.ref b] below meth c H [] 625930 7218314 (lw_Z below #[Value.ref b] s) (F0 m 1040 ls [.int (eI 1)]) := fun H ls => by
    have h1 : eI 1 = (1 : Int32) := by decide
    rw [← hRe, h1]
    exact lw_ret hx hb hrt hlocks d_L_law_1040
  have hP : va_P D classes [] s.heap := fun k q h => by cases h
  have hD : va_D A [] := ⟨(fun i j p q h => by cases h), (fun k q h => by cases h)⟩
  have hS : va_S A s.heap s.heap [] := va_S.rf
  have hl := lv_entry ([Value.ref b]) (n := 8) (Nat.le_of_ble_eq_true rfl)
  rw [lg_entry_eq]
  generalize (lg_sl ([Value.ref b]) ++ List.replicate (8 - (lg_sl ([Value.ref b])).length) Slot.unset).toArray = ls at hl ⊢
  have hl : lv_has ls 8 [(0, .ref b)] := hl
  refine va_new (ci := 4) (fs := [.null, .null, .null, .null, .null, .null, .int (eI 0), .int (eI 0), .int (eI 0), .int (eI 0), .long (eL 0)]) (C := R_E) (T := T_E) (N := 11) hx hb htb in_E t_E t_E_ok hown (htb _ tb_15) (htb _ tb_16) (htb _ tb_1) hK hP hD hS hA rfl (fun j hj => by rcases (show j = 0 ∨ j = 1 ∨ j = 2 ∨ j = 3 ∨ j = 4 ∨ j = 5 ∨ j = 6 ∨ j = 7 ∨ j = 8 ∨ j = 9 ∨ j = 10 by omega) with rfl | rfl | rfl | rfl | rfl | rfl | rfl | rfl | rfl | rfl | rfl <;> first | rfl | exact congrArg Value.int eI_zz | exact congrArg Value.long eL_zz) (by rw [hR3]; decide) (by rw [hR4]; decide) d_L_law_0 (fun q1 H hP hD hS => ?_)
  have hP : va_P D classes [(q1, .inr (4, [.null, .null, .null, .null, .null, .null, .int (eI 0), .int (eI 0), .int (eI 0), .int (eI 0), .long (eL 0)]))] H := hP
  have hD : va_D A [(q1, .inr (4, [.null, .null, .null, .null, .null, .null, .int (eI 0), .int (eI 0), .int (eI 0), .int (eI 0), .long (eL 0)]))] := hD
  refine lv_dup hx hb d_L_law_3 rfl ?_
  refine eh_cCI (rest := [.ref q1]) (wr := []) hx hb hml hown htb hN hao (i_E_init l D cI cL cZ cS cY q1) tb_17 tb_1 kin_E_init tb_18 rfl dz_E_init ⟨by rw [hR1]; decide, by rw [hR2]; decide⟩ hK hP hD hS hA [0] [] rfl rfl (by decide) rfl (by decide) (by decide) [0, 1, 2, 3, 4] rfl rfl hl.1 (Nat.le_of_ble_eq_true rfl) d_L_law_4 ⟨by rw [hR3]; decide, by rw [hR4]; decide⟩ (fun u H locs hu hP hD hS => ?_)
  obtain ⟨ad, cb0, la0⟩ := u
  obtain ⟨hq0, hcb0, hla0⟩ := hu
  have hq0 : ad 0 = q1 := hq0
  have hP9 := hP
  have hD9 := hD
  have hS9 := hS
  subst hq0
  have hP := hP9
  have hD := hD9
  have hS := hS9
  have hP : va_P D classes [((ad 0), .inr (4, [.ref (ad 1), .ref (ad 2), .ref (ad 3), .ref (ad 4), .ref (ad 5), .ref (ad 24), .int (eI ((0 : Nat) : Int)), .int (eI 1000), .int (eI 1), .int (eI 0), .long (eL (-1))])), ((ad 1), .inl (cS, 5, .inr (.inr (.inr (.inr (eh_o5 (ad 6) (ad 7) (ad 8) (ad 9) (ad 10))))))), ((ad 2), aI cI 4 (fun _ => 0)), ((ad 3), aI cZ 3 cb0), ((ad 4), .inl (cY, 3, .inr (.inr (.inr (.inr (eh_o3 (ad 21) (ad 22) (ad 23))))))), ((ad 5), aI cI 30 la0), ((ad 6), .inr (2, [.ref (ad 11), .ref (ad 16)])), ((ad 7), .inr (2, [.ref (ad 12), .ref (ad 17)])), ((ad 8), .inr (2, [.ref (ad 13), .ref (ad 18)])), ((ad 9), .inr (2, [.ref (ad 14), .ref (ad 19)])), ((ad 10), .inr (2, [.ref (ad 15), .ref (ad 20)])), ((ad 11), .inr (0, [.long (eL (((fun _ => 0) 0 : Nat) : Int)), .long (eL (((fun _ => 1) 0 : Nat) : Int))])), ((ad 12), .inr (0, [.long (eL (((fun _ => 0) 1 : Nat) : Int)), .long (eL (((fun _ => 1) 1 : Nat) : Int))])), ((ad 13), .inr (0, [.long (eL (((fun _ => 0) 2 : Nat) : Int)), .long (eL (((fun _ => 1) 2 : Nat) : Int))])), ((ad 14), .inr (0, [.long (eL (((fun _ => 0) 3 : Nat) : Int)), .long (eL (((fun _ => 1) 3 : Nat) : Int))])), ((ad 15), .inr (0, [.long (eL (((fun _ => 0) 4 : Nat) : Int)), .long (eL (((fun _ => 1) 4 : Nat) : Int))])), ((ad 16), .inr (0, [.long (eL (((fun _ => 0) 0 : Nat) : Int)), .long (eL (((fun _ => 1) 0 : Nat) : Int))])), ((ad 17), .inr (0, [.long (eL (((fun _ => 0) 1 : Nat) : Int)), .long (eL (((fun _ => 1) 1 : Nat) : Int))])), ((ad 18), .inr (0, [.long (eL (((fun _ => 0) 2 : Nat) : Int)), .long (eL (((fun _ => 1) 2 : Nat) : Int))])), ((ad 19), .inr (0, [.long (eL (((fun _ => 0) 3 : Nat) : Int)), .long (eL (((fun _ => 1) 3 : Nat) : Int))])), ((ad 20), .inr (0, [.long (eL (((fun _ => 0) 4 : Nat) : Int)), .long (eL (((fun _ => 1) 4 : Nat) : Int))])), ((ad 21), .inr (3, [.int (eI ((fun _ => -1) 0)), .int (eI ((fun _ => 0) 0)), .int (eI ((fun _ => 0) 0))])), ((ad 22), .inr (3, [.int (eI ((fun _ => -1) 1)), .int (eI ((fun _ => 0) 1)), .int (eI ((fun _ => 0) 1))])), ((ad 23), .inr (3, [.int (eI ((fun _ => -1) 2)), .int (eI ((fun _ => 0) 2)), .int (eI ((fun _ => 0) 2))])), ((ad 24), .inr (1, [.ref (ad 25), .ref (ad 26), .ref (ad 27), .ref (ad 28), .ref (ad 29), .ref (ad 30), .ref (ad 31), .int (eI 0)])), ((ad 25), aI cI 82 (fun _ => 0)), ((ad 26), aI cI 82 (fun _ => 0)), ((ad 27), aI cI 82 (fun _ => 0)), ((ad 28), aL cL 82 (fun _ => 0)), ((ad 29), aI cI 30 (fun _ => 0)), ((ad 30), aL cL 12 (fun _ => 0)), ((ad 31), aI cI 12 (fun _ => 0))] H := hP
  have hD : va_D A [((ad 0), .inr (4, [.ref (ad 1), .ref (ad 2), .ref (ad 3), .ref (ad 4), .ref (ad 5), .ref (ad 24), .int (eI ((0 : Nat) : Int)), .int (eI 1000), .int (eI 1), .int (eI 0), .long (eL (-1))])), ((ad 1), .inl (cS, 5, .inr (.inr (.inr (.inr (eh_o5 (ad 6) (ad 7) (ad 8) (ad 9) (ad 10))))))), ((ad 2), aI cI 4 (fun _ => 0)), ((ad 3), aI cZ 3 cb0), ((ad 4), .inl (cY, 3, .inr (.inr (.inr (.inr (eh_o3 (ad 21) (ad 22) (ad 23))))))), ((ad 5), aI cI 30 la0), ((ad 6), .inr (2, [.ref (ad 11), .ref (ad 16)])), ((ad 7), .inr (2, [.ref (ad 12), .ref (ad 17)])), ((ad 8), .inr (2, [.ref (ad 13), .ref (ad 18)])), ((ad 9), .inr (2, [.ref (ad 14), .ref (ad 19)])), ((ad 10), .inr (2, [.ref (ad 15), .ref (ad 20)])), ((ad 11), .inr (0, [.long (eL (((fun _ => 0) 0 : Nat) : Int)), .long (eL (((fun _ => 1) 0 : Nat) : Int))])), ((ad 12), .inr (0, [.long (eL (((fun _ => 0) 1 : Nat) : Int)), .long (eL (((fun _ => 1) 1 : Nat) : Int))])), ((ad 13), .inr (0, [.long (eL (((fun _ => 0) 2 : Nat) : Int)), .long (eL (((fun _ => 1) 2 : Nat) : Int))])), ((ad 14), .inr (0, [.long (eL (((fun _ => 0) 3 : Nat) : Int)), .long (eL (((fun _ => 1) 3 : Nat) : Int))])), ((ad 15), .inr (0, [.long (eL (((fun _ => 0) 4 : Nat) : Int)), .long (eL (((fun _ => 1) 4 : Nat) : Int))])), ((ad 16), .inr (0, [.long (eL (((fun _ => 0) 0 : Nat) : Int)), .long (eL (((fun _ => 1) 0 : Nat) : Int))])), ((ad 17), .inr (0, [.long (eL (((fun _ => 0) 1 : Nat) : Int)), .long (eL (((fun _ => 1) 1 : Nat) : Int))])), ((ad 18), .inr (0, [.long (eL (((fun _ => 0) 2 : Nat) : Int)), .long (eL (((fun _ => 1) 2 : Nat) : Int))])), ((ad 19), .inr (0, [.long (eL (((fun _ => 0) 3 : Nat) : Int)), .long (eL (((fun _ => 1) 3 : Nat) : Int))])), ((ad 20), .inr (0, [.long (eL (((fun _ => 0) 4 : Nat) : Int)), .long (eL (((fun _ => 1) 4 : Nat) : Int))])), ((ad 21), .inr (3, [.int (eI ((fun _ => -1) 0)), .int (eI ((fun _ => 0) 0)), .int (eI ((fun _ => 0) 0))])), ((ad 22), .inr (3, [.int (eI ((fun _ => -1) 1)), .int (eI ((fun _ => 0) 1)), .int (eI ((fun _ => 0) 1))])), ((ad 23), .inr (3, [.int (eI ((fun _ => -1) 2)), .int (eI ((fun _ => 0) 2)), .int (eI ((fun _ => 0) 2))])), ((ad 24), .inr (1, [.ref (ad 25), .ref (ad 26), .ref (ad 27), .ref (ad 28), .ref (ad 29), .ref (ad 30), .ref (ad 31), .int (eI 0)])), ((ad 25), aI cI 82 (fun _ => 0)), ((ad 26), aI cI 82 (fun _ => 0)), ((ad 27), aI cI 82 (fun _ => 0)), ((ad 28), aL cL 82 (fun _ => 0)), ((ad 29), aI cI 30 (fun _ => 0)), ((ad 30), aL cL 12 (fun _ => 0)), ((ad 31), aI cI 12 (fun _ => 0))] := hD
  refine lv_astore_n hx hb d_L_law_7 rfl hl (by decide) rfl (fun ls hl => ?_)
  have hl : lv_has ls 8 [(1, .ref (ad 0)), (0, .ref b)] := hl
  refine va_new (ci := 5) (fs := [.int (eI 0), .int (eI 0), .null, .null, .null, .int (eI 0), .int (eI 0), .null, .null, .null, .null, .null, .long (eL 0), .long (eL 0), .null, .null, .null, .null, .null, .null, .null, .int (eI 0), .int (eI 0)]) (C := R_M) (T := T_M) (N := 23) hx hb htb in_M t_M t_M_ok hown (htb _ tb_582) (htb _ tb_583) (htb _ tb_7) hK hP hD hS hA rfl (fun j hj => by rcases (show j = 0 ∨ j = 1 ∨ j = 2 ∨ j = 3 ∨ j = 4 ∨ j = 5 ∨ j = 6 ∨ j = 7 ∨ j = 8 ∨ j = 9 ∨ j = 10 ∨ j = 11 ∨ j = 12 ∨ j = 13 ∨ j = 14 ∨ j = 15 ∨ j = 16 ∨ j = 17 ∨ j = 18 ∨ j = 19 ∨ j = 20 ∨ j = 21 ∨ j = 22 by omega) with rfl | rfl | rfl | rfl | rfl | rfl | rfl | rfl | rfl | rfl | rfl | rfl | rfl | rfl | rfl | rfl | rfl | rfl | rfl | rfl | rfl | rfl | rfl <;> first | rfl | exact congrArg Value.int eI_zz | exact congrArg Value.long eL_zz) (by rw [hR3]; decide) (by rw [hR4]; decide) d_L_law_8 (fun q2 H hP hD hS => ?_)
  have hP : va_P D classes [((ad 0), .inr (4, [.ref (ad 1), .ref (ad 2), .ref (ad 3), .ref (ad 4), .ref (ad 5), .ref (ad 24), .int (eI ((0 : Nat) : Int)), .int (eI 1000), .int (eI 1), .int (eI 0), .long (eL (-1))])), ((ad 1), .inl (cS, 5, .inr (.inr (.inr (.inr (eh_o5 (ad 6) (ad 7) (ad 8) (ad 9) (ad 10))))))), ((ad 2), aI cI 4 (fun _ => 0)), ((ad 3), aI cZ 3 cb0), ((ad 4), .inl (cY, 3, .inr (.inr (.inr (.inr (eh_o3 (ad 21) (ad 22) (ad 23))))))), ((ad 5), aI cI 30 la0), ((ad 6), .inr (2, [.ref (ad 11), .ref (ad 16)])), ((ad 7), .inr (2, [.ref (ad 12), .ref (ad 17)])), ((ad 8), .inr (2, [.ref (ad 13), .ref (ad 18)])), ((ad 9), .inr (2, [.ref (ad 14), .ref (ad 19)])), ((ad 10), .inr (2, [.ref (ad 15), .ref (ad 20)])), ((ad 11), .inr (0, [.long (eL (((fun _ => 0) 0 : Nat) : Int)), .long (eL (((fun _ => 1) 0 : Nat) : Int))])), ((ad 12), .inr (0, [.long (eL (((fun _ => 0) 1 : Nat) : Int)), .long (eL (((fun _ => 1) 1 : Nat) : Int))])), ((ad 13), .inr (0, [.long (eL (((fun _ => 0) 2 : Nat) : Int)), .long (eL (((fun _ => 1) 2 : Nat) : Int))])), ((ad 14), .inr (0, [.long (eL (((fun _ => 0) 3 : Nat) : Int)), .long (eL (((fun _ => 1) 3 : Nat) : Int))])), ((ad 15), .inr (0, [.long (eL (((fun _ => 0) 4 : Nat) : Int)), .long (eL (((fun _ => 1) 4 : Nat) : Int))])), ((ad 16), .inr (0, [.long (eL (((fun _ => 0) 0 : Nat) : Int)), .long (eL (((fun _ => 1) 0 : Nat) : Int))])), ((ad 17), .inr (0, [.long (eL (((fun _ => 0) 1 : Nat) : Int)), .long (eL (((fun _ => 1) 1 : Nat) : Int))])), ((ad 18), .inr (0, [.long (eL (((fun _ => 0) 2 : Nat) : Int)), .long (eL (((fun _ => 1) 2 : Nat) : Int))])), ((ad 19), .inr (0, [.long (eL (((fun _ => 0) 3 : Nat) : Int)), .long (eL (((fun _ => 1) 3 : Nat) : Int))])), ((ad 20), .inr (0, [.long (eL (((fun _ => 0) 4 : Nat) : Int)), .long (eL (((fun _ => 1) 4 : Nat) : Int))])), ((ad 21), .inr (3, [.int (eI ((fun _ => -1) 0)), .int (eI ((fun _ => 0) 0)), .int (eI ((fun _ => 0) 0))])), ((ad 22), .inr (3, [.int (eI ((fun _ => -1) 1)), .int (eI ((fun _ => 0) 1)), .int (eI ((fun _ => 0) 1))])), ((ad 23), .inr (3, [.int (eI ((fun _ => -1) 2)), .int (eI ((fun _ => 0) 2)), .int (eI ((fun _ => 0) 2))])), ((ad 24), .inr (1, [.ref (ad 25), .ref (ad 26), .ref (ad 27), .ref (ad 28), .ref (ad 29), .ref (ad 30), .ref (ad 31), .int (eI 0)])), ((ad 25), aI cI 82 (fun _ => 0)), ((ad 26), aI cI 82 (fun _ => 0)), ((ad 27), aI cI 82 (fun _ => 0)), ((ad 28), aL cL 82 (fun _ => 0)), ((ad 29), aI cI 30 (fun _ => 0)), ((ad 30), aL cL 12 (fun _ => 0)), ((ad 31), aI cI 12 (fun _ => 0)), (q2, .inr (5, [.int (eI 0), .int (eI 0), .null, .null, .null, .int (eI 0), .int (eI 0), .null, .null, .null, .null, .null, .long (eL 0), .long (eL 0), .null, .null, .null, .null, .null, .null, .null, .int (eI 0), .int (eI 0)]))] H := hP
  have hD : va_D A [((ad 0), .inr (4, [.ref (ad 1), .ref (ad 2), .ref (ad 3), .ref (ad 4), .ref (ad 5), .ref (ad 24), .int (eI ((0 : Nat) : Int)), .int (eI 1000), .int (eI 1), .int (eI 0), .long (eL (-1))])), ((ad 1), .inl (cS, 5, .inr (.inr (.inr (.inr (eh_o5 (ad 6) (ad 7) (ad 8) (ad 9) (ad 10))))))), ((ad 2), aI cI 4 (fun _ => 0)), ((ad 3), aI cZ 3 cb0), ((ad 4), .inl (cY, 3, .inr (.inr (.inr (.inr (eh_o3 (ad 21) (ad 22) (ad 23))))))), ((ad 5), aI cI 30 la0), ((ad 6), .inr (2, [.ref (ad 11), .ref (ad 16)])), ((ad 7), .inr (2, [.ref (ad 12), .ref (ad 17)])), ((ad 8), .inr (2, [.ref (ad 13), .ref (ad 18)])), ((ad 9), .inr (2, [.ref (ad 14), .ref (ad 19)])), ((ad 10), .inr (2, [.ref (ad 15), .ref (ad 20)])), ((ad 11), .inr (0, [.long (eL (((fun _ => 0) 0 : Nat) : Int)), .long (eL (((fun _ => 1) 0 : Nat) : Int))])), ((ad 12), .inr (0, [.long (eL (((fun _ => 0) 1 : Nat) : Int)), .long (eL (((fun _ => 1) 1 : Nat) : Int))])), ((ad 13), .inr (0, [.long (eL (((fun _ => 0) 2 : Nat) : Int)), .long (eL (((fun _ => 1) 2 : Nat) : Int))])), ((ad 14), .inr (0, [.long (eL (((fun _ => 0) 3 : Nat) : Int)), .long (eL (((fun _ => 1) 3 : Nat) : Int))])), ((ad 15), .inr (0, [.long (eL (((fun _ => 0) 4 : Nat) : Int)), .long (eL (((fun _ => 1) 4 : Nat) : Int))])), ((ad 16), .inr (0, [.long (eL (((fun _ => 0) 0 : Nat) : Int)), .long (eL (((fun _ => 1) 0 : Nat) : Int))])), ((ad 17), .inr (0, [.long (eL (((fun _ => 0) 1 : Nat) : Int)), .long (eL (((fun _ => 1) 1 : Nat) : Int))])), ((ad 18), .inr (0, [.long (eL (((fun _ => 0) 2 : Nat) : Int)), .long (eL (((fun _ => 1) 2 : Nat) : Int))])), ((ad 19), .inr (0, [.long (eL (((fun _ => 0) 3 : Nat) : Int)), .long (eL (((fun _ => 1) 3 : Nat) : Int))])), ((ad 20), .inr (0, [.long (eL (((fun _ => 0) 4 : Nat) : Int)), .long (eL (((fun _ => 1) 4 : Nat) : Int))])), ((ad 21), .inr (3, [.int (eI ((fun _ => -1) 0)), .int (eI ((fun _ => 0) 0)), .int (eI ((fun _ => 0) 0))])), ((ad 22), .inr (3, [.int (eI ((fun _ => -1) 1)), .int (eI ((fun _ => 0) 1)), .int (eI ((fun _ => 0) 1))])), ((ad 23), .inr (3, [.int (eI ((fun _ => -1) 2)), .int (eI ((fun _ => 0) 2)), .int (eI ((fun _ => 0) 2))])), ((ad 24), .inr (1, [.ref (ad 25), .ref (ad 26), .ref (ad 27), .ref (ad 28), .ref (ad 29), .ref (ad 30), .ref (ad 31), .int (eI 0)])), ((ad 25), aI cI 82 (fun _ => 0)), ((ad 26), aI cI 82 (fun _ => 0)), ((ad 27), aI cI 82 (fun _ => 0)), ((ad 28), aL cL 82 (fun _ => 0)), ((ad 29), aI cI 30 (fun _ => 0)), ((ad 30), aL cL 12 (fun _ => 0)), ((ad 31), aI cI 12 (fun _ => 0)), (q2, .inr (5, [.int (eI 0), .int (eI 0), .null, .null, .null, .int (eI 0), .int (eI 0), .null, .null, .null, .null, .null, .long (eL 0), .long (eL 0), .null, .null, .null, .null, .null, .null, .null, .int (eI 0), .int (eI 0)]))] := hD
  refine lv_dup hx hb d_L_law_11 rfl ?_
  refine eh_cCI (rest := [.ref q2]) (wr := [((ad 0), .inr (4, [.ref (ad 1), .ref (ad 2), .ref (ad 3), .ref (ad 4), .ref (ad 5), .ref (ad 24), .int (eI ((0 : Nat) : Int)), .int (eI 1000), .int (eI 1), .int (eI 0), .long (eL (-1))])), ((ad 1), .inl (cS, 5, .inr (.inr (.inr (.inr (eh_o5 (ad 6) (ad 7) (ad 8) (ad 9) (ad 10))))))), ((ad 2), aI cI 4 (fun _ => 0)), ((ad 3), aI cZ 3 cb0), ((ad 4), .inl (cY, 3, .inr (.inr (.inr (.inr (eh_o3 (ad 21) (ad 22) (ad 23))))))), ((ad 5), aI cI 30 la0), ((ad 6), .inr (2, [.ref (ad 11), .ref (ad 16)])), ((ad 7), .inr (2, [.ref (ad 12), .ref (ad 17)])), ((ad 8), .inr (2, [.ref (ad 13), .ref (ad 18)])), ((ad 9), .inr (2, [.ref (ad 14), .ref (ad 19)])), ((ad 10), .inr (2, [.ref (ad 15), .ref (ad 20)])), ((ad 11), .inr (0, [.long (eL (((fun _ => 0) 0 : Nat) : Int)), .long (eL (((fun _ => 1) 0 : Nat) : Int))])), ((ad 12), .inr (0, [.long (eL (((fun _ => 0) 1 : Nat) : Int)), .long (eL (((fun _ => 1) 1 : Nat) : Int))])), ((ad 13), .inr (0, [.long (eL (((fun _ => 0) 2 : Nat) : Int)), .long (eL (((fun _ => 1) 2 : Nat) : Int))])), ((ad 14), .inr (0, [.long (eL (((fun _ => 0) 3 : Nat) : Int)), .long (eL (((fun _ => 1) 3 : Nat) : Int))])), ((ad 15), .inr (0, [.long (eL (((fun _ => 0) 4 : Nat) : Int)), .long (eL (((fun _ => 1) 4 : Nat) : Int))])), ((ad 16), .inr (0, [.long (eL (((fun _ => 0) 0 : Nat) : Int)), .long (eL (((fun _ => 1) 0 : Nat) : Int))])), ((ad 17), .inr (0, [.long (eL (((fun _ => 0) 1 : Nat) : Int)), .long (eL (((fun _ => 1) 1 : Nat) : Int))])), ((ad 18), .inr (0, [.long (eL (((fun _ => 0) 2 : Nat) : Int)), .long (eL (((fun _ => 1) 2 : Nat) : Int))])), ((ad 19), .inr (0, [.long (eL (((fun _ => 0) 3 : Nat) : Int)), .long (eL (((fun _ => 1) 3 : Nat) : Int))])), ((ad 20), .inr (0, [.long (eL (((fun _ => 0) 4 : Nat) : Int)), .long (eL (((fun _ => 1) 4 : Nat) : Int))])), ((ad 21), .inr (3, [.int (eI ((fun _ => -1) 0)), .int (eI ((fun _ => 0) 0)), .int (eI ((fun _ => 0) 0))])), ((ad 22), .inr (3, [.int (eI ((fun _ => -1) 1)), .int (eI ((fun _ => 0) 1)), .int (eI ((fun _ => 0) 1))])), ((ad 23), .inr (3, [.int (eI ((fun _ => -1) 2)), .int (eI ((fun _ => 0) 2)), .int (eI ((fun _ => 0) 2))])), ((ad 24), .inr (1, [.ref (ad 25), .ref (ad 26), .ref (ad 27), .ref (ad 28), .ref (ad 29), .ref (ad 30), .ref (ad 31), .int (eI 0)])), ((ad 25), aI cI 82 (fun _ => 0)), ((ad 26), aI cI 82 (fun _ => 0)), ((ad 27), aI cI 82 (fun _ => 0)), ((ad 28), aL cL 82 (fun _ => 0)), ((ad 29), aI cI 30 (fun _ => 0)), ((ad 30), aL cL 12 (fun _ => 0)), ((ad 31), aI cI 12 (fun _ => 0))]) hx hb hml hown htb hN hao (i_M_init l D cI cL cZ q2) tb_584 tb_7 kin_M_init tb_585 rfl dz_M_init ⟨by rw [hR1]; decide, by rw [hR2]; decide⟩ hK hP hD hS hA [32] [0, 1, 2, 3, 4, 5, 6, 7, 8, 9, 10, 11, 12, 13, 14, 15, 16, 17, 18, 19, 20, 21, 22, 23, 24, 25, 26, 27, 28, 29, 30, 31] rfl rfl (by decide) rfl (by decide) (by decide) [0, 1, 2] rfl rfl hl.1 (Nat.le_of_ble_eq_true rfl) d_L_law_12 ⟨by rw [hR3]; decide, by rw [hR4]; decide⟩ (fun u H locs hu hP hD hS => ?_)
  obtain ⟨md, hmd⟩ : ∃ md : Nat → Nat, md = u := ⟨u, rfl⟩
  subst hmd
  have hq1 : md 0 = q2 := hu
  have hP9 := hP
  have hD9 := hD
  have hS9 := hS
  subst hq1
  have hP := hP9
  have hD := hD9
  have hS := hS9
  have hP : va_P D classes [((ad 0), .inr (4, [.ref (ad 1), .ref (ad 2), .ref (ad 3), .ref (ad 4), .ref (ad 5), .ref (ad 24), .int (eI ((0 : Nat) : Int)), .int (eI 1000), .int (eI 1), .int (eI 0), .long (eL (-1))])), ((ad 1), .inl (cS, 5, .inr (.inr (.inr (.inr (eh_o5 (ad 6) (ad 7) (ad 8) (ad 9) (ad 10))))))), ((ad 2), aI cI 4 (fun _ => 0)), ((ad 3), aI cZ 3 cb0), ((ad 4), .inl (cY, 3, .inr (.inr (.inr (.inr (eh_o3 (ad 21) (ad 22) (ad 23))))))), ((ad 5), aI cI 30 la0), ((ad 6), .inr (2, [.ref (ad 11), .ref (ad 16)])), ((ad 7), .inr (2, [.ref (ad 12), .ref (ad 17)])), ((ad 8), .inr (2, [.ref (ad 13), .ref (ad 18)])), ((ad 9), .inr (2, [.ref (ad 14), .ref (ad 19)])), ((ad 10), .inr (2, [.ref (ad 15), .ref (ad 20)])), ((ad 11), .inr (0, [.long (eL (((fun _ => 0) 0 : Nat) : Int)), .long (eL (((fun _ => 1) 0 : Nat) : Int))])), ((ad 12), .inr (0, [.long (eL (((fun _ => 0) 1 : Nat) : Int)), .long (eL (((fun _ => 1) 1 : Nat) : Int))])), ((ad 13), .inr (0, [.long (eL (((fun _ => 0) 2 : Nat) : Int)), .long (eL (((fun _ => 1) 2 : Nat) : Int))])), ((ad 14), .inr (0, [.long (eL (((fun _ => 0) 3 : Nat) : Int)), .long (eL (((fun _ => 1) 3 : Nat) : Int))])), ((ad 15), .inr (0, [.long (eL (((fun _ => 0) 4 : Nat) : Int)), .long (eL (((fun _ => 1) 4 : Nat) : Int))])), ((ad 16), .inr (0, [.long (eL (((fun _ => 0) 0 : Nat) : Int)), .long (eL (((fun _ => 1) 0 : Nat) : Int))])), ((ad 17), .inr (0, [.long (eL (((fun _ => 0) 1 : Nat) : Int)), .long (eL (((fun _ => 1) 1 : Nat) : Int))])), ((ad 18), .inr (0, [.long (eL (((fun _ => 0) 2 : Nat) : Int)), .long (eL (((fun _ => 1) 2 : Nat) : Int))])), ((ad 19), .inr (0, [.long (eL (((fun _ => 0) 3 : Nat) : Int)), .long (eL (((fun _ => 1) 3 : Nat) : Int))])), ((ad 20), .inr (0, [.long (eL (((fun _ => 0) 4 : Nat) : Int)), .long (eL (((fun _ => 1) 4 : Nat) : Int))])), ((ad 21), .inr (3, [.int (eI ((fun _ => -1) 0)), .int (eI ((fun _ => 0) 0)), .int (eI ((fun _ => 0) 0))])), ((ad 22), .inr (3, [.int (eI ((fun _ => -1) 1)), .int (eI ((fun _ => 0) 1)), .int (eI ((fun _ => 0) 1))])), ((ad 23), .inr (3, [.int (eI ((fun _ => -1) 2)), .int (eI ((fun _ => 0) 2)), .int (eI ((fun _ => 0) 2))])), ((ad 24), .inr (1, [.ref (ad 25), .ref (ad 26), .ref (ad 27), .ref (ad 28), .ref (ad 29), .ref (ad 30), .ref (ad 31), .int (eI 0)])), ((ad 25), aI cI 82 (fun _ => 0)), ((ad 26), aI cI 82 (fun _ => 0)), ((ad 27), aI cI 82 (fun _ => 0)), ((ad 28), aL cL 82 (fun _ => 0)), ((ad 29), aI cI 30 (fun _ => 0)), ((ad 30), aL cL 12 (fun _ => 0)), ((ad 31), aI cI 12 (fun _ => 0)), ((md 0), .inr (5, [.int (eI 0), .int (eI 0), .ref (md 1), .ref (md 2), .ref (md 3), .int (eI 1000), .int (eI 1), .ref (md 4), .ref (md 5), .ref (md 6), .ref (md 7), .ref (md 8), .long (eL 0), .long (eL 0), .ref (md 9), .ref (md 10), .ref (md 11), .ref (md 12), .ref (md 13), .ref (md 14), .ref (md 15), .int (eI 0), .int (eI 0)])), ((md 1), aI cI 25 (fun _ => 0)), ((md 2), aI cI 4 (fun _ => 0)), ((md 3), aI cZ 4 (fun _ => 0)), ((md 4), aI cZ 3 (fun _ => 0)), ((md 5), aI cI 3 (fun _ => 0)), ((md 6), aI cI 3 (fun _ => 0)), ((md 7), aI cI 3 (fun _ => 0)), ((md 8), aI cI 30 (fun _ => 0)), ((md 9), aL cL 7 (fun _ => 0)), ((md 10), aL cL 6 (fun _ => 0)), ((md 11), aL cL 42 (fun _ => 0)), ((md 12), aI cI 42 (fun _ => 0)), ((md 13), aL cL 13 (fun _ => 0)), ((md 14), aL cL 13 (fun _ => 0)), ((md 15), aI cI 13 (fun _ => 0))] H := hP
  have hD : va_D A [((ad 0), .inr (4, [.ref (ad 1), .ref (ad 2), .ref (ad 3), .ref (ad 4), .ref (ad 5), .ref (ad 24), .int (eI ((0 : Nat) : Int)), .int (eI 1000), .int (eI 1), .int (eI 0), .long (eL (-1))])), ((ad 1), .inl (cS, 5, .inr (.inr (.inr (.inr (eh_o5 (ad 6) (ad 7) (ad 8) (ad 9) (ad 10))))))), ((ad 2), aI cI 4 (fun _ => 0)), ((ad 3), aI cZ 3 cb0), ((ad 4), .inl (cY, 3, .inr (.inr (.inr (.inr (eh_o3 (ad 21) (ad 22) (ad 23))))))), ((ad 5), aI cI 30 la0), ((ad 6), .inr (2, [.ref (ad 11), .ref (ad 16)])), ((ad 7), .inr (2, [.ref (ad 12), .ref (ad 17)])), ((ad 8), .inr (2, [.ref (ad 13), .ref (ad 18)])), ((ad 9), .inr (2, [.ref (ad 14), .ref (ad 19)])), ((ad 10), .inr (2, [.ref (ad 15), .ref (ad 20)])), ((ad 11), .inr (0, [.long (eL (((fun _ => 0) 0 : Nat) : Int)), .long (eL (((fun _ => 1) 0 : Nat) : Int))])), ((ad 12), .inr (0, [.long (eL (((fun _ => 0) 1 : Nat) : Int)), .long (eL (((fun _ => 1) 1 : Nat) : Int))])), ((ad 13), .inr (0, [.long (eL (((fun _ => 0) 2 : Nat) : Int)), .long (eL (((fun _ => 1) 2 : Nat) : Int))])), ((ad 14), .inr (0, [.long (eL (((fun _ => 0) 3 : Nat) : Int)), .long (eL (((fun _ => 1) 3 : Nat) : Int))])), ((ad 15), .inr (0, [.long (eL (((fun _ => 0) 4 : Nat) : Int)), .long (eL (((fun _ => 1) 4 : Nat) : Int))])), ((ad 16), .inr (0, [.long (eL (((fun _ => 0) 0 : Nat) : Int)), .long (eL (((fun _ => 1) 0 : Nat) : Int))])), ((ad 17), .inr (0, [.long (eL (((fun _ => 0) 1 : Nat) : Int)), .long (eL (((fun _ => 1) 1 : Nat) : Int))])), ((ad 18), .inr (0, [.long (eL (((fun _ => 0) 2 : Nat) : Int)), .long (eL (((fun _ => 1) 2 : Nat) : Int))])), ((ad 19), .inr (0, [.long (eL (((fun _ => 0) 3 : Nat) : Int)), .long (eL (((fun _ => 1) 3 : Nat) : Int))])), ((ad 20), .inr (0, [.long (eL (((fun _ => 0) 4 : Nat) : Int)), .long (eL (((fun _ => 1) 4 : Nat) : Int))])), ((ad 21), .inr (3, [.int (eI ((fun _ => -1) 0)), .int (eI ((fun _ => 0) 0)), .int (eI ((fun _ => 0) 0))])), ((ad 22), .inr (3, [.int (eI ((fun _ => -1) 1)), .int (eI ((fun _ => 0) 1)), .int (eI ((fun _ => 0) 1))])), ((ad 23), .inr (3, [.int (eI ((fun _ => -1) 2)), .int (eI ((fun _ => 0) 2)), .int (eI ((fun _ => 0) 2))])), ((ad 24), .inr (1, [.ref (ad 25), .ref (ad 26), .ref (ad 27), .ref (ad 28), .ref (ad 29), .ref (ad 30), .ref (ad 31), .int (eI 0)])), ((ad 25), aI cI 82 (fun _ => 0)), ((ad 26), aI cI 82 (fun _ => 0)), ((ad 27), aI cI 82 (fun _ => 0)), ((ad 28), aL cL 82 (fun _ => 0)), ((ad 29), aI cI 30 (fun _ => 0)), ((ad 30), aL cL 12 (fun _ => 0)), ((ad 31), aI cI 12 (fun _ => 0)), ((md 0), .inr (5, [.int (eI 0), .int (eI 0), .ref (md 1), .ref (md 2), .ref (md 3), .int (eI 1000), .int (eI 1), .ref (md 4), .ref (md 5), .ref (md 6), .ref (md 7), .ref (md 8), .long (eL 0), .long (eL 0), .ref (md 9), .ref (md 10), .ref (md 11), .ref (md 12), .ref (md 13), .ref (md 14), .ref (md 15), .int (eI 0), .int (eI 0)])), ((md 1), aI cI 25 (fun _ => 0)), ((md 2), aI cI 4 (fun _ => 0)), ((md 3), aI cZ 4 (fun _ => 0)), ((md 4), aI cZ 3 (fun _ => 0)), ((md 5), aI cI 3 (fun _ => 0)), ((md 6), aI cI 3 (fun _ => 0)), ((md 7), aI cI 3 (fun _ => 0)), ((md 8), aI cI 30 (fun _ => 0)), ((md 9), aL cL 7 (fun _ => 0)), ((md 10), aL cL 6 (fun _ => 0)), ((md 11), aL cL 42 (fun _ => 0)), ((md 12), aI cI 42 (fun _ => 0)), ((md 13), aL cL 13 (fun _ => 0)), ((md 14), aL cL 13 (fun _ => 0)), ((md 15), aI cI 13 (fun _ => 0))] := hD
  refine lv_astore_n hx hb d_L_law_15 rfl hl (by decide) rfl (fun ls hl => ?_)
  have hl : lv_has ls 8 [(2, .ref (md 0)), (1, .ref (ad 0)), (0, .ref b)] := hl
  refine lv_iconst (v := eI 1) hx hb d_L_law_16 rfl ?_
  refine we_newaL hx hb (htb _ tb_60) hK 1 rfl hP hD hS hA 1 (by decide) (by rw [hR3]; decide) (by rw [hR4]; decide) d_L_law_17 (fun q3 H hP hD hS => ?_)
  have hP : va_P D classes [((ad 0), .inr (4, [.ref (ad 1), .ref (ad 2), .ref (ad 3), .ref (ad 4), .ref (ad 5), .ref (ad 24), .int (eI ((0 : Nat) : Int)), .int (eI 1000), .int (eI 1), .int (eI 0), .long (eL (-1))])), ((ad 1), .inl (cS, 5, .inr (.inr (.inr (.inr (eh_o5 (ad 6) (ad 7) (ad 8) (ad 9) (ad 10))))))), ((ad 2), aI cI 4 (fun _ => 0)), ((ad 3), aI cZ 3 cb0), ((ad 4), .inl (cY, 3, .inr (.inr (.inr (.inr (eh_o3 (ad 21) (ad 22) (ad 23))))))), ((ad 5), aI cI 30 la0), ((ad 6), .inr (2, [.ref (ad 11), .ref (ad 16)])), ((ad 7), .inr (2, [.ref (ad 12), .ref (ad 17)])), ((ad 8), .inr (2, [.ref (ad 13), .ref (ad 18)])), ((ad 9), .inr (2, [.ref (ad 14), .ref (ad 19)])), ((ad 10), .inr (2, [.ref (ad 15), .ref (ad 20)])), ((ad 11), .inr (0, [.long (eL (((fun _ => 0) 0 : Nat) : Int)), .long (eL (((fun _ => 1) 0 : Nat) : Int))])), ((ad 12), .inr (0, [.long (eL (((fun _ => 0) 1 : Nat) : Int)), .long (eL (((fun _ => 1) 1 : Nat) : Int))])), ((ad 13), .inr (0, [.long (eL (((fun _ => 0) 2 : Nat) : Int)), .long (eL (((fun _ => 1) 2 : Nat) : Int))])), ((ad 14), .inr (0, [.long (eL (((fun _ => 0) 3 : Nat) : Int)), .long (eL (((fun _ => 1) 3 : Nat) : Int))])), ((ad 15), .inr (0, [.long (eL (((fun _ => 0) 4 : Nat) : Int)), .long (eL (((fun _ => 1) 4 : Nat) : Int))])), ((ad 16), .inr (0, [.long (eL (((fun _ => 0) 0 : Nat) : Int)), .long (eL (((fun _ => 1) 0 : Nat) : Int))])), ((ad 17), .inr (0, [.long (eL (((fun _ => 0) 1 : Nat) : Int)), .long (eL (((fun _ => 1) 1 : Nat) : Int))])), ((ad 18), .inr (0, [.long (eL (((fun _ => 0) 2 : Nat) : Int)), .long (eL (((fun _ => 1) 2 : Nat) : Int))])), ((ad 19), .inr (0, [.long (eL (((fun _ => 0) 3 : Nat) : Int)), .long (eL (((fun _ => 1) 3 : Nat) : Int))])), ((ad 20), .inr (0, [.long (eL (((fun _ => 0) 4 : Nat) : Int)), .long (eL (((fun _ => 1) 4 : Nat) : Int))])), ((ad 21), .inr (3, [.int (eI ((fun _ => -1) 0)), .int (eI ((fun _ => 0) 0)), .int (eI ((fun _ => 0) 0))])), ((ad 22), .inr (3, [.int (eI ((fun _ => -1) 1)), .int (eI ((fun _ => 0) 1)), .int (eI ((fun _ => 0) 1))])), ((ad 23), .inr (3, [.int (eI ((fun _ => -1) 2)), .int (eI ((fun _ => 0) 2)), .int (eI ((fun _ => 0) 2))])), ((ad 24), .inr (1, [.ref (ad 25), .ref (ad 26), .ref (ad 27), .ref (ad 28), .ref (ad 29), .ref (ad 30), .ref (ad 31), .int (eI 0)])), ((ad 25), aI cI 82 (fun _ => 0)), ((ad 26), aI cI 82 (fun _ => 0)), ((ad 27), aI cI 82 (fun _ => 0)), ((ad 28), aL cL 82 (fun _ => 0)), ((ad 29), aI cI 30 (fun _ => 0)), ((ad 30), aL cL 12 (fun _ => 0)), ((ad 31), aI cI 12 (fun _ => 0)), ((md 0), .inr (5, [.int (eI 0), .int (eI 0), .ref (md 1), .ref (md 2), .ref (md 3), .int (eI 1000), .int (eI 1), .ref (md 4), .ref (md 5), .ref (md 6), .ref (md 7), .ref (md 8), .long (eL 0), .long (eL 0), .ref (md 9), .ref (md 10), .ref (md 11), .ref (md 12), .ref (md 13), .ref (md 14), .ref (md 15), .int (eI 0), .int (eI 0)])), ((md 1), aI cI 25 (fun _ => 0)), ((md 2), aI cI 4 (fun _ => 0)), ((md 3), aI cZ 4 (fun _ => 0)), ((md 4), aI cZ 3 (fun _ => 0)), ((md 5), aI cI 3 (fun _ => 0)), ((md 6), aI cI 3 (fun _ => 0)), ((md 7), aI cI 3 (fun _ => 0)), ((md 8), aI cI 30 (fun _ => 0)), ((md 9), aL cL 7 (fun _ => 0)), ((md 10), aL cL 6 (fun _ => 0)), ((md 11), aL cL 42 (fun _ => 0)), ((md 12), aI cI 42 (fun _ => 0)), ((md 13), aL cL 13 (fun _ => 0)), ((md 14), aL cL 13 (fun _ => 0)), ((md 15), aI cI 13 (fun _ => 0)), (q3, aL cL 1 (fun _ => 0))] H := hP
  have hD : va_D A [((ad 0), .inr (4, [.ref (ad 1), .ref (ad 2), .ref (ad 3), .ref (ad 4), .ref (ad 5), .ref (ad 24), .int (eI ((0 : Nat) : Int)), .int (eI 1000), .int (eI 1), .int (eI 0), .long (eL (-1))])), ((ad 1), .inl (cS, 5, .inr (.inr (.inr (.inr (eh_o5 (ad 6) (ad 7) (ad 8) (ad 9) (ad 10))))))), ((ad 2), aI cI 4 (fun _ => 0)), ((ad 3), aI cZ 3 cb0), ((ad 4), .inl (cY, 3, .inr (.inr (.inr (.inr (eh_o3 (ad 21) (ad 22) (ad 23))))))), ((ad 5), aI cI 30 la0), ((ad 6), .inr (2, [.ref (ad 11), .ref (ad 16)])), ((ad 7), .inr (2, [.ref (ad 12), .ref (ad 17)])), ((ad 8), .inr (2, [.ref (ad 13), .ref (ad 18)])), ((ad 9), .inr (2, [.ref (ad 14), .ref (ad 19)])), ((ad 10), .inr (2, [.ref (ad 15), .ref (ad 20)])), ((ad 11), .inr (0, [.long (eL (((fun _ => 0) 0 : Nat) : Int)), .long (eL (((fun _ => 1) 0 : Nat) : Int))])), ((ad 12), .inr (0, [.long (eL (((fun _ => 0) 1 : Nat) : Int)), .long (eL (((fun _ => 1) 1 : Nat) : Int))])), ((ad 13), .inr (0, [.long (eL (((fun _ => 0) 2 : Nat) : Int)), .long (eL (((fun _ => 1) 2 : Nat) : Int))])), ((ad 14), .inr (0, [.long (eL (((fun _ => 0) 3 : Nat) : Int)), .long (eL (((fun _ => 1) 3 : Nat) : Int))])), ((ad 15), .inr (0, [.long (eL (((fun _ => 0) 4 : Nat) : Int)), .long (eL (((fun _ => 1) 4 : Nat) : Int))])), ((ad 16), .inr (0, [.long (eL (((fun _ => 0) 0 : Nat) : Int)), .long (eL (((fun _ => 1) 0 : Nat) : Int))])), ((ad 17), .inr (0, [.long (eL (((fun _ => 0) 1 : Nat) : Int)), .long (eL (((fun _ => 1) 1 : Nat) : Int))])), ((ad 18), .inr (0, [.long (eL (((fun _ => 0) 2 : Nat) : Int)), .long (eL (((fun _ => 1) 2 : Nat) : Int))])), ((ad 19), .inr (0, [.long (eL (((fun _ => 0) 3 : Nat) : Int)), .long (eL (((fun _ => 1) 3 : Nat) : Int))])), ((ad 20), .inr (0, [.long (eL (((fun _ => 0) 4 : Nat) : Int)), .long (eL (((fun _ => 1) 4 : Nat) : Int))])), ((ad 21), .inr (3, [.int (eI ((fun _ => -1) 0)), .int (eI ((fun _ => 0) 0)), .int (eI ((fun _ => 0) 0))])), ((ad 22), .inr (3, [.int (eI ((fun _ => -1) 1)), .int (eI ((fun _ => 0) 1)), .int (eI ((fun _ => 0) 1))])), ((ad 23), .inr (3, [.int (eI ((fun _ => -1) 2)), .int (eI ((fun _ => 0) 2)), .int (eI ((fun _ => 0) 2))])), ((ad 24), .inr (1, [.ref (ad 25), .ref (ad 26), .ref (ad 27), .ref (ad 28), .ref (ad 29), .ref (ad 30), .ref (ad 31), .int (eI 0)])), ((ad 25), aI cI 82 (fun _ => 0)), ((ad 26), aI cI 82 (fun _ => 0)), ((ad 27), aI cI 82 (fun _ => 0)), ((ad 28), aL cL 82 (fun _ => 0)), ((ad 29), aI cI 30 (fun _ => 0)), ((ad 30), aL cL 12 (fun _ => 0)), ((ad 31), aI cI 12 (fun _ => 0)), ((md 0), .inr (5, [.int (eI 0), .int (eI 0), .ref (md 1), .ref (md 2), .ref (md 3), .int (eI 1000), .int (eI 1), .ref (md 4), .ref (md 5), .ref (md 6), .ref (md 7), .ref (md 8), .long (eL 0), .long (eL 0), .ref (md 9), .ref (md 10), .ref (md 11), .ref (md 12), .ref (md 13), .ref (md 14), .ref (md 15), .int (eI 0), .int (eI 0)])), ((md 1), aI cI 25 (fun _ => 0)), ((md 2), aI cI 4 (fun _ => 0)), ((md 3), aI cZ 4 (fun _ => 0)), ((md 4), aI cZ 3 (fun _ => 0)), ((md 5), aI cI 3 (fun _ => 0)), ((md 6), aI cI 3 (fun _ => 0)), ((md 7), aI cI 3 (fun _ => 0)), ((md 8), aI cI 30 (fun _ => 0)), ((md 9), aL cL 7 (fun _ => 0)), ((md 10), aL cL 6 (fun _ => 0)), ((md 11), aL cL 42 (fun _ => 0)), ((md 12), aI cI 42 (fun _ => 0)), ((md 13), aL cL 13 (fun _ => 0)), ((md 14), aL cL 13 (fun _ => 0)), ((md 15), aI cI 13 (fun _ => 0)), (q3, aL cL 1 (fun _ => 0))] := hD
  refine lv_astore_n hx hb d_L_law_19 rfl hl (by decide) rfl (fun ls hl => ?_)
  have hl : lv_has ls 8 [(3, .ref q3), (2, .ref (md 0)), (1, .ref (ad 0)), (0, .ref b)] := hl
  refine lv_iconst (v := eI 0) hx hb d_L_law_20 rfl ?_
  refine lv_istore hx hb d_L_law_21 hl (by decide) rfl (fun ls hl => ?_)
  have hl : lv_has ls 8 [(4, .int (eI 0)), (3, .ref q3), (2, .ref (md 0)), (1, .ref (ad 0)), (0, .ref b)] := hl
  have hP := eh_Pset (i := 3) hP (fun _ => 0) rfl (fun k hk => hcb0 k hk)
  have hD := eh_Dset (i := 3) (y := aI cZ 3 (fun _ => 0)) hD rfl
  have hP := eh_Pset (i := 5) hP (fun _ => 0) rfl (fun k hk => hla0 k hk)
  have hD := eh_Dset (i := 5) (y := aI cI 30 (fun _ => 0)) hD rfl
  have hP : va_P D classes [((ad 0), .inr (4, [.ref (ad 1), .ref (ad 2), .ref (ad 3), .ref (ad 4), .ref (ad 5), .ref (ad 24), .int (eI ((0 : Nat) : Int)), .int (eI 1000), .int (eI 1), .int (eI 0), .long (eL (-1))])), ((ad 1), .inl (cS, 5, .inr (.inr (.inr (.inr (eh_o5 (ad 6) (ad 7) (ad 8) (ad 9) (ad 10))))))), ((ad 2), aI cI 4 (fun _ => 0)), ((ad 3), aI cZ 3 (fun _ => 0)), ((ad 4), .inl (cY, 3, .inr (.inr (.inr (.inr (eh_o3 (ad 21) (ad 22) (ad 23))))))), ((ad 5), aI cI 30 (fun _ => 0)), ((ad 6), .inr (2, [.ref (ad 11), .ref (ad 16)])), ((ad 7), .inr (2, [.ref (ad 12), .ref (ad 17)])), ((ad 8), .inr (2, [.ref (ad 13), .ref (ad 18)])), ((ad 9), .inr (2, [.ref (ad 14), .ref (ad 19)])), ((ad 10), .inr (2, [.ref (ad 15), .ref (ad 20)])), ((ad 11), .inr (0, [.long (eL (((fun _ => 0) 0 : Nat) : Int)), .long (eL (((fun _ => 1) 0 : Nat) : Int))])), ((ad 12), .inr (0, [.long (eL (((fun _ => 0) 1 : Nat) : Int)), .long (eL (((fun _ => 1) 1 : Nat) : Int))])), ((ad 13), .inr (0, [.long (eL (((fun _ => 0) 2 : Nat) : Int)), .long (eL (((fun _ => 1) 2 : Nat) : Int))])), ((ad 14), .inr (0, [.long (eL (((fun _ => 0) 3 : Nat) : Int)), .long (eL (((fun _ => 1) 3 : Nat) : Int))])), ((ad 15), .inr (0, [.long (eL (((fun _ => 0) 4 : Nat) : Int)), .long (eL (((fun _ => 1) 4 : Nat) : Int))])), ((ad 16), .inr (0, [.long (eL (((fun _ => 0) 0 : Nat) : Int)), .long (eL (((fun _ => 1) 0 : Nat) : Int))])), ((ad 17), .inr (0, [.long (eL (((fun _ => 0) 1 : Nat) : Int)), .long (eL (((fun _ => 1) 1 : Nat) : Int))])), ((ad 18), .inr (0, [.long (eL (((fun _ => 0) 2 : Nat) : Int)), .long (eL (((fun _ => 1) 2 : Nat) : Int))])), ((ad 19), .inr (0, [.long (eL (((fun _ => 0) 3 : Nat) : Int)), .long (eL (((fun _ => 1) 3 : Nat) : Int))])), ((ad 20), .inr (0, [.long (eL (((fun _ => 0) 4 : Nat) : Int)), .long (eL (((fun _ => 1) 4 : Nat) : Int))])), ((ad 21), .inr (3, [.int (eI ((fun _ => -1) 0)), .int (eI ((fun _ => 0) 0)), .int (eI ((fun _ => 0) 0))])), ((ad 22), .inr (3, [.int (eI ((fun _ => -1) 1)), .int (eI ((fun _ => 0) 1)), .int (eI ((fun _ => 0) 1))])), ((ad 23), .inr (3, [.int (eI ((fun _ => -1) 2)), .int (eI ((fun _ => 0) 2)), .int (eI ((fun _ => 0) 2))])), ((ad 24), .inr (1, [.ref (ad 25), .ref (ad 26), .ref (ad 27), .ref (ad 28), .ref (ad 29), .ref (ad 30), .ref (ad 31), .int (eI 0)])), ((ad 25), aI cI 82 (fun _ => 0)), ((ad 26), aI cI 82 (fun _ => 0)), ((ad 27), aI cI 82 (fun _ => 0)), ((ad 28), aL cL 82 (fun _ => 0)), ((ad 29), aI cI 30 (fun _ => 0)), ((ad 30), aL cL 12 (fun _ => 0)), ((ad 31), aI cI 12 (fun _ => 0)), ((md 0), .inr (5, [.int (eI 0), .int (eI ((0 : Nat) : Int)), .ref (md 1), .ref (md 2), .ref (md 3), .int (eI 1000), .int (eI 1), .ref (md 4), .ref (md 5), .ref (md 6), .ref (md 7), .ref (md 8), .long (eL 0), .long (eL 0), .ref (md 9), .ref (md 10), .ref (md 11), .ref (md 12), .ref (md 13), .ref (md 14), .ref (md 15), .int (eI 0), .int (eI 0)])), ((md 1), aI cI 25 (fun _ => 0)), ((md 2), aI cI 4 (fun _ => 0)), ((md 3), aI cZ 4 (fun _ => 0)), ((md 4), aI cZ 3 (fun _ => 0)), ((md 5), aI cI 3 (fun _ => 0)), ((md 6), aI cI 3 (fun _ => 0)), ((md 7), aI cI 3 (fun _ => 0)), ((md 8), aI cI 30 (fun _ => 0)), ((md 9), aL cL 7 (fun _ => 0)), ((md 10), aL cL 6 (fun _ => 0)), ((md 11), aL cL 42 (fun _ => 0)), ((md 12), aI cI 42 (fun _ => 0)), ((md 13), aL cL 13 (fun _ => 0)), ((md 14), aL cL 13 (fun _ => 0)), ((md 15), aI cI 13 (fun _ => 0)), (q3, aL cL 1 (fun _ => 0))] H := hP
  have hD : va_D A [((ad 0), .inr (4, [.ref (ad 1), .ref (ad 2), .ref (ad 3), .ref (ad 4), .ref (ad 5), .ref (ad 24), .int (eI ((0 : Nat) : Int)), .int (eI 1000), .int (eI 1), .int (eI 0), .long (eL (-1))])), ((ad 1), .inl (cS, 5, .inr (.inr (.inr (.inr (eh_o5 (ad 6) (ad 7) (ad 8) (ad 9) (ad 10))))))), ((ad 2), aI cI 4 (fun _ => 0)), ((ad 3), aI cZ 3 (fun _ => 0)), ((ad 4), .inl (cY, 3, .inr (.inr (.inr (.inr (eh_o3 (ad 21) (ad 22) (ad 23))))))), ((ad 5), aI cI 30 (fun _ => 0)), ((ad 6), .inr (2, [.ref (ad 11), .ref (ad 16)])), ((ad 7), .inr (2, [.ref (ad 12), .ref (ad 17)])), ((ad 8), .inr (2, [.ref (ad 13), .ref (ad 18)])), ((ad 9), .inr (2, [.ref (ad 14), .ref (ad 19)])), ((ad 10), .inr (2, [.ref (ad 15), .ref (ad 20)])), ((ad 11), .inr (0, [.long (eL (((fun _ => 0) 0 : Nat) : Int)), .long (eL (((fun _ => 1) 0 : Nat) : Int))])), ((ad 12), .inr (0, [.long (eL (((fun _ => 0) 1 : Nat) : Int)), .long (eL (((fun _ => 1) 1 : Nat) : Int))])), ((ad 13), .inr (0, [.long (eL (((fun _ => 0) 2 : Nat) : Int)), .long (eL (((fun _ => 1) 2 : Nat) : Int))])), ((ad 14), .inr (0, [.long (eL (((fun _ => 0) 3 : Nat) : Int)), .long (eL (((fun _ => 1) 3 : Nat) : Int))])), ((ad 15), .inr (0, [.long (eL (((fun _ => 0) 4 : Nat) : Int)), .long (eL (((fun _ => 1) 4 : Nat) : Int))])), ((ad 16), .inr (0, [.long (eL (((fun _ => 0) 0 : Nat) : Int)), .long (eL (((fun _ => 1) 0 : Nat) : Int))])), ((ad 17), .inr (0, [.long (eL (((fun _ => 0) 1 : Nat) : Int)), .long (eL (((fun _ => 1) 1 : Nat) : Int))])), ((ad 18), .inr (0, [.long (eL (((fun _ => 0) 2 : Nat) : Int)), .long (eL (((fun _ => 1) 2 : Nat) : Int))])), ((ad 19), .inr (0, [.long (eL (((fun _ => 0) 3 : Nat) : Int)), .long (eL (((fun _ => 1) 3 : Nat) : Int))])), ((ad 20), .inr (0, [.long (eL (((fun _ => 0) 4 : Nat) : Int)), .long (eL (((fun _ => 1) 4 : Nat) : Int))])), ((ad 21), .inr (3, [.int (eI ((fun _ => -1) 0)), .int (eI ((fun _ => 0) 0)), .int (eI ((fun _ => 0) 0))])), ((ad 22), .inr (3, [.int (eI ((fun _ => -1) 1)), .int (eI ((fun _ => 0) 1)), .int (eI ((fun _ => 0) 1))])), ((ad 23), .inr (3, [.int (eI ((fun _ => -1) 2)), .int (eI ((fun _ => 0) 2)), .int (eI ((fun _ => 0) 2))])), ((ad 24), .inr (1, [.ref (ad 25), .ref (ad 26), .ref (ad 27), .ref (ad 28), .ref (ad 29), .ref (ad 30), .ref (ad 31), .int (eI 0)])), ((ad 25), aI cI 82 (fun _ => 0)), ((ad 26), aI cI 82 (fun _ => 0)), ((ad 27), aI cI 82 (fun _ => 0)), ((ad 28), aL cL 82 (fun _ => 0)), ((ad 29), aI cI 30 (fun _ => 0)), ((ad 30), aL cL 12 (fun _ => 0)), ((ad 31), aI cI 12 (fun _ => 0)), ((md 0), .inr (5, [.int (eI 0), .int (eI ((0 : Nat) : Int)), .ref (md 1), .ref (md 2), .ref (md 3), .int (eI 1000), .int (eI 1), .ref (md 4), .ref (md 5), .ref (md 6), .ref (md 7), .ref (md 8), .long (eL 0), .long (eL 0), .ref (md 9), .ref (md 10), .ref (md 11), .ref (md 12), .ref (md 13), .ref (md 14), .ref (md 15), .int (eI 0), .int (eI 0)])), ((md 1), aI cI 25 (fun _ => 0)), ((md 2), aI cI 4 (fun _ => 0)), ((md 3), aI cZ 4 (fun _ => 0)), ((md 4), aI cZ 3 (fun _ => 0)), ((md 5), aI cI 3 (fun _ => 0)), ((md 6), aI cI 3 (fun _ => 0)), ((md 7), aI cI 3 (fun _ => 0)), ((md 8), aI cI 30 (fun _ => 0)), ((md 9), aL cL 7 (fun _ => 0)), ((md 10), aL cL 6 (fun _ => 0)), ((md 11), aL cL 42 (fun _ => 0)), ((md 12), aI cI 42 (fun _ => 0)), ((md 13), aL cL 13 (fun _ => 0)), ((md 14), aL cL 13 (fun _ => 0)), ((md 15), aI cI 13 (fun _ => 0)), (q3, aL cL 1 (fun _ => 0))] := hD
  refine W.widen (k := 49 + 0) (n := 720 + 6 * 0) (by decide) (by decide) ?_
  exact lw_loop (ou := q3) hC hL hAe hlast (L / 6) 0 H locs ls (by omega) (by omega) ⟨0, 1000, 1, 0, (-1), (fun _ => 0), (fun _ => 0), (fun _ => 0), (fun _ => 0), (fun _ => 1), (fun _ => 0), (fun _ => 1), (fun _ => -1), (fun _ => 0), (fun _ => 0), 0, (fun _ => 0), (fun _ => 0), (fun _ => 0), (fun _ => 0), (fun _ => 0), (fun _ => 0), (fun _ => 0), 0, 0, 0, 0, 0, (fun _ => 0), (fun _ => 0), (fun _ => 0), (fun _ => 0), (fun _ => 0), (fun _ => 0), (fun _ => 0), (fun _ => 0), (fun _ => 0), (fun _ => 0), (fun _ => 0), (fun _ => 0), (fun _ => 0), eh_MS_cl (fun _ _ => rfl) (fun _ _ => rfl) (fun _ _ => rfl), Or.inl rfl, Or.inl rfl, hP, hD, hS⟩ (lv_sub hl [0, 4, 3, 2, 1] rfl)
set_option maxHeartbeats 4000000 in
theorem lw_walk (l : Launch) (hl0 : l.stackTraces = false) (b : Addr) (xs : List Int32) : MetFree l x (headSpec (Jvm.Cond.code x code maxLocals ret :: tables_1) room_1) (lw_P b xs) (fun _ _ _ _ _ => True) lw_Q := by
  refine MetFree.of_bodyS (code := code) (maxLocals := maxLocals) (ret := ret) (by decide) ?_ ?_
  · intro args s m h hn
    obtain ⟨meth, c, h1, h2, h3, h4, h5, h6, -, -⟩ := Cond.code_spec hn (atoms_spec (ws := Jvm.Cond.code x code maxLocals ret :: tables_1) h _ List.mem_cons_self)
    exact ⟨meth, c, h1, h2, h3, h4, h5, h6⟩
  · intro p e s m args below meth c s₁ B hml0 hP _
    obtain ⟨rfl, hx, hbd, hgv⟩ := hP
    obtain ⟨scr, harrAt, hlist, hof, hsmall⟩ := hx
    obtain ⟨hcb, hkn, -, -⟩ := State.arrayAt?_spec harrAt
    have hown : s.vm.findClass R_law = some m.cls := findClass_of_methodNamed B.named
    have hts0 : ∀ c ∈ (Jvm.Cond.code x code maxLocals ret :: tables_1), c.before #[Value.ref b] s = true := atoms_spec (ws := Jvm.Cond.code x code maxLocals ret :: tables_1) B.pre
    have hts : ∀ w ∈ lw_tbl, w.before #[Value.ref b] s = true := k2_hts_sels lw_privs (fun w hw => hts0 w (List.mem_cons_of_mem _ hw)) lw_privs_ok
    have hml : c.maxLocals = 8 := B.maxLocals_eq (hts0 _ List.mem_cons_self)
    have X₀ : Stand p l e room_1 s m #[Value.ref b] below meth c s₁ [] 0 0 := Stand.of_body B
    have hh0 : s₁.heap = s.heap := by rw [B.state]; rfl
    have hsz : scr.slots.size = xs.length := by rw [← Array.length_toList, hlist, List.length_map]
    have hval : ∀ j : Nat, j < xs.length → scr.slots[j]? = some (.int (xs.getD j 0)) := fun j hj => by
      rw [← Array.getElem?_toList, hlist]
      simp [hj]
    have hbl : b < s.heap.size := (Array.getElem?_eq_some_iff.mp hcb).1
    have hX : va_X b xs.length (fun j => xs.getD j 0) s s.heap := ⟨scr, hcb, hof, hkn, hsz, hval⟩
    have K : W p l e room_1 s m #[Value.ref b] below meth c s₁.heap [] 0 0 (lw_Z below #[Value.ref b] s) (entryFrame m ([Value.ref b] : List Value).toArray 8) := by
      rw [hh0]
      exact whole_start l hl0 hbd ⟨B.exec, B.bytes, B.returns, hml, hown, hts, hX, hbl, B.notSynchronized, hgv⟩
    obtain ⟨t, a1, o, b1, b2, b3⟩ := K s₁ rfl X₀
    exact ⟨t, o, a1, b1, b2, b3⟩
theorem lw_pre_spec {args : Array Value} {s : State} (h : (Jvm.Cond.and given_1 narrow_1).before args s = true) (hr : rest_1_c.before args s = true) : ∃ (b : Addr) (xs : List Int32), lw_P b xs args s := by
  have hs := flat_of_before _ h
  have hq := flat_of_before _ hr
  have hc : (Cond.count 1).before args s = true := hs _ (by decide +kernel)
  have harr : (Cond.arrayOf (.arg 0) .int).before args s = true := hs _ (by decide +kernel)
  have hle : (Cond.le (.length (.arg 0)) (.int 3072)).before args s = true := hs _ (by decide +kernel)
  have hlen : (Cond.isInt (.length (.arg 0))).before args s = true := hq _ (by decide +kernel)
  have hall : (Cond.all (.arg 0) (.isInt (.elem (.arg 0) (.index 0)))).before args s = true := hq _ (by decide +kernel)
  obtain ⟨b, xs, hb, hx⟩ := State.ints_of_pre rfl harr hlen hall
  have hsm : xs.length < 2 ^ 31 := hx.choose_spec.2.2.2
  have hev : (Term.length (.arg 0)).eval args s none [] s = some (.int xs.length.toInt32) := hx.length_eval hb
  have hv := Cond.le_ints hev (show (Term.int 3072).eval args s none [] s = some (.int 3072) from rfl)
  have hd : xs.length.toInt32 ≤ 3072 := by
    simpa [Cond.before, Cond.holds, hv] using hle
  have hN : xs.length ≤ 3072 := (Int32.ofNat_le_ofNat hsm (by decide)).mp (show Int32.ofNat xs.length ≤ Int32.ofNat 3072 from hd)
  exact ⟨b, xs, Cond.one_arg hc (show args[0]? = some (.ref b) from hb), hx, hN, h⟩
theorem lw_comes (l : Launch) (hl0 : l.stackTraces = false) : Comes l x (Jvm.Cond.code x code maxLocals ret :: tables_1) room_1 (fun tb e args s => Calls_1 tb e args s ∧ rest_1 tb e args s ∧ Pre_1 tb e args s)
    (fun _ _ args s o t => lw_Q args s o t) := by
  intro p e ha hc hk s m args below hf hfit hheap happ hpre
  obtain ⟨b, xs, hP⟩ := lw_pre_spec hpre.2.2 hpre.2.1
  obtain ⟨k, o, h1, h2, h3, hQ⟩ := lw_walk l hl0 b xs p e ha hc hk s m args below hf ((Spec.applies_iff_loose hf).mp happ).1 hP trivial
  exact ⟨k, o, h1, h2, h3, hQ⟩
theorem lw_frame {s t : State} {o : Outcome} {args : Array Value} (h : Framed s o t [] 625930 7218314) :
    Framed s o t (fieldLocs frame_1_writes args s ++ arrayLocs frame_1_arrays args s ++ staticLocs frame_1_statics s) 625930 7218314 := h
theorem lw_limb (L : Cond) (hL : ∀ (args : Array Value) (s t : State), L.after args s (.returned (some (.int 1))) t = true) :
    ArmFor flags0 classFile x code maxLocals ret World_1 tables_1 room_1 Calls_1 rest_1 Pre_1
      (fun tb e a s o t => postC L tb e a s o t ∧ Framed s o t (fieldLocs frame_1_writes a s ++ arrayLocs frame_1_arrays a s ++ staticLocs frame_1_statics s) 625930 7218314) := by
  intro l hfl _ _ p e ha hc hk s m args below hf hfit hheap happ hpre
  have hl0 : l.stackTraces = false := by unfold Launch.stackTraces; rw [hfl]; decide
  obtain ⟨k, o, h1, h2, h3, rfl, hF⟩ := lw_comes l hl0 p e ha hc hk s m args below hf hfit hheap happ hpre
  exact ⟨k, _, h1, h2, h3, hL args s _, lw_frame hF⟩
theorem i_vc : Claimed_1_1 ∧ Claimed_1_2 := ⟨lw_limb limb_1_1 (fun args s t => by simp [limb_1_1, Cond.after, Cond.holds, Cond.value]), lw_limb limb_1_2 (fun args s t => Cond.after_iff.mpr (by
  first | (rw [show limb_1_2 = Cond.eq .result (.int 1) from rfl, Cond.eq_ints (x := 1) (y := 1) rfl rfl]; simp; done) | (simp [limb_1_2, Cond.value, Term.eval]; done)))⟩

