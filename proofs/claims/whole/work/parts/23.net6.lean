abbrev c_E_pairOf : ByteArray := prog_1_method_28_code
def y_E_pairOf : MethodName := ⟨"EarthHauls", "pairOf", "(II)I"⟩
abbrev k_E_pairOf : Cond := .code y_E_pairOf c_E_pairOf 2 (some .int)
theorem kin_E_pairOf : k_E_pairOf ∈ ew_t := tb_247
theorem dv_E_pairOf : eh_dS y_E_pairOf 2 := ⟨by decide, by decide, by decide +kernel⟩
theorem d_E_pairOf_0 : decode c_E_pairOf 0 = .ok (.iconst 5, 1) := by decide +kernel
theorem d_E_pairOf_1 : decode c_E_pairOf 1 = .ok (.iload_n 0, 1) := by decide +kernel
theorem d_E_pairOf_2 : decode c_E_pairOf 2 = .ok (.imul, 1) := by decide +kernel
theorem d_E_pairOf_3 : decode c_E_pairOf 3 = .ok (.iload_n 1, 1) := by decide +kernel
theorem d_E_pairOf_4 : decode c_E_pairOf 4 = .ok (.iadd, 1) := by decide +kernel
theorem d_E_pairOf_5 : decode c_E_pairOf 5 = .ok (.ireturn, 1) := by decide +kernel
set_option maxHeartbeats 4000000 in
set_option maxRecDepth 100000 in
theorem r_E_pairOf (l : Launch) (D : va_G) (y z : Int) : eh_R l y_E_pairOf k_E_pairOf 0 0 D classes [] [.int (eI y), .int (eI z)] [] (.int (eI (5 * y + z))) := by
  refine Met.ofW (cc := c_E_pairOf) (maxL := 2) (ret := (some .int)) (by decide) rfl ?_
  intro p e s m args below meth c s₁ B hml hv
  obtain ⟨hargs, hP, hK, hN⟩ := hv
  have hx := B.exec
  have hb := B.bytes
  have hrt := B.returns
  have hts := atoms_spec (ws := k_E_pairOf :: ew_t) B.pre
  have htb : ∀ w ∈ ew_t, w.before args s = true := fun w h => hts w (List.mem_cons_of_mem _ h)
  have hown : s.vm.findClass "EarthHauls" = some m.cls := findClass_of_methodNamed B.named
  have hlocks := B.notSynchronized
  have hE : entryFrame m args 2 = entryFrame m ([.int (eI y), .int (eI z)] : List Value).toArray 2 := by rw [hargs]
  rw [hE]
  clear hE hts B hargs
  generalize hRe : (headSpec _ _).room = R
  have hR1 : R.frames = 0 := by rw [← hRe]; rfl
  have hR2 : R.locals = 0 := by rw [← hRe]; rfl
  clear hRe
  generalize hQ : MQ below _ _ s 0 0 _ = Q
  have hP : va_P D classes [] s.heap := hP
  have hl := lv_entry ([.int (eI y), .int (eI z)]) (n := 2) (Nat.le_of_ble_eq_true rfl)
  rw [lg_entry_eq]
  generalize (lg_sl ([.int (eI y), .int (eI z)]) ++ List.replicate (2 - (lg_sl ([.int (eI y), .int (eI z)])).length) Slot.unset).toArray = ls at hl ⊢
  have hl : lv_has ls 2 [(0, .int (eI y)), (1, .int (eI z))] := hl
  refine lv_iconst (v := eI 5) hx hb d_E_pairOf_0 rfl ?_
  refine lv_iload_n hx hb d_E_pairOf_1 rfl (lv_at hl 0 rfl) ?_
  refine we_imul hx hb d_E_pairOf_2 ?_
  refine lv_iload_n hx hb d_E_pairOf_3 rfl (lv_at hl 1 rfl) ?_
  refine we_iadd hx hb d_E_pairOf_4 ?_
  have hres : ((5 * y) + z) = (5 * y + z) := rfl
  rw [hres]
  subst hQ
  exact W.iret hx hb hrt (fun t9 ht hW => ⟨rfl, ht⟩) (fun q h => by cases h) d_E_pairOf_5
abbrev c_N_join : ByteArray := prog_3_method_14_code
def y_N_join : MethodName := ⟨"EarthHauls$Network", "join", "(IIIJ)V"⟩
abbrev k_N_join : Cond := .code y_N_join c_N_join 6 none
theorem kin_N_join : k_N_join ∈ ew_t := tb_202
theorem dv_N_join : eh_dV y_N_join "EarthHauls$Network" 4 := ⟨rfl, by decide, by decide, by decide +kernel⟩
theorem d_N_join_0 : decode c_N_join 0 = .ok (.aload_n 0, 1) := by decide +kernel
theorem d_N_join_1 : decode c_N_join 1 = .ok (.aload_n 0, 1) := by decide +kernel
theorem d_N_join_2 : decode c_N_join 2 = .ok (.getfield 34, 3) := by decide +kernel
theorem d_N_join_5 : decode c_N_join 5 = .ok (.iload_n 1, 1) := by decide +kernel
theorem d_N_join_6 : decode c_N_join 6 = .ok (.iload_n 2, 1) := by decide +kernel
theorem d_N_join_7 : decode c_N_join 7 = .ok (.iload_n 3, 1) := by decide +kernel
theorem d_N_join_8 : decode c_N_join 8 = .ok (.lload 4, 2) := by decide +kernel
theorem d_N_join_10 : decode c_N_join 10 = .ok (.invokevirtual 73, 3) := by decide +kernel
theorem d_N_join_13 : decode c_N_join 13 = .ok (.aload_n 0, 1) := by decide +kernel
theorem d_N_join_14 : decode c_N_join 14 = .ok (.aload_n 0, 1) := by decide +kernel
theorem d_N_join_15 : decode c_N_join 15 = .ok (.getfield 34, 3) := by decide +kernel
theorem d_N_join_18 : decode c_N_join 18 = .ok (.iconst 1, 1) := by decide +kernel
theorem d_N_join_19 : decode c_N_join 19 = .ok (.iadd, 1) := by decide +kernel
theorem d_N_join_20 : decode c_N_join 20 = .ok (.iload_n 2, 1) := by decide +kernel
theorem d_N_join_21 : decode c_N_join 21 = .ok (.iload_n 1, 1) := by decide +kernel
theorem d_N_join_22 : decode c_N_join 22 = .ok (.iconst 0, 1) := by decide +kernel
theorem d_N_join_23 : decode c_N_join 23 = .ok (.lload 4, 2) := by decide +kernel
theorem d_N_join_25 : decode c_N_join 25 = .ok (.lneg, 1) := by decide +kernel
theorem d_N_join_26 : decode c_N_join 26 = .ok (.invokevirtual 73, 3) := by decide +kernel
theorem d_N_join_29 : decode c_N_join 29 = .ok (.aload_n 0, 1) := by decide +kernel
theorem d_N_join_30 : decode c_N_join 30 = .ok (.dup, 1) := by decide +kernel
theorem d_N_join_31 : decode c_N_join 31 = .ok (.getfield 34, 3) := by decide +kernel
theorem d_N_join_34 : decode c_N_join 34 = .ok (.iconst 2, 1) := by decide +kernel
theorem d_N_join_35 : decode c_N_join 35 = .ok (.iadd, 1) := by decide +kernel
theorem d_N_join_36 : decode c_N_join 36 = .ok (.putfield 34, 3) := by decide +kernel
theorem d_N_join_39 : decode c_N_join 39 = .ok (.return_, 1) := by decide +kernel
set_option maxHeartbeats 4000000 in
set_option maxRecDepth 100000 in
theorem m_N_join (l : Launch) (D : va_G) (cI cL : ClassId) (h0 qT qH qR qW qA qD qE : Nat) (K : Nat) (a b : Nat → Nat) (w cap x gT gH gR gW : Nat → Int) (f t : Nat) (li ww : Int) (hK40 : K ≤ 40) (hns : eh_NS K a b w cap x gT gH gR gW) : eh_M (S := (Nat → Int) × (Nat → Int) × (Nat → Int) × (Nat → Int)) l y_N_join k_N_join 1 26 D classes [(cI, .int), (cL, .long)] [.ref h0, .int (eI (f : Int)), .int (eI (t : Int)), .int (eI li), .long (eL ww)] [(h0, .inr (1, [.ref qT, .ref qH, .ref qR, .ref qW, .ref qA, .ref qD, .ref qE, .int (eI ((2 * K : Nat) : Int))])), (qT, aI cI 82 gT), (qH, aI cI 82 gH), (qR, aI cI 82 gR), (qW, aL cL 82 gW)] (fun u => eh_NS (K + 1) (eh_upd a K f) (eh_upd b K t) (eh_upd w K ww) (eh_upd cap K li) (eh_upd x K 0) u.1 u.2.1 u.2.2.1 u.2.2.2) (fun _ => none) (fun u => [(h0, .inr (1, [.ref qT, .ref qH, .ref qR, .ref qW, .ref qA, .ref qD, .ref qE, .int (eI ((2 * (K + 1) : Nat) : Int))])), (qT, aI cI 82 u.1), (qH, aI cI 82 u.2.1), (qR, aI cI 82 u.2.2.1), (qW, aL cL 82 u.2.2.2)]) := by
  intro sz
  refine Met.ofW (cc := c_N_join) (maxL := 6) (ret := none) (by decide) rfl ?_
  intro p e s m args below meth c s₁ B hml hv
  obtain ⟨hargs, hsz, hP, hK, hD0, hN⟩ := hv
  have hx := B.exec
  have hb := B.bytes
  have hrt := B.returns
  have hts := atoms_spec (ws := k_N_join :: ew_t) B.pre
  have htb : ∀ w ∈ ew_t, w.before args s = true := fun w h => hts w (List.mem_cons_of_mem _ h)
  have hown : s.vm.findClass "EarthHauls$Network" = some m.cls := findClass_of_methodNamed B.named
  have hlocks := B.notSynchronized
  have hE : entryFrame m args 6 = entryFrame m ([.ref h0, .int (eI (f : Int)), .int (eI (t : Int)), .int (eI li), .long (eL ww)] : List Value).toArray 6 := by rw [hargs]
  rw [hE]
  clear hE hts B hargs
  generalize hRe : (headSpec _ _).room = R
  have hR1 : R.frames = 1 := by rw [← hRe]; rfl
  have hR2 : R.locals = 26 := by rw [← hRe]; rfl
  clear hRe
  generalize hQ : MQ below _ _ s 0 0 _ = Q
  subst hsz
  have hD := hD0.self (sz := s.heap.size)
  generalize hAe : va_A [(h0, .inr (1, [.ref qT, .ref qH, .ref qR, .ref qW, .ref qA, .ref qD, .ref qE, .int (eI ((2 * K : Nat) : Int))])), (qT, aI cI 82 gT), (qH, aI cI 82 gH), (qR, aI cI 82 gR), (qW, aL cL 82 gW)] s.heap.size = A at hD hQ
  have hA : ∀ q : Nat, s.heap.size ≤ q → A q := fun q h => by rw [← hAe]; exact Or.inr h
  have hS : va_S A s.heap s.heap [] := va_S.rf
  have hP : va_P D classes [(h0, .inr (1, [.ref qT, .ref qH, .ref qR, .ref qW, .ref qA, .ref qD, .ref qE, .int (eI ((2 * K : Nat) : Int))])), (qT, aI cI 82 gT), (qH, aI cI 82 gH), (qR, aI cI 82 gR), (qW, aL cL 82 gW)] s.heap := hP
  have hl := lv_entry ([.ref h0, .int (eI (f : Int)), .int (eI (t : Int)), .int (eI li), .long (eL ww)]) (n := 6) (Nat.le_of_ble_eq_true rfl)
  rw [lg_entry_eq]
  generalize (lg_sl ([.ref h0, .int (eI (f : Int)), .int (eI (t : Int)), .int (eI li), .long (eL ww)]) ++ List.replicate (6 - (lg_sl ([.ref h0, .int (eI (f : Int)), .int (eI (t : Int)), .int (eI li), .long (eL ww)])).length) Slot.unset).toArray = ls at hl ⊢
  have hl : lv_has ls 6 [(0, .ref h0), (1, .int (eI (f : Int))), (2, .int (eI (t : Int))), (3, .int (eI li)), (4, .long (eL ww))] := hl
  refine lv_aload_n hx hb d_N_join_0 rfl (lv_at hl 0 rfl) ?_
  refine lv_aload_n hx hb d_N_join_1 rfl (lv_at hl 0 rfl) ?_
  refine va_get (D := D) (ci := 1) (v := .int (eI ((2 * K : Nat) : Int))) (C := R_N) (T := T_N) (N := 8) hx hb htb in_N hown hK hP 0 rfl rfl 7 (by decide) (htb _ tb_40) (fun _ h9 => h9) rfl d_N_join_2 ?_
  refine lv_iload_n hx hb d_N_join_5 rfl (lv_at hl 1 rfl) ?_
  refine lv_iload_n hx hb d_N_join_6 rfl (lv_at hl 2 rfl) ?_
  refine lv_iload_n hx hb d_N_join_7 rfl (lv_at hl 3 rfl) ?_
  refine lv_lload hx hb d_N_join_8 (lv_at hl 4 rfl) ?_
  refine eh_cMV (As := [.int (eI ((2 * K : Nat) : Int)), .int (eI (f : Int)), .int (eI (t : Int)), .int (eI li), .long (eL ww)]) (rest := []) (q := (R_N, T_N, 8)) (wr := []) hx hb hml hown htb hN (m_N_setEdge l D cI cL h0 qT qH qR qW qA qD qE ((2 * K : Nat) : Int) gT gH gR gW (2 * K) (by omega) (f : Int) (t : Int) li ww) 5 ⟨tb_203, tb_205, ts_6, tb_2, kin_N_setEdge⟩ dv_N_setEdge ⟨by rw [hR1]; decide, by rw [hR2]; decide⟩ hK hP hD hS hA 0 rfl rfl [0, 1, 2, 3, 4] [] rfl rfl (by decide) rfl (by decide) (by decide) [0, 1] rfl rfl rfl hl.1 (by decide) d_N_join_10 ⟨Nat.zero_le _, Nat.zero_le _⟩ (fun u H locs hu hP hD hS => ?_)
  have hP := hP.sub (ws' := [(h0, .inr (1, [.ref qT, .ref qH, .ref qR, .ref qW, .ref qA, .ref qD, .ref qE, .int (eI ((2 * K : Nat) : Int))])), (qT, aI cI 82 (eh_upd gT (2 * K) (f : Int))), (qH, aI cI 82 (eh_upd gH (2 * K) (t : Int))), (qR, aI cI 82 (eh_upd gR (2 * K) li)), (qW, aL cL 82 (eh_upd gW (2 * K) ww))]) [0, 1, 2, 3, 4] rfl
  have hD := hD.sub (ws' := [(h0, .inr (1, [.ref qT, .ref qH, .ref qR, .ref qW, .ref qA, .ref qD, .ref qE, .int (eI ((2 * K : Nat) : Int))])), (qT, aI cI 82 (eh_upd gT (2 * K) (f : Int))), (qH, aI cI 82 (eh_upd gH (2 * K) (t : Int))), (qR, aI cI 82 (eh_upd gR (2 * K) li)), (qW, aL cL 82 (eh_upd gW (2 * K) ww))]) [0, 1, 2, 3, 4] (by decide) rfl
  refine lv_aload_n hx hb d_N_join_13 rfl (lv_at hl 0 rfl) ?_
  refine lv_aload_n hx hb d_N_join_14 rfl (lv_at hl 0 rfl) ?_
  refine va_get (D := D) (ci := 1) (v := .int (eI ((2 * K : Nat) : Int))) (C := R_N) (T := T_N) (N := 8) hx hb htb in_N hown hK hP 0 rfl rfl 7 (by decide) (htb _ tb_40) (fun _ h9 => h9) rfl d_N_join_15 ?_
  refine lv_iconst (v := eI 1) hx hb d_N_join_18 rfl ?_
  refine we_iadd hx hb d_N_join_19 ?_
  refine lv_iload_n hx hb d_N_join_20 rfl (lv_at hl 2 rfl) ?_
  refine lv_iload_n hx hb d_N_join_21 rfl (lv_at hl 1 rfl) ?_
  refine lv_iconst (v := eI 0) hx hb d_N_join_22 rfl ?_
  refine lv_lload hx hb d_N_join_23 (lv_at hl 4 rfl) ?_
  refine we_lneg hx hb d_N_join_25 ?_
  refine eh_cMV (As := [.int (eI (((2 * K : Nat) : Int) + 1)), .int (eI (t : Int)), .int (eI (f : Int)), .int (eI 0), .long (eL (-ww))]) (rest := []) (q := (R_N, T_N, 8)) (wr := []) hx hb hml hown htb hN (m_N_setEdge l D cI cL h0 qT qH qR qW qA qD qE ((2 * K : Nat) : Int) (eh_upd gT (2 * K) (f : Int)) (eh_upd gH (2 * K) (t : Int)) (eh_upd gR (2 * K) li) (eh_upd gW (2 * K) ww) (2 * K + 1) (by omega) (t : Int) (f : Int) 0 (-ww)) 5 ⟨tb_203, tb_205, ts_6, tb_2, kin_N_setEdge⟩ dv_N_setEdge ⟨by rw [hR1]; decide, by rw [hR2]; decide⟩ hK hP hD hS hA 0 rfl rfl [0, 1, 2, 3, 4] [] rfl rfl (by decide) rfl (by decide) (by decide) [0, 1] rfl rfl rfl hl.1 (by decide) d_N_join_26 ⟨Nat.zero_le _, Nat.zero_le _⟩ (fun u H locs hu hP hD hS => ?_)
  have hP := hP.sub (ws' := [(h0, .inr (1, [.ref qT, .ref qH, .ref qR, .ref qW, .ref qA, .ref qD, .ref qE, .int (eI ((2 * K : Nat) : Int))])), (qT, aI cI 82 (eh_upd (eh_upd gT (2 * K) (f : Int)) (2 * K + 1) (t : Int))), (qH, aI cI 82 (eh_upd (eh_upd gH (2 * K) (t : Int)) (2 * K + 1) (f : Int))), (qR, aI cI 82 (eh_upd (eh_upd gR (2 * K) li) (2 * K + 1) 0)), (qW, aL cL 82 (eh_upd (eh_upd gW (2 * K) ww) (2 * K + 1) (-ww)))]) [0, 1, 2, 3, 4] rfl
  have hD := hD.sub (ws' := [(h0, .inr (1, [.ref qT, .ref qH, .ref qR, .ref qW, .ref qA, .ref qD, .ref qE, .int (eI ((2 * K : Nat) : Int))])), (qT, aI cI 82 (eh_upd (eh_upd gT (2 * K) (f : Int)) (2 * K + 1) (t : Int))), (qH, aI cI 82 (eh_upd (eh_upd gH (2 * K) (t : Int)) (2 * K + 1) (f : Int))), (qR, aI cI 82 (eh_upd (eh_upd gR (2 * K) li) (2 * K + 1) 0)), (qW, aL cL 82 (eh_upd (eh_upd gW (2 * K) ww) (2 * K + 1) (-ww)))]) [0, 1, 2, 3, 4] (by decide) rfl
  refine lv_aload_n hx hb d_N_join_29 rfl (lv_at hl 0 rfl) ?_
  refine lv_dup hx hb d_N_join_30 rfl ?_
  refine va_get (D := D) (ci := 1) (v := .int (eI ((2 * K : Nat) : Int))) (C := R_N) (T := T_N) (N := 8) hx hb htb in_N hown hK hP 0 rfl rfl 7 (by decide) (htb _ tb_40) (fun _ h9 => h9) rfl d_N_join_31 ?_
  refine lv_iconst (v := eI 2) hx hb d_N_join_34 rfl ?_
  refine we_iadd hx hb d_N_join_35 ?_
  refine va_put (D := D) (ci := 1) (v := .int (eI (((2 * K : Nat) : Int) + 2))) (ty := .int) (C := R_N) (T := T_N) (N := 8) hx hb htb in_N t_N t_N_ok n_N hown hK hP hD hS 0 rfl rfl 7 (by decide) (htb _ tb_40) (fun _ h9 => h9) rfl (by decide +kernel) rfl rfl (Nat.le_of_ble_eq_true rfl) d_N_join_36 (fun H locs hP hD hS => ?_)
  have hP : va_P D classes [(h0, .inr (1, [.ref qT, .ref qH, .ref qR, .ref qW, .ref qA, .ref qD, .ref qE, .int (eI (((2 * K : Nat) : Int) + 2))])), (qT, aI cI 82 (eh_upd (eh_upd gT (2 * K) (f : Int)) (2 * K + 1) (t : Int))), (qH, aI cI 82 (eh_upd (eh_upd gH (2 * K) (t : Int)) (2 * K + 1) (f : Int))), (qR, aI cI 82 (eh_upd (eh_upd gR (2 * K) li) (2 * K + 1) 0)), (qW, aL cL 82 (eh_upd (eh_upd gW (2 * K) ww) (2 * K + 1) (-ww)))] H := hP
  have hD : va_D A [(h0, .inr (1, [.ref qT, .ref qH, .ref qR, .ref qW, .ref qA, .ref qD, .ref qE, .int (eI (((2 * K : Nat) : Int) + 2))])), (qT, aI cI 82 (eh_upd (eh_upd gT (2 * K) (f : Int)) (2 * K + 1) (t : Int))), (qH, aI cI 82 (eh_upd (eh_upd gH (2 * K) (t : Int)) (2 * K + 1) (f : Int))), (qR, aI cI 82 (eh_upd (eh_upd gR (2 * K) li) (2 * K + 1) 0)), (qW, aL cL 82 (eh_upd (eh_upd gW (2 * K) ww) (2 * K + 1) (-ww)))] := hD
  rw [show (((2 * K : Nat) : Int) + 2) = ((2 * (K + 1) : Nat) : Int) by omega] at hP hD
  subst hQ
  exact W.vret hx hb hrt (fun t9 ht hW => ⟨⟨((eh_upd (eh_upd gT (2 * K) (f : Int)) (2 * K + 1) (t : Int)), (eh_upd (eh_upd gH (2 * K) (t : Int)) (2 * K + 1) (f : Int)), (eh_upd (eh_upd gR (2 * K) li) (2 * K + 1) 0), (eh_upd (eh_upd gW (2 * K) ww) (2 * K + 1) (-ww))), rfl, eh_NS_join hns f t li ww, by rw [ht]; exact hP, hD⟩, hS.F ht⟩) hS.2.2 d_N_join_39
abbrev c_N_allowPit : ByteArray := prog_3_method_4_code
def y_N_allowPit : MethodName := ⟨"EarthHauls$Network", "allowPit", "(II)V"⟩
abbrev k_N_allowPit : Cond := .code y_N_allowPit c_N_allowPit 3 none
theorem kin_N_allowPit : k_N_allowPit ∈ ew_t := tb_251
theorem dv_N_allowPit : eh_dV y_N_allowPit "EarthHauls$Network" 2 := ⟨rfl, by decide, by decide, by decide +kernel⟩
theorem d_N_allowPit_0 : decode c_N_allowPit 0 = .ok (.aload_n 0, 1) := by decide +kernel
theorem d_N_allowPit_1 : decode c_N_allowPit 1 = .ok (.bipush 11, 2) := by decide +kernel
theorem d_N_allowPit_3 : decode c_N_allowPit 3 = .ok (.iconst 4, 1) := by decide +kernel
theorem d_N_allowPit_4 : decode c_N_allowPit 4 = .ok (.iload_n 1, 1) := by decide +kernel
theorem d_N_allowPit_5 : decode c_N_allowPit 5 = .ok (.iadd, 1) := by decide +kernel
theorem d_N_allowPit_6 : decode c_N_allowPit 6 = .ok (.iload_n 2, 1) := by decide +kernel
theorem d_N_allowPit_7 : decode c_N_allowPit 7 = .ok (.lconst 0, 1) := by decide +kernel
theorem d_N_allowPit_8 : decode c_N_allowPit 8 = .ok (.invokevirtual 47, 3) := by decide +kernel
theorem d_N_allowPit_11 : decode c_N_allowPit 11 = .ok (.return_, 1) := by decide +kernel
set_option maxHeartbeats 4000000 in
set_option maxRecDepth 100000 in
theorem m_N_allowPit (l : Launch) (D : va_G) (cI cL : ClassId) (h0 qT qH qR qW qA qD qE : Nat) (K : Nat) (a b : Nat → Nat) (w cap x gT gH gR gW : Nat → Int) (k : Nat) (li : Int) (hK40 : K ≤ 40) (hns : eh_NS K a b w cap x gT gH gR gW) : eh_M (S := (Nat → Int) × (Nat → Int) × (Nat → Int) × (Nat → Int)) l y_N_allowPit k_N_allowPit 2 51 D classes [(cI, .int), (cL, .long)] [.ref h0, .int (eI (k : Int)), .int (eI li)] [(h0, .inr (1, [.ref qT, .ref qH, .ref qR, .ref qW, .ref qA, .ref qD, .ref qE, .int (eI ((2 * K : Nat) : Int))])), (qT, aI cI 82 gT), (qH, aI cI 82 gH), (qR, aI cI 82 gR), (qW, aL cL 82 gW)] (fun u => eh_NS (K + 1) (eh_upd a K 11) (eh_upd b K (4 + k)) (eh_upd w K 0) (eh_upd cap K li) (eh_upd x K 0) u.1 u.2.1 u.2.2.1 u.2.2.2) (fun _ => none) (fun u => [(h0, .inr (1, [.ref qT, .ref qH, .ref qR, .ref qW, .ref qA, .ref qD, .ref qE, .int (eI ((2 * (K + 1) : Nat) : Int))])), (qT, aI cI 82 u.1), (qH, aI cI 82 u.2.1), (qR, aI cI 82 u.2.2.1), (qW, aL cL 82 u.2.2.2)]) := by
  intro sz
  refine Met.ofW (cc := c_N_allowPit) (maxL := 3) (ret := none) (by decide) rfl ?_
  intro p e s m args below meth c s₁ B hml hv
  obtain ⟨hargs, hsz, hP, hK, hD0, hN⟩ := hv
  have hx := B.exec
  have hb := B.bytes
  have hrt := B.returns
  have hts := atoms_spec (ws := k_N_allowPit :: ew_t) B.pre
  have htb : ∀ w ∈ ew_t, w.before args s = true := fun w h => hts w (List.mem_cons_of_mem _ h)
  have hown : s.vm.findClass "EarthHauls$Network" = some m.cls := findClass_of_methodNamed B.named
  have hlocks := B.notSynchronized
  have hE : entryFrame m args 3 = entryFrame m ([.ref h0, .int (eI (k : Int)), .int (eI li)] : List Value).toArray 3 := by rw [hargs]
  rw [hE]
  clear hE hts B hargs
  generalize hRe : (headSpec _ _).room = R
  have hR1 : R.frames = 2 := by rw [← hRe]; rfl
  have hR2 : R.locals = 51 := by rw [← hRe]; rfl
  clear hRe
  generalize hQ : MQ below _ _ s 0 0 _ = Q
  subst hsz
  have hD := hD0.self (sz := s.heap.size)
  generalize hAe : va_A [(h0, .inr (1, [.ref qT, .ref qH, .ref qR, .ref qW, .ref qA, .ref qD, .ref qE, .int (eI ((2 * K : Nat) : Int))])), (qT, aI cI 82 gT), (qH, aI cI 82 gH), (qR, aI cI 82 gR), (qW, aL cL 82 gW)] s.heap.size = A at hD hQ
  have hA : ∀ q : Nat, s.heap.size ≤ q → A q := fun q h => by rw [← hAe]; exact Or.inr h
  have hS : va_S A s.heap s.heap [] := va_S.rf
  have hP : va_P D classes [(h0, .inr (1, [.ref qT, .ref qH, .ref qR, .ref qW, .ref qA, .ref qD, .ref qE, .int (eI ((2 * K : Nat) : Int))])), (qT, aI cI 82 gT), (qH, aI cI 82 gH), (qR, aI cI 82 gR), (qW, aL cL 82 gW)] s.heap := hP
  have hl := lv_entry ([.ref h0, .int (eI (k : Int)), .int (eI li)]) (n := 3) (Nat.le_of_ble_eq_true rfl)
  rw [lg_entry_eq]
  generalize (lg_sl ([.ref h0, .int (eI (k : Int)), .int (eI li)]) ++ List.replicate (3 - (lg_sl ([.ref h0, .int (eI (k : Int)), .int (eI li)])).length) Slot.unset).toArray = ls at hl ⊢
  have hl : lv_has ls 3 [(0, .ref h0), (1, .int (eI (k : Int))), (2, .int (eI li))] := hl
  refine lv_aload_n hx hb d_N_allowPit_0 rfl (lv_at hl 0 rfl) ?_
  refine lv_bipush (v := eI 11) hx hb d_N_allowPit_1 (by decide) ?_
  refine lv_iconst (v := eI 4) hx hb d_N_allowPit_3 rfl ?_
  refine lv_iload_n hx hb d_N_allowPit_4 rfl (lv_at hl 1 rfl) ?_
  refine we_iadd hx hb d_N_allowPit_5 ?_
  refine lv_iload_n hx hb d_N_allowPit_6 rfl (lv_at hl 2 rfl) ?_
  refine lv_lconst (v := eL 0) hx hb d_N_allowPit_7 (by decide) ?_
  refine eh_cMV (As := [.int (eI 11), .int (eI (4 + (k : Int))), .int (eI li), .long (eL 0)]) (rest := []) (q := (R_N, T_N, 8)) (wr := []) hx hb hml hown htb hN (m_N_join l D cI cL h0 qT qH qR qW qA qD qE K a b w cap x gT gH gR gW 11 (4 + k) li 0 hK40 hns) 4 ⟨tb_199, tb_201, ts_5, tb_2, kin_N_join⟩ dv_N_join ⟨by rw [hR1]; decide, by rw [hR2]; decide⟩ hK hP hD hS hA 0 rfl rfl [0, 1, 2, 3, 4] [] rfl rfl (by decide) rfl (by decide) (by decide) [0, 1] rfl rfl rfl hl.1 (by decide) d_N_allowPit_8 ⟨Nat.zero_le _, Nat.zero_le _⟩ (fun u H locs hu hP hD hS => ?_)
  have hP := hP.sub (ws' := [(h0, .inr (1, [.ref qT, .ref qH, .ref qR, .ref qW, .ref qA, .ref qD, .ref qE, .int (eI ((2 * (K + 1) : Nat) : Int))])), (qT, aI cI 82 u.1), (qH, aI cI 82 u.2.1), (qR, aI cI 82 u.2.2.1), (qW, aL cL 82 u.2.2.2)]) [0, 1, 2, 3, 4] rfl
  have hD := hD.sub (ws' := [(h0, .inr (1, [.ref qT, .ref qH, .ref qR, .ref qW, .ref qA, .ref qD, .ref qE, .int (eI ((2 * (K + 1) : Nat) : Int))])), (qT, aI cI 82 u.1), (qH, aI cI 82 u.2.1), (qR, aI cI 82 u.2.2.1), (qW, aL cL 82 u.2.2.2)]) [0, 1, 2, 3, 4] (by decide) rfl
  subst hQ
  exact W.vret hx hb hrt (fun t9 ht hW => ⟨⟨u, rfl, hu, by rw [ht]; exact hP, hD⟩, hS.F ht⟩) hS.2.2 d_N_allowPit_11
abbrev c_N_allowDump : ByteArray := prog_3_method_5_code
def y_N_allowDump : MethodName := ⟨"EarthHauls$Network", "allowDump", "(I)V"⟩
abbrev k_N_allowDump : Cond := .code y_N_allowDump c_N_allowDump 2 none
theorem kin_N_allowDump : k_N_allowDump ∈ ew_t := tb_255
theorem dv_N_allowDump : eh_dV y_N_allowDump "EarthHauls$Network" 1 := ⟨rfl, by decide, by decide, by decide +kernel⟩
theorem d_N_allowDump_0 : decode c_N_allowDump 0 = .ok (.aload_n 0, 1) := by decide +kernel
theorem d_N_allowDump_1 : decode c_N_allowDump 1 = .ok (.bipush 10, 2) := by decide +kernel
theorem d_N_allowDump_3 : decode c_N_allowDump 3 = .ok (.bipush 11, 2) := by decide +kernel
theorem d_N_allowDump_5 : decode c_N_allowDump 5 = .ok (.iload_n 1, 1) := by decide +kernel
theorem d_N_allowDump_6 : decode c_N_allowDump 6 = .ok (.lconst 0, 1) := by decide +kernel
theorem d_N_allowDump_7 : decode c_N_allowDump 7 = .ok (.invokevirtual 47, 3) := by decide +kernel
theorem d_N_allowDump_10 : decode c_N_allowDump 10 = .ok (.return_, 1) := by decide +kernel
set_option maxHeartbeats 4000000 in
set_option maxRecDepth 100000 in
theorem m_N_allowDump (l : Launch) (D : va_G) (cI cL : ClassId) (h0 qT qH qR qW qA qD qE : Nat) (K : Nat) (a b : Nat → Nat) (w cap x gT gH gR gW : Nat → Int) (li : Int) (hK40 : K ≤ 40) (hns : eh_NS K a b w cap x gT gH gR gW) : eh_M (S := (Nat → Int) × (Nat → Int) × (Nat → Int) × (Nat → Int)) l y_N_allowDump k_N_allowDump 2 51 D classes [(cI, .int), (cL, .long)] [.ref h0, .int (eI li)] [(h0, .inr (1, [.ref qT, .ref qH, .ref qR, .ref qW, .ref qA, .ref qD, .ref qE, .int (eI ((2 * K : Nat) : Int))])), (qT, aI cI 82 gT), (qH, aI cI 82 gH), (qR, aI cI 82 gR), (qW, aL cL 82 gW)] (fun u => eh_NS (K + 1) (eh_upd a K 10) (eh_upd b K 11) (eh_upd w K 0) (eh_upd cap K li) (eh_upd x K 0) u.1 u.2.1 u.2.2.1 u.2.2.2) (fun _ => none) (fun u => [(h0, .inr (1, [.ref qT, .ref qH, .ref qR, .ref qW, .ref qA, .ref qD, .ref qE, .int (eI ((2 * (K + 1) : Nat) : Int))])), (qT, aI cI 82 u.1), (qH, aI cI 82 u.2.1), (qR, aI cI 82 u.2.2.1), (qW, aL cL 82 u.2.2.2)]) := by
  intro sz
  refine Met.ofW (cc := c_N_allowDump) (maxL := 2) (ret := none) (by decide) rfl ?_
  intro p e s m args below meth c s₁ B hml hv
  obtain ⟨hargs, hsz, hP, hK, hD0, hN⟩ := hv
  have hx := B.exec
  have hb := B.bytes
  have hrt := B.returns
  have hts := atoms_spec (ws := k_N_allowDump :: ew_t) B.pre
  have htb : ∀ w ∈ ew_t, w.before args s = true := fun w h => hts w (List.mem_cons_of_mem _ h)
  have hown : s.vm.findClass "EarthHauls$Network" = some m.cls := findClass_of_methodNamed B.named
  have hlocks := B.notSynchronized
  have hE : entryFrame m args 2 = entryFrame m ([.ref h0, .int (eI li)] : List Value).toArray 2 := by rw [hargs]
  rw [hE]
  clear hE hts B hargs
  generalize hRe : (headSpec _ _).room = R
  have hR1 : R.frames = 2 := by rw [← hRe]; rfl
  have hR2 : R.locals = 51 := by rw [← hRe]; rfl
  clear hRe
  generalize hQ : MQ below _ _ s 0 0 _ = Q
  subst hsz
  have hD := hD0.self (sz := s.heap.size)
  generalize hAe : va_A [(h0, .inr (1, [.ref qT, .ref qH, .ref qR, .ref qW, .ref qA, .ref qD, .ref qE, .int (eI ((2 * K : Nat) : Int))])), (qT, aI cI 82 gT), (qH, aI cI 82 gH), (qR, aI cI 82 gR), (qW, aL cL 82 gW)] s.heap.size = A at hD hQ
  have hA : ∀ q : Nat, s.heap.size ≤ q → A q := fun q h => by rw [← hAe]; exact Or.inr h
  have hS : va_S A s.heap s.heap [] := va_S.rf
  have hP : va_P D classes [(h0, .inr (1, [.ref qT, .ref qH, .ref qR, .ref qW, .ref qA, .ref qD, .ref qE, .int (eI ((2 * K : Nat) : Int))])), (qT, aI cI 82 gT), (qH, aI cI 82 gH), (qR, aI cI 82 gR), (qW, aL cL 82 gW)] s.heap := hP
  have hl := lv_entry ([.ref h0, .int (eI li)]) (n := 2) (Nat.le_of_ble_eq_true rfl)
  rw [lg_entry_eq]
  generalize (lg_sl ([.ref h0, .int (eI li)]) ++ List.replicate (2 - (lg_sl ([.ref h0, .int (eI li)])).length) Slot.unset).toArray = ls at hl ⊢
  have hl : lv_has ls 2 [(0, .ref h0), (1, .int (eI li))] := hl
  refine lv_aload_n hx hb d_N_allowDump_0 rfl (lv_at hl 0 rfl) ?_
  refine lv_bipush (v := eI 10) hx hb d_N_allowDump_1 (by decide) ?_
  refine lv_bipush (v := eI 11) hx hb d_N_allowDump_3 (by decide) ?_
  refine lv_iload_n hx hb d_N_allowDump_5 rfl (lv_at hl 1 rfl) ?_
  refine lv_lconst (v := eL 0) hx hb d_N_allowDump_6 (by decide) ?_
  refine eh_cMV (As := [.int (eI 10), .int (eI 11), .int (eI li), .long (eL 0)]) (rest := []) (q := (R_N, T_N, 8)) (wr := []) hx hb hml hown htb hN (m_N_join l D cI cL h0 qT qH qR qW qA qD qE K a b w cap x gT gH gR gW 10 11 li 0 hK40 hns) 4 ⟨tb_199, tb_201, ts_5, tb_2, kin_N_join⟩ dv_N_join ⟨by rw [hR1]; decide, by rw [hR2]; decide⟩ hK hP hD hS hA 0 rfl rfl [0, 1, 2, 3, 4] [] rfl rfl (by decide) rfl (by decide) (by decide) [0, 1] rfl rfl rfl hl.1 (by decide) d_N_allowDump_7 ⟨Nat.zero_le _, Nat.zero_le _⟩ (fun u H locs hu hP hD hS => ?_)
  have hP := hP.sub (ws' := [(h0, .inr (1, [.ref qT, .ref qH, .ref qR, .ref qW, .ref qA, .ref qD, .ref qE, .int (eI ((2 * (K + 1) : Nat) : Int))])), (qT, aI cI 82 u.1), (qH, aI cI 82 u.2.1), (qR, aI cI 82 u.2.2.1), (qW, aL cL 82 u.2.2.2)]) [0, 1, 2, 3, 4] rfl
  have hD := hD.sub (ws' := [(h0, .inr (1, [.ref qT, .ref qH, .ref qR, .ref qW, .ref qA, .ref qD, .ref qE, .int (eI ((2 * (K + 1) : Nat) : Int))])), (qT, aI cI 82 u.1), (qH, aI cI 82 u.2.1), (qR, aI cI 82 u.2.2.1), (qW, aL cL 82 u.2.2.2)]) [0, 1, 2, 3, 4] (by decide) rfl
  subst hQ
  exact W.vret hx hb hrt (fun t9 ht hW => ⟨⟨u, rfl, hu, by rw [ht]; exact hP, hD⟩, hS.F ht⟩) hS.2.2 d_N_allowDump_10
abbrev c_N_allowHaul : ByteArray := prog_3_method_3_code
def y_N_allowHaul : MethodName := ⟨"EarthHauls$Network", "allowHaul", "(III)V"⟩
abbrev k_N_allowHaul : Cond := .code y_N_allowHaul c_N_allowHaul 5 none
theorem kin_N_allowHaul : k_N_allowHaul ∈ ew_t := tb_244
theorem dv_N_allowHaul : eh_dV y_N_allowHaul "EarthHauls$Network" 3 := ⟨rfl, by decide, by decide, by decide +kernel⟩
theorem d_N_allowHaul_0 : decode c_N_allowHaul 0 = .ok (.iload_n 1, 1) := by decide +kernel
theorem d_N_allowHaul_1 : decode c_N_allowHaul 1 = .ok (.iload_n 2, 1) := by decide +kernel
theorem d_N_allowHaul_2 : decode c_N_allowHaul 2 = .ok (.invokestatic 51, 3) := by decide +kernel
theorem d_N_allowHaul_5 : decode c_N_allowHaul 5 = .ok (.istore 4, 2) := by decide +kernel
theorem d_N_allowHaul_7 : decode c_N_allowHaul 7 = .ok (.aload_n 0, 1) := by decide +kernel
theorem d_N_allowHaul_8 : decode c_N_allowHaul 8 = .ok (.getfield 25, 3) := by decide +kernel
theorem d_N_allowHaul_11 : decode c_N_allowHaul 11 = .ok (.iload 4, 2) := by decide +kernel
theorem d_N_allowHaul_13 : decode c_N_allowHaul 13 = .ok (.aload_n 0, 1) := by decide +kernel
theorem d_N_allowHaul_14 : decode c_N_allowHaul 14 = .ok (.getfield 34, 3) := by decide +kernel
theorem d_N_allowHaul_17 : decode c_N_allowHaul 17 = .ok (.iastore, 1) := by decide +kernel
theorem d_N_allowHaul_18 : decode c_N_allowHaul 18 = .ok (.aload_n 0, 1) := by decide +kernel
theorem d_N_allowHaul_19 : decode c_N_allowHaul 19 = .ok (.iload_n 1, 1) := by decide +kernel
theorem d_N_allowHaul_20 : decode c_N_allowHaul 20 = .ok (.bipush 6, 2) := by decide +kernel
theorem d_N_allowHaul_22 : decode c_N_allowHaul 22 = .ok (.iload_n 2, 1) := by decide +kernel
theorem d_N_allowHaul_23 : decode c_N_allowHaul 23 = .ok (.iadd, 1) := by decide +kernel
theorem d_N_allowHaul_24 : decode c_N_allowHaul 24 = .ok (.ldc 44, 2) := by decide +kernel
theorem d_N_allowHaul_26 : decode c_N_allowHaul 26 = .ok (.iload_n 3, 1) := by decide +kernel
theorem d_N_allowHaul_27 : decode c_N_allowHaul 27 = .ok (.i2l, 1) := by decide +kernel
theorem d_N_allowHaul_28 : decode c_N_allowHaul 28 = .ok (.bipush 32, 2) := by decide +kernel
theorem d_N_allowHaul_30 : decode c_N_allowHaul 30 = .ok (.lshl, 1) := by decide +kernel
theorem d_N_allowHaul_31 : decode c_N_allowHaul 31 = .ok (.lconst 1, 1) := by decide +kernel
theorem d_N_allowHaul_32 : decode c_N_allowHaul 32 = .ok (.iload 4, 2) := by decide +kernel
theorem d_N_allowHaul_34 : decode c_N_allowHaul 34 = .ok (.lshl, 1) := by decide +kernel
theorem d_N_allowHaul_35 : decode c_N_allowHaul 35 = .ok (.ladd, 1) := by decide +kernel
theorem d_N_allowHaul_36 : decode c_N_allowHaul 36 = .ok (.invokevirtual 47, 3) := by decide +kernel
theorem d_N_allowHaul_39 : decode c_N_allowHaul 39 = .ok (.return_, 1) := by decide +kernel
set_option maxHeartbeats 4000000 in
set_option maxRecDepth 100000 in
theorem m_N_allowHaul (l : Launch) (D : va_G) (cI cL : ClassId) (h0 qT qH qR qW qA qD qE : Nat) (K : Nat) (a b : Nat → Nat) (w cap x gT gH gR gW gA : Nat → Int) (y z : Nat) (un : Int) (hK40 : K ≤ 40) (hy : y < 6) (hz : z < 5) (hun : 0 ≤ un ∧ un ≤ 100000) (hns : eh_NS K a b w cap x gT gH gR gW) : eh_M (S := (Nat → Int) × (Nat → Int) × (Nat → Int) × (Nat → Int)) l y_N_allowHaul k_N_allowHaul 2 51 D classes [(cI, .int), (cL, .long)] [.ref h0, .int (eI (y : Int)), .int (eI (z : Int)), .int (eI un)] [(h0, .inr (1, [.ref qT, .ref qH, .ref qR, .ref qW, .ref qA, .ref qD, .ref qE, .int (eI ((2 * K : Nat) : Int))])), (qT, aI cI 82 gT), (qH, aI cI 82 gH), (qR, aI cI 82 gR), (qW, aL cL 82 gW), (qA, aI cI 30 gA)] (fun u => eh_NS (K + 1) (eh_upd a K y) (eh_upd b K (6 + z)) (eh_upd w K (4294967296 * un + eh_pw (5 * y + z))) (eh_upd cap K 1000000000) (eh_upd x K 0) u.1 u.2.1 u.2.2.1 u.2.2.2) (fun _ => none) (fun u => [(h0, .inr (1, [.ref qT, .ref qH, .ref qR, .ref qW, .ref qA, .ref qD, .ref qE, .int (eI ((2 * (K + 1) : Nat) : Int))])), (qT, aI cI 82 u.1), (qH, aI cI 82 u.2.1), (qR, aI cI 82 u.2.2.1), (qW, aL cL 82 u.2.2.2), (qA, aI cI 30 (eh_upd gA (5 * y + z) ((2 * K : Nat) : Int)))]) := by
  intro sz
  refine Met.ofW (cc := c_N_allowHaul) (maxL := 5) (ret := none) (by decide) rfl ?_
  intro p e s m args below meth c s₁ B hml hv
  obtain ⟨hargs, hsz, hP, hK, hD0, hN⟩ := hv
  have hx := B.exec
  have hb := B.bytes
  have hrt := B.returns
  have hts := atoms_spec (ws := k_N_allowHaul :: ew_t) B.pre
  have htb : ∀ w ∈ ew_t, w.before args s = true := fun w h => hts w (List.mem_cons_of_mem _ h)
  have hown : s.vm.findClass "EarthHauls$Network" = some m.cls := findClass_of_methodNamed B.named
  have hlocks := B.notSynchronized
  have hE : entryFrame m args 5 = entryFrame m ([.ref h0, .int (eI (y : Int)), .int (eI (z : Int)), .int (eI un)] : List Value).toArray 5 := by rw [hargs]
  rw [hE]
  clear hE hts B hargs
  generalize hRe : (headSpec _ _).room = R
  have hR1 : R.frames = 2 := by rw [← hRe]; rfl
  have hR2 : R.locals = 51 := by rw [← hRe]; rfl
  clear hRe
  generalize hQ : MQ below _ _ s 0 0 _ = Q
  subst hsz
  have hD := hD0.self (sz := s.heap.size)
  generalize hAe : va_A [(h0, .inr (1, [.ref qT, .ref qH, .ref qR, .ref qW, .ref qA, .ref qD, .ref qE, .int (eI ((2 * K : Nat) : Int))])), (qT, aI cI 82 gT), (qH, aI cI 82 gH), (qR, aI cI 82 gR), (qW, aL cL 82 gW), (qA, aI cI 30 gA)] s.heap.size = A at hD hQ
  have hA : ∀ q : Nat, s.heap.size ≤ q → A q := fun q h => by rw [← hAe]; exact Or.inr h
  have hS : va_S A s.heap s.heap [] := va_S.rf
  have hP : va_P D classes [(h0, .inr (1, [.ref qT, .ref qH, .ref qR, .ref qW, .ref qA, .ref qD, .ref qE, .int (eI ((2 * K : Nat) : Int))])), (qT, aI cI 82 gT), (qH, aI cI 82 gH), (qR, aI cI 82 gR), (qW, aL cL 82 gW), (qA, aI cI 30 gA)] s.heap := hP
  have hl := lv_entry ([.ref h0, .int (eI (y : Int)), .int (eI (z : Int)), .int (eI un)]) (n := 5) (Nat.le_of_ble_eq_true rfl)
  rw [lg_entry_eq]
  generalize (lg_sl ([.ref h0, .int (eI (y : Int)), .int (eI (z : Int)), .int (eI un)]) ++ List.replicate (5 - (lg_sl ([.ref h0, .int (eI (y : Int)), .int (eI (z : Int)), .int (eI un)])).length) Slot.unset).toArray = ls at hl ⊢
  have hl : lv_has ls 5 [(0, .ref h0), (1, .int (eI (y : Int))), (2, .int (eI (z : Int))), (3, .int (eI un))] := hl
  refine lv_iload_n hx hb d_N_allowHaul_0 rfl (lv_at hl 1 rfl) ?_
  refine lv_iload_n hx hb d_N_allowHaul_1 rfl (lv_at hl 2 rfl) ?_
  refine eh_cRSN (As := [.int (eI (y : Int)), .int (eI (z : Int))]) (rest := []) (v := .int (eI ((5 * y + z : Nat) : Int))) hx hb hml hown htb hN (r_E_pairOf l D (y : Int) (z : Int)) 2 (ew_n_4 hN) tb_246 tb_1 kin_E_pairOf dv_E_pairOf ⟨by rw [hR1]; decide, by rw [hR2]; decide⟩ hK hP [] rfl [] rfl rfl rfl hl.1 (by decide) d_N_allowHaul_2 ⟨Nat.zero_le _, Nat.zero_le _⟩ ?_
  refine lv_istore hx hb d_N_allowHaul_5 hl (by decide) rfl (fun ls hl => ?_)
  have hl : lv_has ls 5 [(4, .int (eI ((5 * y + z : Nat) : Int))), (0, .ref h0), (1, .int (eI (y : Int))), (2, .int (eI (z : Int))), (3, .int (eI un))] := hl
  refine lv_aload_n hx hb d_N_allowHaul_7 rfl (lv_at hl 1 rfl) ?_
  refine va_get (D := D) (ci := 1) (v := .ref qA) (C := R_N) (T := T_N) (N := 8) hx hb htb in_N hown hK hP 0 rfl rfl 4 (by decide) (htb _ tb_37) (fun _ h9 => h9) rfl d_N_allowHaul_8 ?_
  refine lv_iload hx hb d_N_allowHaul_11 (lv_at hl 0 rfl) ?_
  refine lv_aload_n hx hb d_N_allowHaul_13 rfl (lv_at hl 1 rfl) ?_
  refine va_get (D := D) (ci := 1) (v := .int (eI ((2 * K : Nat) : Int))) (C := R_N) (T := T_N) (N := 8) hx hb htb in_N hown hK hP 0 rfl rfl 7 (by decide) (htb _ tb_40) (fun _ h9 => h9) rfl d_N_allowHaul_14 ?_
  refine we_iast hx hb hK hP hD hS 5 0 rfl rfl (5 * y + z) (by omega) (by omega) (by decide) d_N_allowHaul_17 (fun H locs hP hD hS => ?_)
  have hP : va_P D classes [(h0, .inr (1, [.ref qT, .ref qH, .ref qR, .ref qW, .ref qA, .ref qD, .ref qE, .int (eI ((2 * K : Nat) : Int))])), (qT, aI cI 82 gT), (qH, aI cI 82 gH), (qR, aI cI 82 gR), (qW, aL cL 82 gW), (qA, aI cI 30 (eh_upd gA (5 * y + z) ((2 * K : Nat) : Int)))] H := hP
  have hD : va_D A [(h0, .inr (1, [.ref qT, .ref qH, .ref qR, .ref qW, .ref qA, .ref qD, .ref qE, .int (eI ((2 * K : Nat) : Int))])), (qT, aI cI 82 gT), (qH, aI cI 82 gH), (qR, aI cI 82 gR), (qW, aL cL 82 gW), (qA, aI cI 30 (eh_upd gA (5 * y + z) ((2 * K : Nat) : Int)))] := hD
  refine lv_aload_n hx hb d_N_allowHaul_18 rfl (lv_at hl 1 rfl) ?_
  refine lv_iload_n hx hb d_N_allowHaul_19 rfl (lv_at hl 2 rfl) ?_
  refine lv_bipush (v := eI 6) hx hb d_N_allowHaul_20 (by decide) ?_
  refine lv_iload_n hx hb d_N_allowHaul_22 rfl (lv_at hl 3 rfl) ?_
  refine we_iadd hx hb d_N_allowHaul_23 ?_
  refine we_ldc (a := 1000000000) hx hb hown (htb _ tb_197) (by decide) d_N_allowHaul_24 ?_
  refine lv_iload_n hx hb d_N_allowHaul_26 rfl (lv_at hl 4 rfl) ?_
  refine we_i2l hx hb (by constructor <;> omega) d_N_allowHaul_27 ?_
  refine lv_bipush (v := eI 32) hx hb d_N_allowHaul_28 (by decide) ?_
  refine lv_lshl (v := eL (4294967296 * un)) hx hb d_N_allowHaul_30 (eL_shl32 un) ?_
  refine lv_lconst (v := eL 1) hx hb d_N_allowHaul_31 (by decide) ?_
  refine lv_iload hx hb d_N_allowHaul_32 (lv_at hl 0 rfl) ?_
  refine lv_lshl (v := eL (eh_pw (5 * y + z))) hx hb d_N_allowHaul_34 (eh_shl1 (5 * y + z) (by omega)) ?_
  refine we_ladd hx hb d_N_allowHaul_35 ?_
  refine eh_cMV (As := [.int (eI (y : Int)), .int (eI (6 + (z : Int))), .int (eI 1000000000), .long (eL ((4294967296 * un) + (eh_pw (5 * y + z))))]) (rest := []) (q := (R_N, T_N, 8)) (wr := [(qA, aI cI 30 (eh_upd gA (5 * y + z) ((2 * K : Nat) : Int)))]) hx hb hml hown htb hN (m_N_join l D cI cL h0 qT qH qR qW qA qD qE K a b w cap x gT gH gR gW y (6 + z) 1000000000 (4294967296 * un + eh_pw (5 * y + z)) hK40 hns) 4 ⟨tb_199, tb_201, ts_5, tb_2, kin_N_join⟩ dv_N_join ⟨by rw [hR1]; decide, by rw [hR2]; decide⟩ hK hP hD hS hA 0 rfl rfl [0, 1, 2, 3, 4] [5] rfl rfl (by decide) rfl (by decide) (by decide) [0, 1] rfl rfl rfl hl.1 (by decide) d_N_allowHaul_36 ⟨Nat.zero_le _, Nat.zero_le _⟩ (fun u H locs hu hP hD hS => ?_)
  have hP := hP.sub (ws' := [(h0, .inr (1, [.ref qT, .ref qH, .ref qR, .ref qW, .ref qA, .ref qD, .ref qE, .int (eI ((2 * (K + 1) : Nat) : Int))])), (qT, aI cI 82 u.1), (qH, aI cI 82 u.2.1), (qR, aI cI 82 u.2.2.1), (qW, aL cL 82 u.2.2.2), (qA, aI cI 30 (eh_upd gA (5 * y + z) ((2 * K : Nat) : Int)))]) [1, 2, 3, 4, 5, 0] rfl
  have hD := hD.sub (ws' := [(h0, .inr (1, [.ref qT, .ref qH, .ref qR, .ref qW, .ref qA, .ref qD, .ref qE, .int (eI ((2 * (K + 1) : Nat) : Int))])), (qT, aI cI 82 u.1), (qH, aI cI 82 u.2.1), (qR, aI cI 82 u.2.2.1), (qW, aL cL 82 u.2.2.2), (qA, aI cI 30 (eh_upd gA (5 * y + z) ((2 * K : Nat) : Int)))]) [1, 2, 3, 4, 5, 0] (by decide) rfl
  subst hQ
  exact W.vret hx hb hrt (fun t9 ht hW => ⟨⟨u, rfl, hu, by rw [ht]; exact hP, hD⟩, hS.F ht⟩) hS.2.2 d_N_allowHaul_39
abbrev c_N_empty : ByteArray := prog_3_method_2_code
def y_N_empty : MethodName := ⟨"EarthHauls$Network", "empty", "()V"⟩
abbrev k_N_empty : Cond := .code y_N_empty c_N_empty 2 none
theorem kin_N_empty : k_N_empty ∈ ew_t := tb_195
theorem dv_N_empty : eh_dV y_N_empty "EarthHauls$Network" 0 := ⟨rfl, by decide, by decide, by decide +kernel⟩
theorem d_N_empty_0 : decode c_N_empty 0 = .ok (.aload_n 0, 1) := by decide +kernel
theorem d_N_empty_1 : decode c_N_empty 1 = .ok (.iconst 0, 1) := by decide +kernel
theorem d_N_empty_2 : decode c_N_empty 2 = .ok (.putfield 34, 3) := by decide +kernel
theorem d_N_empty_5 : decode c_N_empty 5 = .ok (.aload_n 0, 1) := by decide +kernel
theorem d_N_empty_6 : decode c_N_empty 6 = .ok (.getfield 25, 3) := by decide +kernel
theorem d_N_empty_9 : decode c_N_empty 9 = .ok (.iconst (-1), 1) := by decide +kernel
theorem d_N_empty_10 : decode c_N_empty 10 = .ok (.invokestatic 38, 3) := by decide +kernel
theorem d_N_empty_13 : decode c_N_empty 13 = .ok (.iconst 0, 1) := by decide +kernel
theorem d_N_empty_14 : decode c_N_empty 14 = .ok (.istore_n 1, 1) := by decide +kernel
theorem d_N_empty_15 : decode c_N_empty 15 = .ok (.iload_n 1, 1) := by decide +kernel
theorem d_N_empty_16 : decode c_N_empty 16 = .ok (.iconst 4, 1) := by decide +kernel
theorem d_N_empty_17 : decode c_N_empty 17 = .ok (.if_icmp .ge 36, 3) := by decide +kernel
theorem d_N_empty_20 : decode c_N_empty 20 = .ok (.aload_n 0, 1) := by decide +kernel
theorem d_N_empty_21 : decode c_N_empty 21 = .ok (.iload_n 1, 1) := by decide +kernel
theorem d_N_empty_22 : decode c_N_empty 22 = .ok (.bipush 11, 2) := by decide +kernel
theorem d_N_empty_24 : decode c_N_empty 24 = .ok (.ldc 44, 2) := by decide +kernel
theorem d_N_empty_26 : decode c_N_empty 26 = .ok (.ldc2_w 45, 3) := by decide +kernel
theorem d_N_empty_29 : decode c_N_empty 29 = .ok (.invokevirtual 47, 3) := by decide +kernel
theorem d_N_empty_32 : decode c_N_empty 32 = .ok (.aload_n 0, 1) := by decide +kernel
theorem d_N_empty_33 : decode c_N_empty 33 = .ok (.bipush 11, 2) := by decide +kernel
theorem d_N_empty_35 : decode c_N_empty 35 = .ok (.bipush 6, 2) := by decide +kernel
theorem d_N_empty_37 : decode c_N_empty 37 = .ok (.iload_n 1, 1) := by decide +kernel
theorem d_N_empty_38 : decode c_N_empty 38 = .ok (.iadd, 1) := by decide +kernel
theorem d_N_empty_39 : decode c_N_empty 39 = .ok (.ldc 44, 2) := by decide +kernel
theorem d_N_empty_41 : decode c_N_empty 41 = .ok (.ldc2_w 45, 3) := by decide +kernel
theorem d_N_empty_44 : decode c_N_empty 44 = .ok (.invokevirtual 47, 3) := by decide +kernel
theorem d_N_empty_47 : decode c_N_empty 47 = .ok (.iinc 1 1, 3) := by decide +kernel
theorem d_N_empty_50 : decode c_N_empty 50 = .ok (.goto (-35), 3) := by decide +kernel
theorem d_N_empty_53 : decode c_N_empty 53 = .ok (.return_, 1) := by decide +kernel
set_option maxHeartbeats 4000000 in
set_option maxRecDepth 100000 in
theorem m_N_empty (l : Launch) (D : va_G) (cI cL : ClassId) (h0 qT qH qR qW qA qD qE : Nat) (ed : Int) (gT0 gH0 gR0 gW0 gA0 : Nat → Int) : eh_M (S := (Nat → Int) × (Nat → Int) × (Nat → Int) × (Nat → Int) × (Nat → Int)) l y_N_empty k_N_empty 2 51 D classes [(cI, .int), (cL, .long)] [.ref h0] [(h0, .inr (1, [.ref qT, .ref qH, .ref qR, .ref qW, .ref qA, .ref qD, .ref qE, .int (eI ed)])), (qT, aI cI 82 gT0), (qH, aI cI 82 gH0), (qR, aI cI 82 gR0), (qW, aL cL 82 gW0), (qA, aI cI 30 gA0)] (fun u => (∀ m, m < 30 → u.2.2.2.2 m = -1) ∧ ∃ (a b : Nat → Nat) (w cap x : Nat → Int), eh_em 4 a b w cap x ∧ eh_NS 8 a b w cap x u.1 u.2.1 u.2.2.1 u.2.2.2.1) (fun _ => none) (fun u => [(h0, .inr (1, [.ref qT, .ref qH, .ref qR, .ref qW, .ref qA, .ref qD, .ref qE, .int (eI ((2 * 8 : Nat) : Int))])), (qT, aI cI 82 u.1), (qH, aI cI 82 u.2.1), (qR, aI cI 82 u.2.2.1), (qW, aL cL 82 u.2.2.2.1), (qA, aI cI 30 u.2.2.2.2)]) := by
  intro sz
  refine Met.ofW (cc := c_N_empty) (maxL := 2) (ret := none) (by decide) rfl ?_
  intro p e s m args below meth c s₁ B hml hv
  obtain ⟨hargs, hsz, hP, hK, hD0, hN⟩ := hv
  have hx := B.exec
  have hb := B.bytes
  have hrt := B.returns
  have hts := atoms_spec (ws := k_N_empty :: ew_t) B.pre
  have htb : ∀ w ∈ ew_t, w.before args s = true := fun w h => hts w (List.mem_cons_of_mem _ h)
  have hown : s.vm.findClass "EarthHauls$Network" = some m.cls := findClass_of_methodNamed B.named
  have hlocks := B.notSynchronized
  have hE : entryFrame m args 2 = entryFrame m ([.ref h0] : List Value).toArray 2 := by rw [hargs]
  rw [hE]
  clear hE hts B hargs
  generalize hRe : (headSpec _ _).room = R
  have hR1 : R.frames = 2 := by rw [← hRe]; rfl
  have hR2 : R.locals = 51 := by rw [← hRe]; rfl
  clear hRe
  generalize hQ : MQ below _ _ s 0 0 _ = Q
  subst hsz
  have hD := hD0.self (sz := s.heap.size)
  generalize hAe : va_A [(h0, .inr (1, [.ref qT, .ref qH, .ref qR, .ref qW, .ref qA, .ref qD, .ref qE, .int (eI ed)])), (qT, aI cI 82 gT0), (qH, aI cI 82 gH0), (qR, aI cI 82 gR0), (qW, aL cL 82 gW0), (qA, aI cI 30 gA0)] s.heap.size = A at hD hQ
  have hA : ∀ q : Nat, s.heap.size ≤ q → A q := fun q h => by rw [← hAe]; exact Or.inr h
  have hS : va_S A s.heap s.heap [] := va_S.rf
  have hP : va_P D classes [(h0, .inr (1, [.ref qT, .ref qH, .ref qR, .ref qW, .ref qA, .ref qD, .ref qE, .int (eI ed)])), (qT, aI cI 82 gT0), (qH, aI cI 82 gH0), (qR, aI cI 82 gR0), (qW, aL cL 82 gW0), (qA, aI cI 30 gA0)] s.heap := hP
  have hl := lv_entry ([.ref h0]) (n := 2) (Nat.le_of_ble_eq_true rfl)
  rw [lg_entry_eq]
  generalize (lg_sl ([.ref h0]) ++ List.replicate (2 - (lg_sl ([.ref h0])).length) Slot.unset).toArray = ls at hl ⊢
  have hl : lv_has ls 2 [(0, .ref h0)] := hl
  refine lv_aload_n hx hb d_N_empty_0 rfl (lv_at hl 0 rfl) ?_
  refine lv_iconst (v := eI 0) hx hb d_N_empty_1 rfl ?_
  refine va_put (D := D) (ci := 1) (v := .int (eI 0)) (ty := .int) (C := R_N) (T := T_N) (N := 8) hx hb htb in_N t_N t_N_ok n_N hown hK hP hD hS 0 rfl rfl 7 (by decide) (htb _ tb_40) (fun _ h9 => h9) rfl (by decide +kernel) rfl rfl (Nat.le_of_ble_eq_true rfl) d_N_empty_2 (fun H locs hP hD hS => ?_)
  have hP : va_P D classes [(h0, .inr (1, [.ref qT, .ref qH, .ref qR, .ref qW, .ref qA, .ref qD, .ref qE, .int (eI 0)])), (qT, aI cI 82 gT0), (qH, aI cI 82 gH0), (qR, aI cI 82 gR0), (qW, aL cL 82 gW0), (qA, aI cI 30 gA0)] H := hP
  have hD : va_D A [(h0, .inr (1, [.ref qT, .ref qH, .ref qR, .ref qW, .ref qA, .ref qD, .ref qE, .int (eI 0)])), (qT, aI cI 82 gT0), (qH, aI cI 82 gH0), (qR, aI cI 82 gR0), (qW, aL cL 82 gW0), (qA, aI cI 30 gA0)] := hD
  refine lv_aload_n hx hb d_N_empty_5 rfl (lv_at hl 0 rfl) ?_
  refine va_get (D := D) (ci := 1) (v := .ref qA) (C := R_N) (T := T_N) (N := 8) hx hb htb in_N hown hK hP 0 rfl rfl 4 (by decide) (htb _ tb_37) (fun _ h9 => h9) rfl d_N_empty_6 ?_
  refine lv_iconst (v := eI (-1)) hx hb d_N_empty_9 rfl ?_
  refine eh_cMS (As := [.ref qA, .int (eI (-1))]) (rest := []) (wr := [(h0, .inr (1, [.ref qT, .ref qH, .ref qR, .ref qW, .ref qA, .ref qD, .ref qE, .int (eI 0)])), (qT, aI cI 82 gT0), (qH, aI cI 82 gH0), (qR, aI cI 82 gR0), (qW, aL cL 82 gW0)]) hx hb hml hown htb hN (m_A_fill_aIIV l D cI qA 30 (by decide) gA0 (-1)) 2 ⟨tb_196, tb_122, tb_6, kin_A_fill_aIIV⟩ dv_A_fill_aIIV ⟨by rw [hR1]; decide, by rw [hR2]; decide⟩ hK hP hD hS hA [5] [0, 1, 2, 3, 4] rfl rfl (by decide) rfl (by decide) (by decide) [0] rfl rfl rfl hl.1 (by decide) d_N_empty_10 ⟨Nat.zero_le _, Nat.zero_le _⟩ (fun u H locs hu hP hD hS => ?_)
  obtain ⟨uA, rfl⟩ : ∃ z, z = u := ⟨_, rfl⟩
  have huA := hu
  have hP := hP.sub (ws' := [(h0, .inr (1, [.ref qT, .ref qH, .ref qR, .ref qW, .ref qA, .ref qD, .ref qE, .int (eI 0)])), (qT, aI cI 82 gT0), (qH, aI cI 82 gH0), (qR, aI cI 82 gR0), (qW, aL cL 82 gW0), (qA, aI cI 30 uA)]) [0, 1, 2, 3, 4, 5] rfl
  have hD := hD.sub (ws' := [(h0, .inr (1, [.ref qT, .ref qH, .ref qR, .ref qW, .ref qA, .ref qD, .ref qE, .int (eI 0)])), (qT, aI cI 82 gT0), (qH, aI cI 82 gH0), (qR, aI cI 82 gR0), (qW, aL cL 82 gW0), (qA, aI cI 30 uA)]) [0, 1, 2, 3, 4, 5] (by decide) rfl
  refine lv_iconst (v := eI 0) hx hb d_N_empty_13 rfl ?_
  refine lv_istore_n hx hb d_N_empty_14 rfl hl (by decide) rfl (fun ls hl => ?_)
  have hl : lv_has ls 2 [(1, .int (eI 0)), (0, .ref h0)] := hl
  have loop : ∀ (q i : Nat) (a b : Nat → Nat) (w cap x gT gH gR gW : Nat → Int) (H : Heap) (locs : List Loc) (ls : Array Slot), 4 - i = q → i ≤ 4 → eh_em i a b w cap x → eh_NS (2 * i) a b w cap x gT gH gR gW → lv_has ls 2 [(1, .int (eI ((i : Nat) : Int))), (0, .ref h0)] → va_P D classes [(h0, .inr (1, [.ref qT, .ref qH, .ref qR, .ref qW, .ref qA, .ref qD, .ref qE, .int (eI ((2 * (2 * i) : Nat) : Int))])), (qT, aI cI 82 gT), (qH, aI cI 82 gH), (qR, aI cI 82 gR), (qW, aL cL 82 gW), (qA, aI cI 30 uA)] H → va_D A [(h0, .inr (1, [.ref qT, .ref qH, .ref qR, .ref qW, .ref qA, .ref qD, .ref qE, .int (eI ((2 * (2 * i) : Nat) : Int))])), (qT, aI cI 82 gT), (qH, aI cI 82 gH), (qR, aI cI 82 gR), (qW, aL cL 82 gW), (qA, aI cI 30 uA)] → va_S A s.heap H locs → W p l e R s m args below meth c H locs 0 0 Q (F0 m 15 ls []) := by
    intro q
    induction q with
    | zero =>
      intro i a b w cap x gT gH gR gW H locs ls hq hi hem hns hl hP hD hS
      have hi4 : i = 4 := by omega
      subst hi4
      refine lv_iload_n hx hb d_N_empty_15 rfl (lv_at hl 0 rfl) ?_
      refine lv_iconst (v := eI 4) hx hb d_N_empty_16 rfl ?_
      refine we_icmp_ge (tgt := 53) hx hb (by constructor <;> omega) (by constructor <;> omega) d_N_empty_17 rfl (fun hc17 => ?_) (fun hc17 => absurd hc17 (by omega))
      subst hQ
      exact W.vret hx hb hrt (fun t9 ht hW => ⟨⟨(gT, gH, gR, gW, uA), rfl, ⟨huA, a, b, w, cap, x, hem, hns⟩, by rw [ht]; exact hP, hD⟩, hS.F ht⟩) hS.2.2 d_N_empty_53
    | succ q ih =>
      intro i a b w cap x gT gH gR gW H locs ls hq hi hem hns hl hP hD hS
      refine lv_iload_n hx hb d_N_empty_15 rfl (lv_at hl 0 rfl) ?_
      refine lv_iconst (v := eI 4) hx hb d_N_empty_16 rfl ?_
      refine we_icmp_ge (tgt := 53) hx hb (by constructor <;> omega) (by constructor <;> omega) d_N_empty_17 rfl (fun hc17 => absurd hc17 (by omega)) (fun hc17 => ?_)
      refine lv_aload_n hx hb d_N_empty_20 rfl (lv_at hl 1 rfl) ?_
      refine lv_iload_n hx hb d_N_empty_21 rfl (lv_at hl 0 rfl) ?_
      refine lv_bipush (v := eI 11) hx hb d_N_empty_22 (by decide) ?_
      refine we_ldc (a := 1000000000) hx hb hown (htb _ tb_197) (by decide) d_N_empty_24 ?_
      refine we_ldc2 (a := 18014398509481984) hx hb hown (htb _ tb_198) (by decide) d_N_empty_26 ?_
      refine eh_cMV (As := [.int (eI ((i : Nat) : Int)), .int (eI 11), .int (eI 1000000000), .long (eL 18014398509481984)]) (rest := []) (q := (R_N, T_N, 8)) (wr := [(qA, aI cI 30 uA)]) hx hb hml hown htb hN (m_N_join l D cI cL h0 qT qH qR qW qA qD qE (2 * i) a b w cap x gT gH gR gW i 11 1000000000 18014398509481984 (by omega) hns) 4 ⟨tb_199, tb_201, ts_5, tb_2, kin_N_join⟩ dv_N_join ⟨by rw [hR1]; decide, by rw [hR2]; decide⟩ hK hP hD hS hA 0 rfl rfl [0, 1, 2, 3, 4] [5] rfl rfl (by decide) rfl (by decide) (by decide) [0, 1] rfl rfl rfl hl.1 (by decide) d_N_empty_29 ⟨Nat.zero_le _, Nat.zero_le _⟩ (fun u H locs hu hP hD hS => ?_)
      obtain ⟨v1, v2, v3, v4⟩ := u
      have hn1 : eh_NS _ _ _ _ _ _ v1 v2 v3 v4 := hu
      have hP := hP.sub (ws' := [(h0, .inr (1, [.ref qT, .ref qH, .ref qR, .ref qW, .ref qA, .ref qD, .ref qE, .int (eI ((2 * (2 * i + 1) : Nat) : Int))])), (qT, aI cI 82 v1), (qH, aI cI 82 v2), (qR, aI cI 82 v3), (qW, aL cL 82 v4), (qA, aI cI 30 uA)]) [1, 2, 3, 4, 5, 0] rfl
      have hD := hD.sub (ws' := [(h0, .inr (1, [.ref qT, .ref qH, .ref qR, .ref qW, .ref qA, .ref qD, .ref qE, .int (eI ((2 * (2 * i + 1) : Nat) : Int))])), (qT, aI cI 82 v1), (qH, aI cI 82 v2), (qR, aI cI 82 v3), (qW, aL cL 82 v4), (qA, aI cI 30 uA)]) [1, 2, 3, 4, 5, 0] (by decide) rfl
      refine lv_aload_n hx hb d_N_empty_32 rfl (lv_at hl 1 rfl) ?_
      refine lv_bipush (v := eI 11) hx hb d_N_empty_33 (by decide) ?_
      refine lv_bipush (v := eI 6) hx hb d_N_empty_35 (by decide) ?_
      refine lv_iload_n hx hb d_N_empty_37 rfl (lv_at hl 0 rfl) ?_
      refine we_iadd hx hb d_N_empty_38 ?_
      refine we_ldc (a := 1000000000) hx hb hown (htb _ tb_197) (by decide) d_N_empty_39 ?_
      refine we_ldc2 (a := 18014398509481984) hx hb hown (htb _ tb_198) (by decide) d_N_empty_41 ?_
      refine eh_cMV (As := [.int (eI 11), .int (eI (6 + ((i : Nat) : Int))), .int (eI 1000000000), .long (eL 18014398509481984)]) (rest := []) (q := (R_N, T_N, 8)) (wr := [(qA, aI cI 30 uA)]) hx hb hml hown htb hN (m_N_join l D cI cL h0 qT qH qR qW qA qD qE (2 * i + 1) (eh_upd a (2 * i) i) (eh_upd b (2 * i) 11) (eh_upd w (2 * i) 18014398509481984) (eh_upd cap (2 * i) 1000000000) (eh_upd x (2 * i) 0) v1 v2 v3 v4 11 (6 + i) 1000000000 18014398509481984 (by omega) hn1) 4 ⟨tb_199, tb_201, ts_5, tb_2, kin_N_join⟩ dv_N_join ⟨by rw [hR1]; decide, by rw [hR2]; decide⟩ hK hP hD hS hA 0 rfl rfl [0, 1, 2, 3, 4] [5] rfl rfl (by decide) rfl (by decide) (by decide) [0, 1] rfl rfl rfl hl.1 (by decide) d_N_empty_44 ⟨Nat.zero_le _, Nat.zero_le _⟩ (fun u H locs hu hP hD hS => ?_)
      obtain ⟨x1, x2, x3, x4⟩ := u
      have hn2 : eh_NS _ _ _ _ _ _ x1 x2 x3 x4 := hu
      have hP := hP.sub (ws' := [(h0, .inr (1, [.ref qT, .ref qH, .ref qR, .ref qW, .ref qA, .ref qD, .ref qE, .int (eI ((2 * (2 * i + 1 + 1) : Nat) : Int))])), (qT, aI cI 82 x1), (qH, aI cI 82 x2), (qR, aI cI 82 x3), (qW, aL cL 82 x4), (qA, aI cI 30 uA)]) [1, 2, 3, 4, 5, 0] rfl
      have hD := hD.sub (ws' := [(h0, .inr (1, [.ref qT, .ref qH, .ref qR, .ref qW, .ref qA, .ref qD, .ref qE, .int (eI ((2 * (2 * i + 1 + 1) : Nat) : Int))])), (qT, aI cI 82 x1), (qH, aI cI 82 x2), (qR, aI cI 82 x3), (qW, aL cL 82 x4), (qA, aI cI 30 uA)]) [1, 2, 3, 4, 5, 0] (by decide) rfl
      refine lv_iinc (v := eI (((i : Nat) : Int) + 1)) hx hb d_N_empty_47 hl (k := 0) rfl (eI_add _ _) (by decide) rfl (fun ls hl => ?_)
      have hl : lv_has ls 2 [(1, .int (eI (((i : Nat) : Int) + 1))), (0, .ref h0)] := hl
      refine lv_goto (tgt := 15) hx hb d_N_empty_50 rfl ?_
      exact ih (i + 1) _ _ _ _ _ x1 x2 x3 x4 H locs ls (by omega) (by omega) (eh_em_s hem) hn2 (lv_sub hl [0, 1] rfl) hP hD hS
  exact loop 4 0 (fun _ => 0) (fun _ => 0) (fun _ => 0) (fun _ => 0) (fun _ => 0) gT0 gH0 gR0 gW0 H locs ls (by omega) (by omega) (eh_em_0 _ _ _ _ _) (fun e he => by omega) (lv_sub hl [0, 1] rfl) hP hD hS
abbrev c_N_addPlaced : ByteArray := prog_3_method_6_code
def y_N_addPlaced : MethodName := ⟨"EarthHauls$Network", "addPlaced", "(II)V"⟩
abbrev k_N_addPlaced : Cond := .code y_N_addPlaced c_N_addPlaced 3 none
theorem kin_N_addPlaced : k_N_addPlaced ∈ ew_t := tb_259
theorem dv_N_addPlaced : eh_dV y_N_addPlaced "EarthHauls$Network" 2 := ⟨rfl, by decide, by decide, by decide +kernel⟩
theorem d_N_addPlaced_0 : decode c_N_addPlaced 0 = .ok (.aload_n 0, 1) := by decide +kernel
theorem d_N_addPlaced_1 : decode c_N_addPlaced 1 = .ok (.iload_n 1, 1) := by decide +kernel
theorem d_N_addPlaced_2 : decode c_N_addPlaced 2 = .ok (.bipush 11, 2) := by decide +kernel
theorem d_N_addPlaced_4 : decode c_N_addPlaced 4 = .ok (.iload_n 2, 1) := by decide +kernel
theorem d_N_addPlaced_5 : decode c_N_addPlaced 5 = .ok (.invokevirtual 55, 3) := by decide +kernel
theorem d_N_addPlaced_8 : decode c_N_addPlaced 8 = .ok (.return_, 1) := by decide +kernel
set_option maxHeartbeats 4000000 in
set_option maxRecDepth 100000 in
theorem m_N_addPlaced (l : Launch) (D : va_G) (cI cL : ClassId) (h0 qT qH qR qW qA qD qE : Nat) (cs AA BB : Nat → Int) (K : Nat) (a b : Nat → Nat) (w cap x0 gT gH gR0 gW gD0 gE0 : Nat → Int) (k : Nat) (hk : k < 4) (lit : Int) (hn : eh_net cs AA BB K a b w cap) (hc : ∀ k, k < 30 → -1 ≤ cs k ∧ cs k ≤ 100000) (hcap : ∀ k, k < K → cap k ≤ 1000000000) (hlit : 0 ≤ lit ∧ lit ≤ 1000000000) (hns : eh_NS K a b w cap x0 gT gH gR0 gW) (hpl : eh_pl cs K a b w cap k 11 0 x0) (hway : eh_hw K a b cap x0 k 11 lit) : eh_M (S := (Nat → Int) × (Nat → Int) × (Nat → Int) × (Nat → Int)) l y_N_addPlaced k_N_addPlaced 3 85 D classes [(cI, .int), (cL, .long)] [.ref h0, .int (eI (k : Int)), .int (eI lit)] [(h0, .inr (1, [.ref qT, .ref qH, .ref qR, .ref qW, .ref qA, .ref qD, .ref qE, .int (eI ((2 * K : Nat) : Int))])), (qT, aI cI 82 gT), (qH, aI cI 82 gH), (qR, aI cI 82 gR0), (qW, aL cL 82 gW), (qD, aL cL 12 gD0), (qE, aI cI 12 gE0)] (fun u => eh_pl cs K a b w cap k 11 0 u.1 ∧ (∀ v, v < 12 → eh_bal K a b u.1 v = eh_bal K a b x0 v + lit * (eh_in (k = v) - eh_in (11 = v))) ∧ eh_NS K a b w cap u.1 gT gH u.2.1 gW) (fun _ => none) (fun u => [(h0, .inr (1, [.ref qT, .ref qH, .ref qR, .ref qW, .ref qA, .ref qD, .ref qE, .int (eI ((2 * K : Nat) : Int))])), (qT, aI cI 82 gT), (qH, aI cI 82 gH), (qR, aI cI 82 u.2.1), (qW, aL cL 82 gW), (qD, aL cL 12 u.2.2.1), (qE, aI cI 12 u.2.2.2)]) := by
  intro sz
  refine Met.ofW (cc := c_N_addPlaced) (maxL := 3) (ret := none) (by decide) rfl ?_
  intro p e s m args below meth c s₁ B hml hv
  obtain ⟨hargs, hsz, hP, hK, hD0, hN⟩ := hv
  have hx := B.exec
  have hb := B.bytes
  have hrt := B.returns
  have hts := atoms_spec (ws := k_N_addPlaced :: ew_t) B.pre
  have htb : ∀ w ∈ ew_t, w.before args s = true := fun w h => hts w (List.mem_cons_of_mem _ h)
  have hown : s.vm.findClass "EarthHauls$Network" = some m.cls := findClass_of_methodNamed B.named
  have hlocks := B.notSynchronized
  have hE : entryFrame m args 3 = entryFrame m ([.ref h0, .int (eI (k : Int)), .int (eI lit)] : List Value).toArray 3 := by rw [hargs]
  rw [hE]
  clear hE hts B hargs
  generalize hRe : (headSpec _ _).room = R
  have hR1 : R.frames = 3 := by rw [← hRe]; rfl
  have hR2 : R.locals = 85 := by rw [← hRe]; rfl
  clear hRe
  generalize hQ : MQ below _ _ s 0 0 _ = Q
  subst hsz
  have hD := hD0.self (sz := s.heap.size)
  generalize hAe : va_A [(h0, .inr (1, [.ref qT, .ref qH, .ref qR, .ref qW, .ref qA, .ref qD, .ref qE, .int (eI ((2 * K : Nat) : Int))])), (qT, aI cI 82 gT), (qH, aI cI 82 gH), (qR, aI cI 82 gR0), (qW, aL cL 82 gW), (qD, aL cL 12 gD0), (qE, aI cI 12 gE0)] s.heap.size = A at hD hQ
  have hA : ∀ q : Nat, s.heap.size ≤ q → A q := fun q h => by rw [← hAe]; exact Or.inr h
  have hS : va_S A s.heap s.heap [] := va_S.rf
  have hP : va_P D classes [(h0, .inr (1, [.ref qT, .ref qH, .ref qR, .ref qW, .ref qA, .ref qD, .ref qE, .int (eI ((2 * K : Nat) : Int))])), (qT, aI cI 82 gT), (qH, aI cI 82 gH), (qR, aI cI 82 gR0), (qW, aL cL 82 gW), (qD, aL cL 12 gD0), (qE, aI cI 12 gE0)] s.heap := hP
  have hl := lv_entry ([.ref h0, .int (eI (k : Int)), .int (eI lit)]) (n := 3) (Nat.le_of_ble_eq_true rfl)
  rw [lg_entry_eq]
  generalize (lg_sl ([.ref h0, .int (eI (k : Int)), .int (eI lit)]) ++ List.replicate (3 - (lg_sl ([.ref h0, .int (eI (k : Int)), .int (eI lit)])).length) Slot.unset).toArray = ls at hl ⊢
  have hl : lv_has ls 3 [(0, .ref h0), (1, .int (eI (k : Int))), (2, .int (eI lit))] := hl
  refine lv_aload_n hx hb d_N_addPlaced_0 rfl (lv_at hl 0 rfl) ?_
  refine lv_iload_n hx hb d_N_addPlaced_1 rfl (lv_at hl 1 rfl) ?_
  refine lv_bipush (v := eI 11) hx hb d_N_addPlaced_2 (by decide) ?_
  refine lv_iload_n hx hb d_N_addPlaced_4 rfl (lv_at hl 2 rfl) ?_
  refine eh_cMV (As := [.int (eI (k : Int)), .int (eI 11), .int (eI lit)]) (rest := []) (q := (R_N, T_N, 8)) (wr := []) hx hb hml hown htb hN (m_N_push l D cI cL h0 qT qH qR qW qA qD qE cs AA BB K a b w cap x0 gT gH gR0 gW gD0 gE0 k 11 lit hn hc hcap (by omega) (by omega) (by omega) hlit hns hpl hway) 3 ⟨tb_260, tb_262, ts_14, tb_2, kin_N_push⟩ dv_N_push ⟨by rw [hR1]; decide, by rw [hR2]; decide⟩ hK hP hD hS hA 0 rfl rfl [0, 1, 2, 3, 4, 5, 6] [] rfl rfl (by decide) rfl (by decide) (by decide) [0, 1] rfl rfl rfl hl.1 (by decide) d_N_addPlaced_5 ⟨Nat.zero_le _, Nat.zero_le _⟩ (fun u H locs hu hP hD hS => ?_)
  have hP := hP.sub (ws' := [(h0, .inr (1, [.ref qT, .ref qH, .ref qR, .ref qW, .ref qA, .ref qD, .ref qE, .int (eI ((2 * K : Nat) : Int))])), (qT, aI cI 82 gT), (qH, aI cI 82 gH), (qR, aI cI 82 u.2.1), (qW, aL cL 82 gW), (qD, aL cL 12 u.2.2.1), (qE, aI cI 12 u.2.2.2)]) [0, 1, 2, 3, 4, 5, 6] rfl
  have hD := hD.sub (ws' := [(h0, .inr (1, [.ref qT, .ref qH, .ref qR, .ref qW, .ref qA, .ref qD, .ref qE, .int (eI ((2 * K : Nat) : Int))])), (qT, aI cI 82 gT), (qH, aI cI 82 gH), (qR, aI cI 82 u.2.1), (qW, aL cL 82 gW), (qD, aL cL 12 u.2.2.1), (qE, aI cI 12 u.2.2.2)]) [0, 1, 2, 3, 4, 5, 6] (by decide) rfl
  subst hQ
  exact W.vret hx hb hrt (fun t9 ht hW => ⟨⟨u, rfl, hu, by rw [ht]; exact hP, hD⟩, hS.F ht⟩) hS.2.2 d_N_addPlaced_8
abbrev c_N_addFill : ByteArray := prog_3_method_7_code
def y_N_addFill : MethodName := ⟨"EarthHauls$Network", "addFill", "(II)V"⟩
abbrev k_N_addFill : Cond := .code y_N_addFill c_N_addFill 3 none
theorem kin_N_addFill : k_N_addFill ∈ ew_t := tb_285
theorem dv_N_addFill : eh_dV y_N_addFill "EarthHauls$Network" 2 := ⟨rfl, by decide, by decide, by decide +kernel⟩
theorem d_N_addFill_0 : decode c_N_addFill 0 = .ok (.aload_n 0, 1) := by decide +kernel
theorem d_N_addFill_1 : decode c_N_addFill 1 = .ok (.bipush 11, 2) := by decide +kernel
theorem d_N_addFill_3 : decode c_N_addFill 3 = .ok (.bipush 6, 2) := by decide +kernel
theorem d_N_addFill_5 : decode c_N_addFill 5 = .ok (.iload_n 1, 1) := by decide +kernel
theorem d_N_addFill_6 : decode c_N_addFill 6 = .ok (.iadd, 1) := by decide +kernel
theorem d_N_addFill_7 : decode c_N_addFill 7 = .ok (.iload_n 2, 1) := by decide +kernel
theorem d_N_addFill_8 : decode c_N_addFill 8 = .ok (.invokevirtual 55, 3) := by decide +kernel
theorem d_N_addFill_11 : decode c_N_addFill 11 = .ok (.return_, 1) := by decide +kernel
set_option maxHeartbeats 4000000 in
set_option maxRecDepth 100000 in
theorem m_N_addFill (l : Launch) (D : va_G) (cI cL : ClassId) (h0 qT qH qR qW qA qD qE : Nat) (cs AA BB : Nat → Int) (K : Nat) (a b : Nat → Nat) (w cap x0 gT gH gR0 gW gD0 gE0 : Nat → Int) (k : Nat) (hk : k < 4) (lit : Int) (hn : eh_net cs AA BB K a b w cap) (hc : ∀ k, k < 30 → -1 ≤ cs k ∧ cs k ≤ 100000) (hcap : ∀ k, k < K → cap k ≤ 1000000000) (hlit : 0 ≤ lit ∧ lit ≤ 1000000000) (hns : eh_NS K a b w cap x0 gT gH gR0 gW) (hpl : eh_pl cs K a b w cap 11 (6 + k) 0 x0) (hway : eh_hw K a b cap x0 11 (6 + k) lit) : eh_M (S := (Nat → Int) × (Nat → Int) × (Nat → Int) × (Nat → Int)) l y_N_addFill k_N_addFill 3 85 D classes [(cI, .int), (cL, .long)] [.ref h0, .int (eI (k : Int)), .int (eI lit)] [(h0, .inr (1, [.ref qT, .ref qH, .ref qR, .ref qW, .ref qA, .ref qD, .ref qE, .int (eI ((2 * K : Nat) : Int))])), (qT, aI cI 82 gT), (qH, aI cI 82 gH), (qR, aI cI 82 gR0), (qW, aL cL 82 gW), (qD, aL cL 12 gD0), (qE, aI cI 12 gE0)] (fun u => eh_pl cs K a b w cap 11 (6 + k) 0 u.1 ∧ (∀ v, v < 12 → eh_bal K a b u.1 v = eh_bal K a b x0 v + lit * (eh_in (11 = v) - eh_in ((6 + k) = v))) ∧ eh_NS K a b w cap u.1 gT gH u.2.1 gW) (fun _ => none) (fun u => [(h0, .inr (1, [.ref qT, .ref qH, .ref qR, .ref qW, .ref qA, .ref qD, .ref qE, .int (eI ((2 * K : Nat) : Int))])), (qT, aI cI 82 gT), (qH, aI cI 82 gH), (qR, aI cI 82 u.2.1), (qW, aL cL 82 gW), (qD, aL cL 12 u.2.2.1), (qE, aI cI 12 u.2.2.2)]) := by
  intro sz
  refine Met.ofW (cc := c_N_addFill) (maxL := 3) (ret := none) (by decide) rfl ?_
  intro p e s m args below meth c s₁ B hml hv
  obtain ⟨hargs, hsz, hP, hK, hD0, hN⟩ := hv
  have hx := B.exec
  have hb := B.bytes
  have hrt := B.returns
  have hts := atoms_spec (ws := k_N_addFill :: ew_t) B.pre
  have htb : ∀ w ∈ ew_t, w.before args s = true := fun w h => hts w (List.mem_cons_of_mem _ h)
  have hown : s.vm.findClass "EarthHauls$Network" = some m.cls := findClass_of_methodNamed B.named
  have hlocks := B.notSynchronized
  have hE : entryFrame m args 3 = entryFrame m ([.ref h0, .int (eI (k : Int)), .int (eI lit)] : List Value).toArray 3 := by rw [hargs]
  rw [hE]
  clear hE hts B hargs
  generalize hRe : (headSpec _ _).room = R
  have hR1 : R.frames = 3 := by rw [← hRe]; rfl
  have hR2 : R.locals = 85 := by rw [← hRe]; rfl
  clear hRe
  generalize hQ : MQ below _ _ s 0 0 _ = Q
  subst hsz
  have hD := hD0.self (sz := s.heap.size)
  generalize hAe : va_A [(h0, .inr (1, [.ref qT, .ref qH, .ref qR, .ref qW, .ref qA, .ref qD, .ref qE, .int (eI ((2 * K : Nat) : Int))])), (qT, aI cI 82 gT), (qH, aI cI 82 gH), (qR, aI cI 82 gR0), (qW, aL cL 82 gW), (qD, aL cL 12 gD0), (qE, aI cI 12 gE0)] s.heap.size = A at hD hQ
  have hA : ∀ q : Nat, s.heap.size ≤ q → A q := fun q h => by rw [← hAe]; exact Or.inr h
  have hS : va_S A s.heap s.heap [] := va_S.rf
  have hP : va_P D classes [(h0, .inr (1, [.ref qT, .ref qH, .ref qR, .ref qW, .ref qA, .ref qD, .ref qE, .int (eI ((2 * K : Nat) : Int))])), (qT, aI cI 82 gT), (qH, aI cI 82 gH), (qR, aI cI 82 gR0), (qW, aL cL 82 gW), (qD, aL cL 12 gD0), (qE, aI cI 12 gE0)] s.heap := hP
  have hl := lv_entry ([.ref h0, .int (eI (k : Int)), .int (eI lit)]) (n := 3) (Nat.le_of_ble_eq_true rfl)
  rw [lg_entry_eq]
  generalize (lg_sl ([.ref h0, .int (eI (k : Int)), .int (eI lit)]) ++ List.replicate (3 - (lg_sl ([.ref h0, .int (eI (k : Int)), .int (eI lit)])).length) Slot.unset).toArray = ls at hl ⊢
  have hl : lv_has ls 3 [(0, .ref h0), (1, .int (eI (k : Int))), (2, .int (eI lit))] := hl
  refine lv_aload_n hx hb d_N_addFill_0 rfl (lv_at hl 0 rfl) ?_
  refine lv_bipush (v := eI 11) hx hb d_N_addFill_1 (by decide) ?_
  refine lv_bipush (v := eI 6) hx hb d_N_addFill_3 (by decide) ?_
  refine lv_iload_n hx hb d_N_addFill_5 rfl (lv_at hl 1 rfl) ?_
  refine we_iadd hx hb d_N_addFill_6 ?_
  refine lv_iload_n hx hb d_N_addFill_7 rfl (lv_at hl 2 rfl) ?_
  refine eh_cMV (As := [.int (eI 11), .int (eI (6 + (k : Int))), .int (eI lit)]) (rest := []) (q := (R_N, T_N, 8)) (wr := []) hx hb hml hown htb hN (m_N_push l D cI cL h0 qT qH qR qW qA qD qE cs AA BB K a b w cap x0 gT gH gR0 gW gD0 gE0 11 (6 + k) lit hn hc hcap (by omega) (by omega) (by omega) hlit hns hpl hway) 3 ⟨tb_260, tb_262, ts_14, tb_2, kin_N_push⟩ dv_N_push ⟨by rw [hR1]; decide, by rw [hR2]; decide⟩ hK hP hD hS hA 0 rfl rfl [0, 1, 2, 3, 4, 5, 6] [] rfl rfl (by decide) rfl (by decide) (by decide) [0, 1] rfl rfl rfl hl.1 (by decide) d_N_addFill_8 ⟨Nat.zero_le _, Nat.zero_le _⟩ (fun u H locs hu hP hD hS => ?_)
  have hP := hP.sub (ws' := [(h0, .inr (1, [.ref qT, .ref qH, .ref qR, .ref qW, .ref qA, .ref qD, .ref qE, .int (eI ((2 * K : Nat) : Int))])), (qT, aI cI 82 gT), (qH, aI cI 82 gH), (qR, aI cI 82 u.2.1), (qW, aL cL 82 gW), (qD, aL cL 12 u.2.2.1), (qE, aI cI 12 u.2.2.2)]) [0, 1, 2, 3, 4, 5, 6] rfl
  have hD := hD.sub (ws' := [(h0, .inr (1, [.ref qT, .ref qH, .ref qR, .ref qW, .ref qA, .ref qD, .ref qE, .int (eI ((2 * K : Nat) : Int))])), (qT, aI cI 82 gT), (qH, aI cI 82 gH), (qR, aI cI 82 u.2.1), (qW, aL cL 82 gW), (qD, aL cL 12 u.2.2.1), (qE, aI cI 12 u.2.2.2)]) [0, 1, 2, 3, 4, 5, 6] (by decide) rfl
  subst hQ
  exact W.vret hx hb hrt (fun t9 ht hW => ⟨⟨u, rfl, hu, by rw [ht]; exact hP, hD⟩, hS.F ht⟩) hS.2.2 d_N_addFill_11
