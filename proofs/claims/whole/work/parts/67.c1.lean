abbrev c_E_set : ByteArray := prog_1_method_4_code
def y_E_set : MethodName := ⟨"EarthHauls", "set", "(II)V"⟩
abbrev k_E_set : Cond := .code y_E_set c_E_set 3 none
theorem kin_E_set : k_E_set ∈ ew_t := tb_444
theorem dv_E_set : eh_dV y_E_set "EarthHauls" 2 := ⟨rfl, by decide, by decide, by decide +kernel⟩
theorem d_E_set_0 : decode c_E_set 0 = .ok (.iload_n 1, 1) := by decide +kernel
theorem d_E_set_1 : decode c_E_set 1 = .ok (.ifCond .ne 25, 3) := by decide +kernel
theorem d_E_set_4 : decode c_E_set 4 = .ok (.iload_n 2, 1) := by decide +kernel
theorem d_E_set_5 : decode c_E_set 5 = .ok (.sipush 500, 3) := by decide +kernel
theorem d_E_set_8 : decode c_E_set 8 = .ok (.if_icmp .lt 18, 3) := by decide +kernel
theorem d_E_set_11 : decode c_E_set 11 = .ok (.iload_n 2, 1) := by decide +kernel
theorem d_E_set_12 : decode c_E_set 12 = .ok (.sipush 1000, 3) := by decide +kernel
theorem d_E_set_15 : decode c_E_set 15 = .ok (.if_icmp .gt 11, 3) := by decide +kernel
theorem d_E_set_18 : decode c_E_set 18 = .ok (.aload_n 0, 1) := by decide +kernel
theorem d_E_set_19 : decode c_E_set 19 = .ok (.iload_n 2, 1) := by decide +kernel
theorem d_E_set_20 : decode c_E_set 20 = .ok (.putfield 72, 3) := by decide +kernel
theorem d_E_set_23 : decode c_E_set 23 = .ok (.goto 34, 3) := by decide +kernel
theorem d_E_set_26 : decode c_E_set 26 = .ok (.iload_n 1, 1) := by decide +kernel
theorem d_E_set_27 : decode c_E_set 27 = .ok (.iconst 1, 1) := by decide +kernel
theorem d_E_set_28 : decode c_E_set 28 = .ok (.if_icmp .ne 21, 3) := by decide +kernel
theorem d_E_set_31 : decode c_E_set 31 = .ok (.iload_n 2, 1) := by decide +kernel
theorem d_E_set_32 : decode c_E_set 32 = .ok (.ifCond .lt 17, 3) := by decide +kernel
theorem d_E_set_35 : decode c_E_set 35 = .ok (.iload_n 2, 1) := by decide +kernel
theorem d_E_set_36 : decode c_E_set 36 = .ok (.bipush 100, 2) := by decide +kernel
theorem d_E_set_38 : decode c_E_set 38 = .ok (.if_icmp .gt 11, 3) := by decide +kernel
theorem d_E_set_41 : decode c_E_set 41 = .ok (.aload_n 0, 1) := by decide +kernel
theorem d_E_set_42 : decode c_E_set 42 = .ok (.iload_n 2, 1) := by decide +kernel
theorem d_E_set_43 : decode c_E_set 43 = .ok (.putfield 75, 3) := by decide +kernel
theorem d_E_set_46 : decode c_E_set 46 = .ok (.goto 11, 3) := by decide +kernel
theorem d_E_set_49 : decode c_E_set 49 = .ok (.new 54, 3) := by decide +kernel
theorem d_E_set_52 : decode c_E_set 52 = .ok (.dup, 1) := by decide +kernel
theorem d_E_set_53 : decode c_E_set 53 = .ok (.invokespecial 56, 3) := by decide +kernel
theorem d_E_set_56 : decode c_E_set 56 = .ok (.athrow, 1) := by decide +kernel
theorem d_E_set_57 : decode c_E_set 57 = .ok (.aload_n 0, 1) := by decide +kernel
theorem d_E_set_58 : decode c_E_set 58 = .ok (.iconst 0, 1) := by decide +kernel
theorem d_E_set_59 : decode c_E_set 59 = .ok (.putfield 68, 3) := by decide +kernel
theorem d_E_set_62 : decode c_E_set 62 = .ok (.return_, 1) := by decide +kernel
set_option maxHeartbeats 1000000 in
set_option maxRecDepth 100000 in
theorem t_E_set_IA (l : Launch) (D : va_G) (cI cL cZ cS cY : ClassId) (ad : Nat → Nat) (n : Nat) (sh ra plv pco : Int) (ln cb la : Nat → Int) (cu cl fu fl : Nat → Nat) (ys yl yp : Nat → Int) (y z : Int) (hy : -2147483648 ≤ y ∧ y < 2147483648) (hz : -2147483648 ≤ z ∧ z < 2147483648) (hbad : ¬ (y = 0 ∧ 500 ≤ z ∧ z ≤ 1000) ∧ ¬ (y = 1 ∧ 0 ≤ z ∧ z ≤ 100)) (hE : eh_ES n sh ra ln cb la cu cl fu fl ys yl yp) (hl0 : l.stackTraces = false) : eh_T l y_E_set k_E_set 6 89 D classes [(cI, .int), (cL, .long), (cZ, .boolean), (cS, .object "EarthHauls$Section"), (cY, .object "EarthHauls$Yard")] [.ref (ad 0), .int (eI y), .int (eI z)] [((ad 0), .inr (4, [.ref (ad 1), .ref (ad 2), .ref (ad 3), .ref (ad 4), .ref (ad 5), .ref (ad 24), .int (eI ((n : Nat) : Int)), .int (eI sh), .int (eI ra), .int (eI plv), .long (eL pco)])), ((ad 1), .inl (cS, 5, .inr (.inr (.inr (.inr (eh_o5 (ad 6) (ad 7) (ad 8) (ad 9) (ad 10))))))), ((ad 2), aI cI 4 ln), ((ad 3), aI cZ 3 cb), ((ad 4), .inl (cY, 3, .inr (.inr (.inr (.inr (eh_o3 (ad 21) (ad 22) (ad 23))))))), ((ad 5), aI cI 30 la), ((ad 6), .inr (2, [.ref (ad 11), .ref (ad 16)])), ((ad 7), .inr (2, [.ref (ad 12), .ref (ad 17)])), ((ad 8), .inr (2, [.ref (ad 13), .ref (ad 18)])), ((ad 9), .inr (2, [.ref (ad 14), .ref (ad 19)])), ((ad 10), .inr (2, [.ref (ad 15), .ref (ad 20)])), ((ad 11), .inr (0, [.long (eL ((cu 0 : Nat) : Int)), .long (eL ((cl 0 : Nat) : Int))])), ((ad 12), .inr (0, [.long (eL ((cu 1 : Nat) : Int)), .long (eL ((cl 1 : Nat) : Int))])), ((ad 13), .inr (0, [.long (eL ((cu 2 : Nat) : Int)), .long (eL ((cl 2 : Nat) : Int))])), ((ad 14), .inr (0, [.long (eL ((cu 3 : Nat) : Int)), .long (eL ((cl 3 : Nat) : Int))])), ((ad 15), .inr (0, [.long (eL ((cu 4 : Nat) : Int)), .long (eL ((cl 4 : Nat) : Int))])), ((ad 16), .inr (0, [.long (eL ((fu 0 : Nat) : Int)), .long (eL ((fl 0 : Nat) : Int))])), ((ad 17), .inr (0, [.long (eL ((fu 1 : Nat) : Int)), .long (eL ((fl 1 : Nat) : Int))])), ((ad 18), .inr (0, [.long (eL ((fu 2 : Nat) : Int)), .long (eL ((fl 2 : Nat) : Int))])), ((ad 19), .inr (0, [.long (eL ((fu 3 : Nat) : Int)), .long (eL ((fl 3 : Nat) : Int))])), ((ad 20), .inr (0, [.long (eL ((fu 4 : Nat) : Int)), .long (eL ((fl 4 : Nat) : Int))])), ((ad 21), .inr (3, [.int (eI (ys 0)), .int (eI (yl 0)), .int (eI (yp 0))])), ((ad 22), .inr (3, [.int (eI (ys 1)), .int (eI (yl 1)), .int (eI (yp 1))])), ((ad 23), .inr (3, [.int (eI (ys 2)), .int (eI (yl 2)), .int (eI (yp 2))]))] eh_IA := by
  refine eh_T.ofW (cc := c_E_set) (maxL := 3) (ret := none) hl0 (by decide) ?_
  intro p e s m args below meth c s₁ B hml hex htr hv
  obtain ⟨hargs, hP, hK, hN, hst⟩ := hv
  have hx := B.exec
  have hb := B.bytes
  have hrt := B.returns
  have hts := atoms_spec (ws := k_E_set :: ew_t) B.pre
  have htb : ∀ w ∈ ew_t, w.before args s = true := fun w h => hts w (List.mem_cons_of_mem _ h)
  have hown : s.vm.findClass "EarthHauls" = some m.cls := findClass_of_methodNamed B.named
  have hlocks := B.notSynchronized
  have hE9 : entryFrame m args 3 = entryFrame m ([.ref (ad 0), .int (eI y), .int (eI z)] : List Value).toArray 3 := by rw [hargs]
  rw [hE9]
  clear hE9 hts B hargs
  generalize hRe : (headSpec _ _).room = R
  have hR1 : R.frames = 6 := by rw [← hRe]; rfl
  have hR2 : R.locals = 89 := by rw [← hRe]; rfl
  have hR3 : R.cells = 1 := by rw [← hRe]; rfl
  have hR4 : R.slots = 6 := by rw [← hRe]; rfl
  clear hRe
  generalize hQ : eh_TQ below _ s = Q
  have hP : va_P D classes [((ad 0), .inr (4, [.ref (ad 1), .ref (ad 2), .ref (ad 3), .ref (ad 4), .ref (ad 5), .ref (ad 24), .int (eI ((n : Nat) : Int)), .int (eI sh), .int (eI ra), .int (eI plv), .long (eL pco)])), ((ad 1), .inl (cS, 5, .inr (.inr (.inr (.inr (eh_o5 (ad 6) (ad 7) (ad 8) (ad 9) (ad 10))))))), ((ad 2), aI cI 4 ln), ((ad 3), aI cZ 3 cb), ((ad 4), .inl (cY, 3, .inr (.inr (.inr (.inr (eh_o3 (ad 21) (ad 22) (ad 23))))))), ((ad 5), aI cI 30 la), ((ad 6), .inr (2, [.ref (ad 11), .ref (ad 16)])), ((ad 7), .inr (2, [.ref (ad 12), .ref (ad 17)])), ((ad 8), .inr (2, [.ref (ad 13), .ref (ad 18)])), ((ad 9), .inr (2, [.ref (ad 14), .ref (ad 19)])), ((ad 10), .inr (2, [.ref (ad 15), .ref (ad 20)])), ((ad 11), .inr (0, [.long (eL ((cu 0 : Nat) : Int)), .long (eL ((cl 0 : Nat) : Int))])), ((ad 12), .inr (0, [.long (eL ((cu 1 : Nat) : Int)), .long (eL ((cl 1 : Nat) : Int))])), ((ad 13), .inr (0, [.long (eL ((cu 2 : Nat) : Int)), .long (eL ((cl 2 : Nat) : Int))])), ((ad 14), .inr (0, [.long (eL ((cu 3 : Nat) : Int)), .long (eL ((cl 3 : Nat) : Int))])), ((ad 15), .inr (0, [.long (eL ((cu 4 : Nat) : Int)), .long (eL ((cl 4 : Nat) : Int))])), ((ad 16), .inr (0, [.long (eL ((fu 0 : Nat) : Int)), .long (eL ((fl 0 : Nat) : Int))])), ((ad 17), .inr (0, [.long (eL ((fu 1 : Nat) : Int)), .long (eL ((fl 1 : Nat) : Int))])), ((ad 18), .inr (0, [.long (eL ((fu 2 : Nat) : Int)), .long (eL ((fl 2 : Nat) : Int))])), ((ad 19), .inr (0, [.long (eL ((fu 3 : Nat) : Int)), .long (eL ((fl 3 : Nat) : Int))])), ((ad 20), .inr (0, [.long (eL ((fu 4 : Nat) : Int)), .long (eL ((fl 4 : Nat) : Int))])), ((ad 21), .inr (3, [.int (eI (ys 0)), .int (eI (yl 0)), .int (eI (yp 0))])), ((ad 22), .inr (3, [.int (eI (ys 1)), .int (eI (yl 1)), .int (eI (yp 1))])), ((ad 23), .inr (3, [.int (eI (ys 2)), .int (eI (yl 2)), .int (eI (yp 2))]))] s.heap := hP
  have hl := lv_entry ([.ref (ad 0), .int (eI y), .int (eI z)]) (n := 3) (Nat.le_of_ble_eq_true rfl)
  rw [lg_entry_eq]
  generalize (lg_sl ([.ref (ad 0), .int (eI y), .int (eI z)]) ++ List.replicate (3 - (lg_sl ([.ref (ad 0), .int (eI y), .int (eI z)])).length) Slot.unset).toArray = ls at hl ⊢
  have hl : lv_has ls 3 [(0, .ref (ad 0)), (1, .int (eI y)), (2, .int (eI z))] := hl
  have hn5 := hE.1
  rcases (show (y = 0 ∧ z < 500) ∨ (y = 0 ∧ 500 ≤ z ∧ 1000 < z) ∨ (y = 1 ∧ z < 0) ∨ (y = 1 ∧ 0 ≤ z ∧ 100 < z) ∨ (y ≠ 0 ∧ y ≠ 1) by omega) with hcas | hcas | hcas | hcas | hcas
  ·
    refine lv_iload_n hx hb d_E_set_0 rfl (lv_at hl 1 rfl) ?_
    refine we_if_ne (tgt := 26) hx hb (by constructor <;> omega) d_E_set_1 rfl (fun hc1 => absurd hc1 (by omega)) (fun hc1 => ?_)
    refine lv_iload_n hx hb d_E_set_4 rfl (lv_at hl 2 rfl) ?_
    refine lv_sipush (v := eI 500) hx hb d_E_set_5 (by decide) ?_
    refine we_icmp_lt (tgt := 26) hx hb (by constructor <;> omega) (by constructor <;> omega) d_E_set_8 rfl (fun hc8 => ?_) (fun hc8 => absurd hc8 (by omega))
    refine lv_iload_n hx hb d_E_set_26 rfl (lv_at hl 1 rfl) ?_
    refine lv_iconst (v := eI 1) hx hb d_E_set_27 rfl ?_
    refine we_icmp_ne (tgt := 49) hx hb (by constructor <;> omega) (by constructor <;> omega) d_E_set_28 rfl (fun hc28 => ?_) (fun hc28 => absurd hc28 (by omega))
    subst hQ
    exact eh_throw0 (own := "EarthHauls") (names := eh_up) (ic := 56) (ix := 54) hx hb htr hown (by decide +kernel) (by decide +kernel) (eh_own eh_ow_IA htb hN hst) (htb _ tb_340) (htb _ tb_341) (htb _ tb_11) hex hlocks (hl.1.trans hml.symm) (by rw [hR1]; decide) (by rw [hR2]; decide) (by rw [hR3]; decide) (by rw [hR4]; decide) d_E_set_49 d_E_set_52 d_E_set_53 d_E_set_56
  ·
    refine lv_iload_n hx hb d_E_set_0 rfl (lv_at hl 1 rfl) ?_
    refine we_if_ne (tgt := 26) hx hb (by constructor <;> omega) d_E_set_1 rfl (fun hc1 => absurd hc1 (by omega)) (fun hc1 => ?_)
    refine lv_iload_n hx hb d_E_set_4 rfl (lv_at hl 2 rfl) ?_
    refine lv_sipush (v := eI 500) hx hb d_E_set_5 (by decide) ?_
    refine we_icmp_lt (tgt := 26) hx hb (by constructor <;> omega) (by constructor <;> omega) d_E_set_8 rfl (fun hc8 => absurd hc8 (by omega)) (fun hc8 => ?_)
    refine lv_iload_n hx hb d_E_set_11 rfl (lv_at hl 2 rfl) ?_
    refine lv_sipush (v := eI 1000) hx hb d_E_set_12 (by decide) ?_
    refine we_icmp_gt (tgt := 26) hx hb (by constructor <;> omega) (by constructor <;> omega) d_E_set_15 rfl (fun hc15 => ?_) (fun hc15 => absurd hc15 (by omega))
    refine lv_iload_n hx hb d_E_set_26 rfl (lv_at hl 1 rfl) ?_
    refine lv_iconst (v := eI 1) hx hb d_E_set_27 rfl ?_
    refine we_icmp_ne (tgt := 49) hx hb (by constructor <;> omega) (by constructor <;> omega) d_E_set_28 rfl (fun hc28 => ?_) (fun hc28 => absurd hc28 (by omega))
    subst hQ
    exact eh_throw0 (own := "EarthHauls") (names := eh_up) (ic := 56) (ix := 54) hx hb htr hown (by decide +kernel) (by decide +kernel) (eh_own eh_ow_IA htb hN hst) (htb _ tb_340) (htb _ tb_341) (htb _ tb_11) hex hlocks (hl.1.trans hml.symm) (by rw [hR1]; decide) (by rw [hR2]; decide) (by rw [hR3]; decide) (by rw [hR4]; decide) d_E_set_49 d_E_set_52 d_E_set_53 d_E_set_56
  ·
    refine lv_iload_n hx hb d_E_set_0 rfl (lv_at hl 1 rfl) ?_
    refine we_if_ne (tgt := 26) hx hb (by constructor <;> omega) d_E_set_1 rfl (fun hc1 => ?_) (fun hc1 => absurd hc1 (by omega))
    refine lv_iload_n hx hb d_E_set_26 rfl (lv_at hl 1 rfl) ?_
    refine lv_iconst (v := eI 1) hx hb d_E_set_27 rfl ?_
    refine we_icmp_ne (tgt := 49) hx hb (by constructor <;> omega) (by constructor <;> omega) d_E_set_28 rfl (fun hc28 => absurd hc28 (by omega)) (fun hc28 => ?_)
    refine lv_iload_n hx hb d_E_set_31 rfl (lv_at hl 2 rfl) ?_
    refine we_if_lt (tgt := 49) hx hb (by constructor <;> omega) d_E_set_32 rfl (fun hc32 => ?_) (fun hc32 => absurd hc32 (by omega))
    subst hQ
    exact eh_throw0 (own := "EarthHauls") (names := eh_up) (ic := 56) (ix := 54) hx hb htr hown (by decide +kernel) (by decide +kernel) (eh_own eh_ow_IA htb hN hst) (htb _ tb_340) (htb _ tb_341) (htb _ tb_11) hex hlocks (hl.1.trans hml.symm) (by rw [hR1]; decide) (by rw [hR2]; decide) (by rw [hR3]; decide) (by rw [hR4]; decide) d_E_set_49 d_E_set_52 d_E_set_53 d_E_set_56
  ·
    refine lv_iload_n hx hb d_E_set_0 rfl (lv_at hl 1 rfl) ?_
    refine we_if_ne (tgt := 26) hx hb (by constructor <;> omega) d_E_set_1 rfl (fun hc1 => ?_) (fun hc1 => absurd hc1 (by omega))
    refine lv_iload_n hx hb d_E_set_26 rfl (lv_at hl 1 rfl) ?_
    refine lv_iconst (v := eI 1) hx hb d_E_set_27 rfl ?_
    refine we_icmp_ne (tgt := 49) hx hb (by constructor <;> omega) (by constructor <;> omega) d_E_set_28 rfl (fun hc28 => absurd hc28 (by omega)) (fun hc28 => ?_)
    refine lv_iload_n hx hb d_E_set_31 rfl (lv_at hl 2 rfl) ?_
    refine we_if_lt (tgt := 49) hx hb (by constructor <;> omega) d_E_set_32 rfl (fun hc32 => absurd hc32 (by omega)) (fun hc32 => ?_)
    refine lv_iload_n hx hb d_E_set_35 rfl (lv_at hl 2 rfl) ?_
    refine lv_bipush (v := eI 100) hx hb d_E_set_36 (by decide) ?_
    refine we_icmp_gt (tgt := 49) hx hb (by constructor <;> omega) (by constructor <;> omega) d_E_set_38 rfl (fun hc38 => ?_) (fun hc38 => absurd hc38 (by omega))
    subst hQ
    exact eh_throw0 (own := "EarthHauls") (names := eh_up) (ic := 56) (ix := 54) hx hb htr hown (by decide +kernel) (by decide +kernel) (eh_own eh_ow_IA htb hN hst) (htb _ tb_340) (htb _ tb_341) (htb _ tb_11) hex hlocks (hl.1.trans hml.symm) (by rw [hR1]; decide) (by rw [hR2]; decide) (by rw [hR3]; decide) (by rw [hR4]; decide) d_E_set_49 d_E_set_52 d_E_set_53 d_E_set_56
  ·
    refine lv_iload_n hx hb d_E_set_0 rfl (lv_at hl 1 rfl) ?_
    refine we_if_ne (tgt := 26) hx hb (by constructor <;> omega) d_E_set_1 rfl (fun hc1 => ?_) (fun hc1 => absurd hc1 (by omega))
    refine lv_iload_n hx hb d_E_set_26 rfl (lv_at hl 1 rfl) ?_
    refine lv_iconst (v := eI 1) hx hb d_E_set_27 rfl ?_
    refine we_icmp_ne (tgt := 49) hx hb (by constructor <;> omega) (by constructor <;> omega) d_E_set_28 rfl (fun hc28 => ?_) (fun hc28 => absurd hc28 (by omega))
    subst hQ
    exact eh_throw0 (own := "EarthHauls") (names := eh_up) (ic := 56) (ix := 54) hx hb htr hown (by decide +kernel) (by decide +kernel) (eh_own eh_ow_IA htb hN hst) (htb _ tb_340) (htb _ tb_341) (htb _ tb_11) hex hlocks (hl.1.trans hml.symm) (by rw [hR1]; decide) (by rw [hR2]; decide) (by rw [hR3]; decide) (by rw [hR4]; decide) d_E_set_49 d_E_set_52 d_E_set_53 d_E_set_56
abbrev c_E_border : ByteArray := prog_1_method_5_code
def y_E_border : MethodName := ⟨"EarthHauls", "border", "(IZ)V"⟩
abbrev k_E_border : Cond := .code y_E_border c_E_border 3 none
theorem kin_E_border : k_E_border ∈ ew_t := tb_452
theorem dv_E_border : eh_dV y_E_border "EarthHauls" 2 := ⟨rfl, by decide, by decide, by decide +kernel⟩
theorem d_E_border_0 : decode c_E_border 0 = .ok (.iload_n 1, 1) := by decide +kernel
theorem d_E_border_1 : decode c_E_border 1 = .ok (.ifCond .lt 11, 3) := by decide +kernel
theorem d_E_border_4 : decode c_E_border 4 = .ok (.iload_n 1, 1) := by decide +kernel
theorem d_E_border_5 : decode c_E_border 5 = .ok (.aload_n 0, 1) := by decide +kernel
theorem d_E_border_6 : decode c_E_border 6 = .ok (.invokevirtual 78, 3) := by decide +kernel
theorem d_E_border_9 : decode c_E_border 9 = .ok (.if_icmp .lt 11, 3) := by decide +kernel
theorem d_E_border_12 : decode c_E_border 12 = .ok (.new 82, 3) := by decide +kernel
theorem d_E_border_15 : decode c_E_border 15 = .ok (.dup, 1) := by decide +kernel
theorem d_E_border_16 : decode c_E_border 16 = .ok (.invokespecial 84, 3) := by decide +kernel
theorem d_E_border_19 : decode c_E_border 19 = .ok (.athrow, 1) := by decide +kernel
theorem d_E_border_20 : decode c_E_border 20 = .ok (.aload_n 0, 1) := by decide +kernel
theorem d_E_border_21 : decode c_E_border 21 = .ok (.getfield 19, 3) := by decide +kernel
theorem d_E_border_24 : decode c_E_border 24 = .ok (.iload_n 1, 1) := by decide +kernel
theorem d_E_border_25 : decode c_E_border 25 = .ok (.baload, 1) := by decide +kernel
theorem d_E_border_26 : decode c_E_border 26 = .ok (.iload_n 2, 1) := by decide +kernel
theorem d_E_border_27 : decode c_E_border 27 = .ok (.if_icmp .ne 11, 3) := by decide +kernel
theorem d_E_border_30 : decode c_E_border 30 = .ok (.new 61, 3) := by decide +kernel
theorem d_E_border_33 : decode c_E_border 33 = .ok (.dup, 1) := by decide +kernel
theorem d_E_border_34 : decode c_E_border 34 = .ok (.invokespecial 63, 3) := by decide +kernel
theorem d_E_border_37 : decode c_E_border 37 = .ok (.athrow, 1) := by decide +kernel
theorem d_E_border_38 : decode c_E_border 38 = .ok (.aload_n 0, 1) := by decide +kernel
theorem d_E_border_39 : decode c_E_border 39 = .ok (.getfield 19, 3) := by decide +kernel
theorem d_E_border_42 : decode c_E_border 42 = .ok (.iload_n 1, 1) := by decide +kernel
theorem d_E_border_43 : decode c_E_border 43 = .ok (.iload_n 2, 1) := by decide +kernel
theorem d_E_border_44 : decode c_E_border 44 = .ok (.bastore, 1) := by decide +kernel
theorem d_E_border_45 : decode c_E_border 45 = .ok (.aload_n 0, 1) := by decide +kernel
theorem d_E_border_46 : decode c_E_border 46 = .ok (.iconst 0, 1) := by decide +kernel
theorem d_E_border_47 : decode c_E_border 47 = .ok (.putfield 68, 3) := by decide +kernel
theorem d_E_border_50 : decode c_E_border 50 = .ok (.return_, 1) := by decide +kernel
set_option maxHeartbeats 1000000 in
set_option maxRecDepth 100000 in
theorem t_E_border_IB_1 (l : Launch) (D : va_G) (cI cL cZ cS cY : ClassId) (ad : Nat → Nat) (n : Nat) (sh ra plv pco : Int) (ln cb la : Nat → Int) (cu cl fu fl : Nat → Nat) (ys yl yp : Nat → Int) (y : Int) (hy : -2147483648 ≤ y ∧ y < 2147483648) (hbad : y < 0 ∨ (n : Int) ≤ y + 2) (hE : eh_ES n sh ra ln cb la cu cl fu fl ys yl yp) (hl0 : l.stackTraces = false) : eh_T l y_E_border k_E_border 6 89 D classes [(cI, .int), (cL, .long), (cZ, .boolean), (cS, .object "EarthHauls$Section"), (cY, .object "EarthHauls$Yard")] [.ref (ad 0), .int (eI y), .int (eI 1)] [((ad 0), .inr (4, [.ref (ad 1), .ref (ad 2), .ref (ad 3), .ref (ad 4), .ref (ad 5), .ref (ad 24), .int (eI ((n : Nat) : Int)), .int (eI sh), .int (eI ra), .int (eI plv), .long (eL pco)])), ((ad 1), .inl (cS, 5, .inr (.inr (.inr (.inr (eh_o5 (ad 6) (ad 7) (ad 8) (ad 9) (ad 10))))))), ((ad 2), aI cI 4 ln), ((ad 3), aI cZ 3 cb), ((ad 4), .inl (cY, 3, .inr (.inr (.inr (.inr (eh_o3 (ad 21) (ad 22) (ad 23))))))), ((ad 5), aI cI 30 la), ((ad 6), .inr (2, [.ref (ad 11), .ref (ad 16)])), ((ad 7), .inr (2, [.ref (ad 12), .ref (ad 17)])), ((ad 8), .inr (2, [.ref (ad 13), .ref (ad 18)])), ((ad 9), .inr (2, [.ref (ad 14), .ref (ad 19)])), ((ad 10), .inr (2, [.ref (ad 15), .ref (ad 20)])), ((ad 11), .inr (0, [.long (eL ((cu 0 : Nat) : Int)), .long (eL ((cl 0 : Nat) : Int))])), ((ad 12), .inr (0, [.long (eL ((cu 1 : Nat) : Int)), .long (eL ((cl 1 : Nat) : Int))])), ((ad 13), .inr (0, [.long (eL ((cu 2 : Nat) : Int)), .long (eL ((cl 2 : Nat) : Int))])), ((ad 14), .inr (0, [.long (eL ((cu 3 : Nat) : Int)), .long (eL ((cl 3 : Nat) : Int))])), ((ad 15), .inr (0, [.long (eL ((cu 4 : Nat) : Int)), .long (eL ((cl 4 : Nat) : Int))])), ((ad 16), .inr (0, [.long (eL ((fu 0 : Nat) : Int)), .long (eL ((fl 0 : Nat) : Int))])), ((ad 17), .inr (0, [.long (eL ((fu 1 : Nat) : Int)), .long (eL ((fl 1 : Nat) : Int))])), ((ad 18), .inr (0, [.long (eL ((fu 2 : Nat) : Int)), .long (eL ((fl 2 : Nat) : Int))])), ((ad 19), .inr (0, [.long (eL ((fu 3 : Nat) : Int)), .long (eL ((fl 3 : Nat) : Int))])), ((ad 20), .inr (0, [.long (eL ((fu 4 : Nat) : Int)), .long (eL ((fl 4 : Nat) : Int))])), ((ad 21), .inr (3, [.int (eI (ys 0)), .int (eI (yl 0)), .int (eI (yp 0))])), ((ad 22), .inr (3, [.int (eI (ys 1)), .int (eI (yl 1)), .int (eI (yp 1))])), ((ad 23), .inr (3, [.int (eI (ys 2)), .int (eI (yl 2)), .int (eI (yp 2))]))] eh_IB := by
  refine eh_T.ofW (cc := c_E_border) (maxL := 3) (ret := none) hl0 (by decide) ?_
  intro p e s m args below meth c s₁ B hml hex htr hv
  obtain ⟨hargs, hP, hK, hN, hst⟩ := hv
  have hx := B.exec
  have hb := B.bytes
  have hrt := B.returns
  have hts := atoms_spec (ws := k_E_border :: ew_t) B.pre
  have htb : ∀ w ∈ ew_t, w.before args s = true := fun w h => hts w (List.mem_cons_of_mem _ h)
  have hown : s.vm.findClass "EarthHauls" = some m.cls := findClass_of_methodNamed B.named
  have hlocks := B.notSynchronized
  have hE9 : entryFrame m args 3 = entryFrame m ([.ref (ad 0), .int (eI y), .int (eI 1)] : List Value).toArray 3 := by rw [hargs]
  rw [hE9]
  clear hE9 hts B hargs
  generalize hRe : (headSpec _ _).room = R
  have hR1 : R.frames = 6 := by rw [← hRe]; rfl
  have hR2 : R.locals = 89 := by rw [← hRe]; rfl
  have hR3 : R.cells = 1 := by rw [← hRe]; rfl
  have hR4 : R.slots = 6 := by rw [← hRe]; rfl
  clear hRe
  generalize hQ : eh_TQ below _ s = Q
  have hP : va_P D classes [((ad 0), .inr (4, [.ref (ad 1), .ref (ad 2), .ref (ad 3), .ref (ad 4), .ref (ad 5), .ref (ad 24), .int (eI ((n : Nat) : Int)), .int (eI sh), .int (eI ra), .int (eI plv), .long (eL pco)])), ((ad 1), .inl (cS, 5, .inr (.inr (.inr (.inr (eh_o5 (ad 6) (ad 7) (ad 8) (ad 9) (ad 10))))))), ((ad 2), aI cI 4 ln), ((ad 3), aI cZ 3 cb), ((ad 4), .inl (cY, 3, .inr (.inr (.inr (.inr (eh_o3 (ad 21) (ad 22) (ad 23))))))), ((ad 5), aI cI 30 la), ((ad 6), .inr (2, [.ref (ad 11), .ref (ad 16)])), ((ad 7), .inr (2, [.ref (ad 12), .ref (ad 17)])), ((ad 8), .inr (2, [.ref (ad 13), .ref (ad 18)])), ((ad 9), .inr (2, [.ref (ad 14), .ref (ad 19)])), ((ad 10), .inr (2, [.ref (ad 15), .ref (ad 20)])), ((ad 11), .inr (0, [.long (eL ((cu 0 : Nat) : Int)), .long (eL ((cl 0 : Nat) : Int))])), ((ad 12), .inr (0, [.long (eL ((cu 1 : Nat) : Int)), .long (eL ((cl 1 : Nat) : Int))])), ((ad 13), .inr (0, [.long (eL ((cu 2 : Nat) : Int)), .long (eL ((cl 2 : Nat) : Int))])), ((ad 14), .inr (0, [.long (eL ((cu 3 : Nat) : Int)), .long (eL ((cl 3 : Nat) : Int))])), ((ad 15), .inr (0, [.long (eL ((cu 4 : Nat) : Int)), .long (eL ((cl 4 : Nat) : Int))])), ((ad 16), .inr (0, [.long (eL ((fu 0 : Nat) : Int)), .long (eL ((fl 0 : Nat) : Int))])), ((ad 17), .inr (0, [.long (eL ((fu 1 : Nat) : Int)), .long (eL ((fl 1 : Nat) : Int))])), ((ad 18), .inr (0, [.long (eL ((fu 2 : Nat) : Int)), .long (eL ((fl 2 : Nat) : Int))])), ((ad 19), .inr (0, [.long (eL ((fu 3 : Nat) : Int)), .long (eL ((fl 3 : Nat) : Int))])), ((ad 20), .inr (0, [.long (eL ((fu 4 : Nat) : Int)), .long (eL ((fl 4 : Nat) : Int))])), ((ad 21), .inr (3, [.int (eI (ys 0)), .int (eI (yl 0)), .int (eI (yp 0))])), ((ad 22), .inr (3, [.int (eI (ys 1)), .int (eI (yl 1)), .int (eI (yp 1))])), ((ad 23), .inr (3, [.int (eI (ys 2)), .int (eI (yl 2)), .int (eI (yp 2))]))] s.heap := hP
  have hl := lv_entry ([.ref (ad 0), .int (eI y), .int (eI 1)]) (n := 3) (Nat.le_of_ble_eq_true rfl)
  rw [lg_entry_eq]
  generalize (lg_sl ([.ref (ad 0), .int (eI y), .int (eI 1)]) ++ List.replicate (3 - (lg_sl ([.ref (ad 0), .int (eI y), .int (eI 1)])).length) Slot.unset).toArray = ls at hl ⊢
  have hl : lv_has ls 3 [(0, .ref (ad 0)), (1, .int (eI y)), (2, .int (eI 1))] := hl
  have hn5 := hE.1
  by_cases hy9 : y < 0
  ·
    refine lv_iload_n hx hb d_E_border_0 rfl (lv_at hl 1 rfl) ?_
    refine we_if_lt (tgt := 12) hx hb (by constructor <;> omega) d_E_border_1 rfl (fun hc1 => ?_) (fun hc1 => absurd hc1 (by omega))
    subst hQ
    exact eh_throw0 (own := "EarthHauls") (names := eh_up) (ic := 84) (ix := 82) hx hb htr hown (by decide +kernel) (by decide +kernel) (eh_own eh_ow_IB htb hN hst) (htb _ tb_457) (htb _ tb_458) (htb _ tb_14) hex hlocks (hl.1.trans hml.symm) (by rw [hR1]; decide) (by rw [hR2]; decide) (by rw [hR3]; decide) (by rw [hR4]; decide) d_E_border_12 d_E_border_15 d_E_border_16 d_E_border_19
  ·
    refine lv_iload_n hx hb d_E_border_0 rfl (lv_at hl 1 rfl) ?_
    refine we_if_lt (tgt := 12) hx hb (by constructor <;> omega) d_E_border_1 rfl (fun hc1 => absurd hc1 (by omega)) (fun hc1 => ?_)
    refine lv_iload_n hx hb d_E_border_4 rfl (lv_at hl 1 rfl) ?_
    refine lv_aload_n hx hb d_E_border_5 rfl (lv_at hl 0 rfl) ?_
    refine eh_cRV (As := []) (rest := [.int (eI y)]) (v := .int (eI (if 2 < n then (n : Int) - 2 else 0))) (q := (R_E, T_E, 11)) hx hb hml hown htb hN (r_E_borders l D cI cL cZ cS cY ad n sh ra plv pco ln cb la cu cl fu fl ys yl yp hE) 0 ⟨tb_453, tb_455, ts_23, tb_1, kin_E_borders⟩ dv_E_borders ⟨by rw [hR1]; decide, by rw [hR2]; decide⟩ hK hP 0 rfl rfl [0, 1, 2, 3, 4, 5, 6, 7, 8, 9, 10, 11, 12, 13, 14, 15, 16, 17, 18, 19, 20, 21, 22, 23] rfl [0, 1, 2, 3, 4] rfl rfl rfl hl.1 (Nat.le_of_ble_eq_true rfl) d_E_border_6 ⟨Nat.zero_le _, Nat.zero_le _⟩ ?_
    refine we_icmp_lt (tgt := 20) hx hb (by constructor <;> omega) (by constructor <;> split <;> omega) d_E_border_9 rfl (fun hc9 => absurd hc9 (by split <;> omega)) (fun hc9 => ?_)
    subst hQ
    exact eh_throw0 (own := "EarthHauls") (names := eh_up) (ic := 84) (ix := 82) hx hb htr hown (by decide +kernel) (by decide +kernel) (eh_own eh_ow_IB htb hN hst) (htb _ tb_457) (htb _ tb_458) (htb _ tb_14) hex hlocks (hl.1.trans hml.symm) (by rw [hR1]; decide) (by rw [hR2]; decide) (by rw [hR3]; decide) (by rw [hR4]; decide) d_E_border_12 d_E_border_15 d_E_border_16 d_E_border_19
set_option maxHeartbeats 1000000 in
set_option maxRecDepth 100000 in
theorem t_E_border_IS_1 (l : Launch) (D : va_G) (cI cL cZ cS cY : ClassId) (ad : Nat → Nat) (n : Nat) (sh ra plv pco : Int) (ln cb la : Nat → Int) (cu cl fu fl : Nat → Nat) (ys yl yp : Nat → Int) (y : Int) (hy : -2147483648 ≤ y ∧ y < 2147483648) (hgood : ¬ (y < 0 ∨ (n : Int) ≤ y + 2)) (hsame : cb y.toNat = 1) (hE : eh_ES n sh ra ln cb la cu cl fu fl ys yl yp) (hl0 : l.stackTraces = false) : eh_T l y_E_border k_E_border 6 89 D classes [(cI, .int), (cL, .long), (cZ, .boolean), (cS, .object "EarthHauls$Section"), (cY, .object "EarthHauls$Yard")] [.ref (ad 0), .int (eI y), .int (eI 1)] [((ad 0), .inr (4, [.ref (ad 1), .ref (ad 2), .ref (ad 3), .ref (ad 4), .ref (ad 5), .ref (ad 24), .int (eI ((n : Nat) : Int)), .int (eI sh), .int (eI ra), .int (eI plv), .long (eL pco)])), ((ad 1), .inl (cS, 5, .inr (.inr (.inr (.inr (eh_o5 (ad 6) (ad 7) (ad 8) (ad 9) (ad 10))))))), ((ad 2), aI cI 4 ln), ((ad 3), aI cZ 3 cb), ((ad 4), .inl (cY, 3, .inr (.inr (.inr (.inr (eh_o3 (ad 21) (ad 22) (ad 23))))))), ((ad 5), aI cI 30 la), ((ad 6), .inr (2, [.ref (ad 11), .ref (ad 16)])), ((ad 7), .inr (2, [.ref (ad 12), .ref (ad 17)])), ((ad 8), .inr (2, [.ref (ad 13), .ref (ad 18)])), ((ad 9), .inr (2, [.ref (ad 14), .ref (ad 19)])), ((ad 10), .inr (2, [.ref (ad 15), .ref (ad 20)])), ((ad 11), .inr (0, [.long (eL ((cu 0 : Nat) : Int)), .long (eL ((cl 0 : Nat) : Int))])), ((ad 12), .inr (0, [.long (eL ((cu 1 : Nat) : Int)), .long (eL ((cl 1 : Nat) : Int))])), ((ad 13), .inr (0, [.long (eL ((cu 2 : Nat) : Int)), .long (eL ((cl 2 : Nat) : Int))])), ((ad 14), .inr (0, [.long (eL ((cu 3 : Nat) : Int)), .long (eL ((cl 3 : Nat) : Int))])), ((ad 15), .inr (0, [.long (eL ((cu 4 : Nat) : Int)), .long (eL ((cl 4 : Nat) : Int))])), ((ad 16), .inr (0, [.long (eL ((fu 0 : Nat) : Int)), .long (eL ((fl 0 : Nat) : Int))])), ((ad 17), .inr (0, [.long (eL ((fu 1 : Nat) : Int)), .long (eL ((fl 1 : Nat) : Int))])), ((ad 18), .inr (0, [.long (eL ((fu 2 : Nat) : Int)), .long (eL ((fl 2 : Nat) : Int))])), ((ad 19), .inr (0, [.long (eL ((fu 3 : Nat) : Int)), .long (eL ((fl 3 : Nat) : Int))])), ((ad 20), .inr (0, [.long (eL ((fu 4 : Nat) : Int)), .long (eL ((fl 4 : Nat) : Int))])), ((ad 21), .inr (3, [.int (eI (ys 0)), .int (eI (yl 0)), .int (eI (yp 0))])), ((ad 22), .inr (3, [.int (eI (ys 1)), .int (eI (yl 1)), .int (eI (yp 1))])), ((ad 23), .inr (3, [.int (eI (ys 2)), .int (eI (yl 2)), .int (eI (yp 2))]))] eh_IS := by
  refine eh_T.ofW (cc := c_E_border) (maxL := 3) (ret := none) hl0 (by decide) ?_
  intro p e s m args below meth c s₁ B hml hex htr hv
  obtain ⟨hargs, hP, hK, hN, hst⟩ := hv
  have hx := B.exec
  have hb := B.bytes
  have hrt := B.returns
  have hts := atoms_spec (ws := k_E_border :: ew_t) B.pre
  have htb : ∀ w ∈ ew_t, w.before args s = true := fun w h => hts w (List.mem_cons_of_mem _ h)
  have hown : s.vm.findClass "EarthHauls" = some m.cls := findClass_of_methodNamed B.named
  have hlocks := B.notSynchronized
  have hE9 : entryFrame m args 3 = entryFrame m ([.ref (ad 0), .int (eI y), .int (eI 1)] : List Value).toArray 3 := by rw [hargs]
  rw [hE9]
  clear hE9 hts B hargs
  generalize hRe : (headSpec _ _).room = R
  have hR1 : R.frames = 6 := by rw [← hRe]; rfl
  have hR2 : R.locals = 89 := by rw [← hRe]; rfl
  have hR3 : R.cells = 1 := by rw [← hRe]; rfl
  have hR4 : R.slots = 6 := by rw [← hRe]; rfl
  clear hRe
  generalize hQ : eh_TQ below _ s = Q
  have hP : va_P D classes [((ad 0), .inr (4, [.ref (ad 1), .ref (ad 2), .ref (ad 3), .ref (ad 4), .ref (ad 5), .ref (ad 24), .int (eI ((n : Nat) : Int)), .int (eI sh), .int (eI ra), .int (eI plv), .long (eL pco)])), ((ad 1), .inl (cS, 5, .inr (.inr (.inr (.inr (eh_o5 (ad 6) (ad 7) (ad 8) (ad 9) (ad 10))))))), ((ad 2), aI cI 4 ln), ((ad 3), aI cZ 3 cb), ((ad 4), .inl (cY, 3, .inr (.inr (.inr (.inr (eh_o3 (ad 21) (ad 22) (ad 23))))))), ((ad 5), aI cI 30 la), ((ad 6), .inr (2, [.ref (ad 11), .ref (ad 16)])), ((ad 7), .inr (2, [.ref (ad 12), .ref (ad 17)])), ((ad 8), .inr (2, [.ref (ad 13), .ref (ad 18)])), ((ad 9), .inr (2, [.ref (ad 14), .ref (ad 19)])), ((ad 10), .inr (2, [.ref (ad 15), .ref (ad 20)])), ((ad 11), .inr (0, [.long (eL ((cu 0 : Nat) : Int)), .long (eL ((cl 0 : Nat) : Int))])), ((ad 12), .inr (0, [.long (eL ((cu 1 : Nat) : Int)), .long (eL ((cl 1 : Nat) : Int))])), ((ad 13), .inr (0, [.long (eL ((cu 2 : Nat) : Int)), .long (eL ((cl 2 : Nat) : Int))])), ((ad 14), .inr (0, [.long (eL ((cu 3 : Nat) : Int)), .long (eL ((cl 3 : Nat) : Int))])), ((ad 15), .inr (0, [.long (eL ((cu 4 : Nat) : Int)), .long (eL ((cl 4 : Nat) : Int))])), ((ad 16), .inr (0, [.long (eL ((fu 0 : Nat) : Int)), .long (eL ((fl 0 : Nat) : Int))])), ((ad 17), .inr (0, [.long (eL ((fu 1 : Nat) : Int)), .long (eL ((fl 1 : Nat) : Int))])), ((ad 18), .inr (0, [.long (eL ((fu 2 : Nat) : Int)), .long (eL ((fl 2 : Nat) : Int))])), ((ad 19), .inr (0, [.long (eL ((fu 3 : Nat) : Int)), .long (eL ((fl 3 : Nat) : Int))])), ((ad 20), .inr (0, [.long (eL ((fu 4 : Nat) : Int)), .long (eL ((fl 4 : Nat) : Int))])), ((ad 21), .inr (3, [.int (eI (ys 0)), .int (eI (yl 0)), .int (eI (yp 0))])), ((ad 22), .inr (3, [.int (eI (ys 1)), .int (eI (yl 1)), .int (eI (yp 1))])), ((ad 23), .inr (3, [.int (eI (ys 2)), .int (eI (yl 2)), .int (eI (yp 2))]))] s.heap := hP
  have hl := lv_entry ([.ref (ad 0), .int (eI y), .int (eI 1)]) (n := 3) (Nat.le_of_ble_eq_true rfl)
  rw [lg_entry_eq]
  generalize (lg_sl ([.ref (ad 0), .int (eI y), .int (eI 1)]) ++ List.replicate (3 - (lg_sl ([.ref (ad 0), .int (eI y), .int (eI 1)])).length) Slot.unset).toArray = ls at hl ⊢
  have hl : lv_has ls 3 [(0, .ref (ad 0)), (1, .int (eI y)), (2, .int (eI 1))] := hl
  have hn5 := hE.1
  have hcbb := hE.2.2.2.2.1 y.toNat (by omega)
  refine lv_iload_n hx hb d_E_border_0 rfl (lv_at hl 1 rfl) ?_
  refine we_if_lt (tgt := 12) hx hb (by constructor <;> omega) d_E_border_1 rfl (fun hc1 => absurd hc1 (by omega)) (fun hc1 => ?_)
  refine lv_iload_n hx hb d_E_border_4 rfl (lv_at hl 1 rfl) ?_
  refine lv_aload_n hx hb d_E_border_5 rfl (lv_at hl 0 rfl) ?_
  refine eh_cRV (As := []) (rest := [.int (eI y)]) (v := .int (eI (if 2 < n then (n : Int) - 2 else 0))) (q := (R_E, T_E, 11)) hx hb hml hown htb hN (r_E_borders l D cI cL cZ cS cY ad n sh ra plv pco ln cb la cu cl fu fl ys yl yp hE) 0 ⟨tb_453, tb_455, ts_23, tb_1, kin_E_borders⟩ dv_E_borders ⟨by rw [hR1]; decide, by rw [hR2]; decide⟩ hK hP 0 rfl rfl [0, 1, 2, 3, 4, 5, 6, 7, 8, 9, 10, 11, 12, 13, 14, 15, 16, 17, 18, 19, 20, 21, 22, 23] rfl [0, 1, 2, 3, 4] rfl rfl rfl hl.1 (Nat.le_of_ble_eq_true rfl) d_E_border_6 ⟨Nat.zero_le _, Nat.zero_le _⟩ ?_
  refine we_icmp_lt (tgt := 20) hx hb (by constructor <;> omega) (by constructor <;> split <;> omega) d_E_border_9 rfl (fun hc9 => ?_) (fun hc9 => absurd hc9 (by split <;> omega))
  refine lv_aload_n hx hb d_E_border_20 rfl (lv_at hl 0 rfl) ?_
  refine va_get (D := D) (ci := 4) (v := .ref (ad 3)) (C := R_E) (T := T_E) (N := 11) hx hb htb in_E hown hK hP 0 rfl rfl 2 (by decide) (htb _ tb_126) (fun _ h9 => h9) rfl d_E_border_21 ?_
  refine lv_iload_n hx hb d_E_border_24 rfl (lv_at hl 1 rfl) ?_
  refine we_zald hx hb hK hP 3 2 rfl rfl y.toNat (by omega) (by omega) (by decide) d_E_border_25 ?_
  refine lv_iload_n hx hb d_E_border_26 rfl (lv_at hl 2 rfl) ?_
  refine we_icmp_ne (tgt := 38) hx hb (by constructor <;> omega) (by constructor <;> omega) d_E_border_27 rfl (fun hc27 => absurd hc27 (by omega)) (fun hc27 => ?_)
  subst hQ
  exact eh_throw0 (own := "EarthHauls") (names := eh_up) (ic := 63) (ix := 61) hx hb htr hown (by decide +kernel) (by decide +kernel) (eh_own eh_ow_IS htb hN hst) (htb _ tb_403) (htb _ tb_404) (htb _ tb_12) hex hlocks (hl.1.trans hml.symm) (by rw [hR1]; decide) (by rw [hR2]; decide) (by rw [hR3]; decide) (by rw [hR4]; decide) d_E_border_30 d_E_border_33 d_E_border_34 d_E_border_37
set_option maxHeartbeats 1000000 in
set_option maxRecDepth 100000 in
theorem t_E_border_IB_0 (l : Launch) (D : va_G) (cI cL cZ cS cY : ClassId) (ad : Nat → Nat) (n : Nat) (sh ra plv pco : Int) (ln cb la : Nat → Int) (cu cl fu fl : Nat → Nat) (ys yl yp : Nat → Int) (y : Int) (hy : -2147483648 ≤ y ∧ y < 2147483648) (hbad : y < 0 ∨ (n : Int) ≤ y + 2) (hE : eh_ES n sh ra ln cb la cu cl fu fl ys yl yp) (hl0 : l.stackTraces = false) : eh_T l y_E_border k_E_border 6 89 D classes [(cI, .int), (cL, .long), (cZ, .boolean), (cS, .object "EarthHauls$Section"), (cY, .object "EarthHauls$Yard")] [.ref (ad 0), .int (eI y), .int (eI 0)] [((ad 0), .inr (4, [.ref (ad 1), .ref (ad 2), .ref (ad 3), .ref (ad 4), .ref (ad 5), .ref (ad 24), .int (eI ((n : Nat) : Int)), .int (eI sh), .int (eI ra), .int (eI plv), .long (eL pco)])), ((ad 1), .inl (cS, 5, .inr (.inr (.inr (.inr (eh_o5 (ad 6) (ad 7) (ad 8) (ad 9) (ad 10))))))), ((ad 2), aI cI 4 ln), ((ad 3), aI cZ 3 cb), ((ad 4), .inl (cY, 3, .inr (.inr (.inr (.inr (eh_o3 (ad 21) (ad 22) (ad 23))))))), ((ad 5), aI cI 30 la), ((ad 6), .inr (2, [.ref (ad 11), .ref (ad 16)])), ((ad 7), .inr (2, [.ref (ad 12), .ref (ad 17)])), ((ad 8), .inr (2, [.ref (ad 13), .ref (ad 18)])), ((ad 9), .inr (2, [.ref (ad 14), .ref (ad 19)])), ((ad 10), .inr (2, [.ref (ad 15), .ref (ad 20)])), ((ad 11), .inr (0, [.long (eL ((cu 0 : Nat) : Int)), .long (eL ((cl 0 : Nat) : Int))])), ((ad 12), .inr (0, [.long (eL ((cu 1 : Nat) : Int)), .long (eL ((cl 1 : Nat) : Int))])), ((ad 13), .inr (0, [.long (eL ((cu 2 : Nat) : Int)), .long (eL ((cl 2 : Nat) : Int))])), ((ad 14), .inr (0, [.long (eL ((cu 3 : Nat) : Int)), .long (eL ((cl 3 : Nat) : Int))])), ((ad 15), .inr (0, [.long (eL ((cu 4 : Nat) : Int)), .long (eL ((cl 4 : Nat) : Int))])), ((ad 16), .inr (0, [.long (eL ((fu 0 : Nat) : Int)), .long (eL ((fl 0 : Nat) : Int))])), ((ad 17), .inr (0, [.long (eL ((fu 1 : Nat) : Int)), .long (eL ((fl 1 : Nat) : Int))])), ((ad 18), .inr (0, [.long (eL ((fu 2 : Nat) : Int)), .long (eL ((fl 2 : Nat) : Int))])), ((ad 19), .inr (0, [.long (eL ((fu 3 : Nat) : Int)), .long (eL ((fl 3 : Nat) : Int))])), ((ad 20), .inr (0, [.long (eL ((fu 4 : Nat) : Int)), .long (eL ((fl 4 : Nat) : Int))])), ((ad 21), .inr (3, [.int (eI (ys 0)), .int (eI (yl 0)), .int (eI (yp 0))])), ((ad 22), .inr (3, [.int (eI (ys 1)), .int (eI (yl 1)), .int (eI (yp 1))])), ((ad 23), .inr (3, [.int (eI (ys 2)), .int (eI (yl 2)), .int (eI (yp 2))]))] eh_IB := by
  refine eh_T.ofW (cc := c_E_border) (maxL := 3) (ret := none) hl0 (by decide) ?_
  intro p e s m args below meth c s₁ B hml hex htr hv
  obtain ⟨hargs, hP, hK, hN, hst⟩ := hv
  have hx := B.exec
  have hb := B.bytes
  have hrt := B.returns
  have hts := atoms_spec (ws := k_E_border :: ew_t) B.pre
  have htb : ∀ w ∈ ew_t, w.before args s = true := fun w h => hts w (List.mem_cons_of_mem _ h)
  have hown : s.vm.findClass "EarthHauls" = some m.cls := findClass_of_methodNamed B.named
  have hlocks := B.notSynchronized
  have hE9 : entryFrame m args 3 = entryFrame m ([.ref (ad 0), .int (eI y), .int (eI 0)] : List Value).toArray 3 := by rw [hargs]
  rw [hE9]
  clear hE9 hts B hargs
  generalize hRe : (headSpec _ _).room = R
  have hR1 : R.frames = 6 := by rw [← hRe]; rfl
  have hR2 : R.locals = 89 := by rw [← hRe]; rfl
  have hR3 : R.cells = 1 := by rw [← hRe]; rfl
  have hR4 : R.slots = 6 := by rw [← hRe]; rfl
  clear hRe
  generalize hQ : eh_TQ below _ s = Q
  have hP : va_P D classes [((ad 0), .inr (4, [.ref (ad 1), .ref (ad 2), .ref (ad 3), .ref (ad 4), .ref (ad 5), .ref (ad 24), .int (eI ((n : Nat) : Int)), .int (eI sh), .int (eI ra), .int (eI plv), .long (eL pco)])), ((ad 1), .inl (cS, 5, .inr (.inr (.inr (.inr (eh_o5 (ad 6) (ad 7) (ad 8) (ad 9) (ad 10))))))), ((ad 2), aI cI 4 ln), ((ad 3), aI cZ 3 cb), ((ad 4), .inl (cY, 3, .inr (.inr (.inr (.inr (eh_o3 (ad 21) (ad 22) (ad 23))))))), ((ad 5), aI cI 30 la), ((ad 6), .inr (2, [.ref (ad 11), .ref (ad 16)])), ((ad 7), .inr (2, [.ref (ad 12), .ref (ad 17)])), ((ad 8), .inr (2, [.ref (ad 13), .ref (ad 18)])), ((ad 9), .inr (2, [.ref (ad 14), .ref (ad 19)])), ((ad 10), .inr (2, [.ref (ad 15), .ref (ad 20)])), ((ad 11), .inr (0, [.long (eL ((cu 0 : Nat) : Int)), .long (eL ((cl 0 : Nat) : Int))])), ((ad 12), .inr (0, [.long (eL ((cu 1 : Nat) : Int)), .long (eL ((cl 1 : Nat) : Int))])), ((ad 13), .inr (0, [.long (eL ((cu 2 : Nat) : Int)), .long (eL ((cl 2 : Nat) : Int))])), ((ad 14), .inr (0, [.long (eL ((cu 3 : Nat) : Int)), .long (eL ((cl 3 : Nat) : Int))])), ((ad 15), .inr (0, [.long (eL ((cu 4 : Nat) : Int)), .long (eL ((cl 4 : Nat) : Int))])), ((ad 16), .inr (0, [.long (eL ((fu 0 : Nat) : Int)), .long (eL ((fl 0 : Nat) : Int))])), ((ad 17), .inr (0, [.long (eL ((fu 1 : Nat) : Int)), .long (eL ((fl 1 : Nat) : Int))])), ((ad 18), .inr (0, [.long (eL ((fu 2 : Nat) : Int)), .long (eL ((fl 2 : Nat) : Int))])), ((ad 19), .inr (0, [.long (eL ((fu 3 : Nat) : Int)), .long (eL ((fl 3 : Nat) : Int))])), ((ad 20), .inr (0, [.long (eL ((fu 4 : Nat) : Int)), .long (eL ((fl 4 : Nat) : Int))])), ((ad 21), .inr (3, [.int (eI (ys 0)), .int (eI (yl 0)), .int (eI (yp 0))])), ((ad 22), .inr (3, [.int (eI (ys 1)), .int (eI (yl 1)), .int (eI (yp 1))])), ((ad 23), .inr (3, [.int (eI (ys 2)), .int (eI (yl 2)), .int (eI (yp 2))]))] s.heap := hP
  have hl := lv_entry ([.ref (ad 0), .int (eI y), .int (eI 0)]) (n := 3) (Nat.le_of_ble_eq_true rfl)
  rw [lg_entry_eq]
  generalize (lg_sl ([.ref (ad 0), .int (eI y), .int (eI 0)]) ++ List.replicate (3 - (lg_sl ([.ref (ad 0), .int (eI y), .int (eI 0)])).length) Slot.unset).toArray = ls at hl ⊢
  have hl : lv_has ls 3 [(0, .ref (ad 0)), (1, .int (eI y)), (2, .int (eI 0))] := hl
  have hn5 := hE.1
  by_cases hy9 : y < 0
  ·
    refine lv_iload_n hx hb d_E_border_0 rfl (lv_at hl 1 rfl) ?_
    refine we_if_lt (tgt := 12) hx hb (by constructor <;> omega) d_E_border_1 rfl (fun hc1 => ?_) (fun hc1 => absurd hc1 (by omega))
    subst hQ
    exact eh_throw0 (own := "EarthHauls") (names := eh_up) (ic := 84) (ix := 82) hx hb htr hown (by decide +kernel) (by decide +kernel) (eh_own eh_ow_IB htb hN hst) (htb _ tb_457) (htb _ tb_458) (htb _ tb_14) hex hlocks (hl.1.trans hml.symm) (by rw [hR1]; decide) (by rw [hR2]; decide) (by rw [hR3]; decide) (by rw [hR4]; decide) d_E_border_12 d_E_border_15 d_E_border_16 d_E_border_19
  ·
    refine lv_iload_n hx hb d_E_border_0 rfl (lv_at hl 1 rfl) ?_
    refine we_if_lt (tgt := 12) hx hb (by constructor <;> omega) d_E_border_1 rfl (fun hc1 => absurd hc1 (by omega)) (fun hc1 => ?_)
    refine lv_iload_n hx hb d_E_border_4 rfl (lv_at hl 1 rfl) ?_
    refine lv_aload_n hx hb d_E_border_5 rfl (lv_at hl 0 rfl) ?_
    refine eh_cRV (As := []) (rest := [.int (eI y)]) (v := .int (eI (if 2 < n then (n : Int) - 2 else 0))) (q := (R_E, T_E, 11)) hx hb hml hown htb hN (r_E_borders l D cI cL cZ cS cY ad n sh ra plv pco ln cb la cu cl fu fl ys yl yp hE) 0 ⟨tb_453, tb_455, ts_23, tb_1, kin_E_borders⟩ dv_E_borders ⟨by rw [hR1]; decide, by rw [hR2]; decide⟩ hK hP 0 rfl rfl [0, 1, 2, 3, 4, 5, 6, 7, 8, 9, 10, 11, 12, 13, 14, 15, 16, 17, 18, 19, 20, 21, 22, 23] rfl [0, 1, 2, 3, 4] rfl rfl rfl hl.1 (Nat.le_of_ble_eq_true rfl) d_E_border_6 ⟨Nat.zero_le _, Nat.zero_le _⟩ ?_
    refine we_icmp_lt (tgt := 20) hx hb (by constructor <;> omega) (by constructor <;> split <;> omega) d_E_border_9 rfl (fun hc9 => absurd hc9 (by split <;> omega)) (fun hc9 => ?_)
    subst hQ
    exact eh_throw0 (own := "EarthHauls") (names := eh_up) (ic := 84) (ix := 82) hx hb htr hown (by decide +kernel) (by decide +kernel) (eh_own eh_ow_IB htb hN hst) (htb _ tb_457) (htb _ tb_458) (htb _ tb_14) hex hlocks (hl.1.trans hml.symm) (by rw [hR1]; decide) (by rw [hR2]; decide) (by rw [hR3]; decide) (by rw [hR4]; decide) d_E_border_12 d_E_border_15 d_E_border_16 d_E_border_19
set_option maxHeartbeats 1000000 in
set_option maxRecDepth 100000 in
theorem t_E_border_IS_0 (l : Launch) (D : va_G) (cI cL cZ cS cY : ClassId) (ad : Nat → Nat) (n : Nat) (sh ra plv pco : Int) (ln cb la : Nat → Int) (cu cl fu fl : Nat → Nat) (ys yl yp : Nat → Int) (y : Int) (hy : -2147483648 ≤ y ∧ y < 2147483648) (hgood : ¬ (y < 0 ∨ (n : Int) ≤ y + 2)) (hsame : cb y.toNat = 0) (hE : eh_ES n sh ra ln cb la cu cl fu fl ys yl yp) (hl0 : l.stackTraces = false) : eh_T l y_E_border k_E_border 6 89 D classes [(cI, .int), (cL, .long), (cZ, .boolean), (cS, .object "EarthHauls$Section"), (cY, .object "EarthHauls$Yard")] [.ref (ad 0), .int (eI y), .int (eI 0)] [((ad 0), .inr (4, [.ref (ad 1), .ref (ad 2), .ref (ad 3), .ref (ad 4), .ref (ad 5), .ref (ad 24), .int (eI ((n : Nat) : Int)), .int (eI sh), .int (eI ra), .int (eI plv), .long (eL pco)])), ((ad 1), .inl (cS, 5, .inr (.inr (.inr (.inr (eh_o5 (ad 6) (ad 7) (ad 8) (ad 9) (ad 10))))))), ((ad 2), aI cI 4 ln), ((ad 3), aI cZ 3 cb), ((ad 4), .inl (cY, 3, .inr (.inr (.inr (.inr (eh_o3 (ad 21) (ad 22) (ad 23))))))), ((ad 5), aI cI 30 la), ((ad 6), .inr (2, [.ref (ad 11), .ref (ad 16)])), ((ad 7), .inr (2, [.ref (ad 12), .ref (ad 17)])), ((ad 8), .inr (2, [.ref (ad 13), .ref (ad 18)])), ((ad 9), .inr (2, [.ref (ad 14), .ref (ad 19)])), ((ad 10), .inr (2, [.ref (ad 15), .ref (ad 20)])), ((ad 11), .inr (0, [.long (eL ((cu 0 : Nat) : Int)), .long (eL ((cl 0 : Nat) : Int))])), ((ad 12), .inr (0, [.long (eL ((cu 1 : Nat) : Int)), .long (eL ((cl 1 : Nat) : Int))])), ((ad 13), .inr (0, [.long (eL ((cu 2 : Nat) : Int)), .long (eL ((cl 2 : Nat) : Int))])), ((ad 14), .inr (0, [.long (eL ((cu 3 : Nat) : Int)), .long (eL ((cl 3 : Nat) : Int))])), ((ad 15), .inr (0, [.long (eL ((cu 4 : Nat) : Int)), .long (eL ((cl 4 : Nat) : Int))])), ((ad 16), .inr (0, [.long (eL ((fu 0 : Nat) : Int)), .long (eL ((fl 0 : Nat) : Int))])), ((ad 17), .inr (0, [.long (eL ((fu 1 : Nat) : Int)), .long (eL ((fl 1 : Nat) : Int))])), ((ad 18), .inr (0, [.long (eL ((fu 2 : Nat) : Int)), .long (eL ((fl 2 : Nat) : Int))])), ((ad 19), .inr (0, [.long (eL ((fu 3 : Nat) : Int)), .long (eL ((fl 3 : Nat) : Int))])), ((ad 20), .inr (0, [.long (eL ((fu 4 : Nat) : Int)), .long (eL ((fl 4 : Nat) : Int))])), ((ad 21), .inr (3, [.int (eI (ys 0)), .int (eI (yl 0)), .int (eI (yp 0))])), ((ad 22), .inr (3, [.int (eI (ys 1)), .int (eI (yl 1)), .int (eI (yp 1))])), ((ad 23), .inr (3, [.int (eI (ys 2)), .int (eI (yl 2)), .int (eI (yp 2))]))] eh_IS := by
  refine eh_T.ofW (cc := c_E_border) (maxL := 3) (ret := none) hl0 (by decide) ?_
  intro p e s m args below meth c s₁ B hml hex htr hv
  obtain ⟨hargs, hP, hK, hN, hst⟩ := hv
  have hx := B.exec
  have hb := B.bytes
  have hrt := B.returns
  have hts := atoms_spec (ws := k_E_border :: ew_t) B.pre
  have htb : ∀ w ∈ ew_t, w.before args s = true := fun w h => hts w (List.mem_cons_of_mem _ h)
  have hown : s.vm.findClass "EarthHauls" = some m.cls := findClass_of_methodNamed B.named
  have hlocks := B.notSynchronized
  have hE9 : entryFrame m args 3 = entryFrame m ([.ref (ad 0), .int (eI y), .int (eI 0)] : List Value).toArray 3 := by rw [hargs]
  rw [hE9]
  clear hE9 hts B hargs
  generalize hRe : (headSpec _ _).room = R
  have hR1 : R.frames = 6 := by rw [← hRe]; rfl
  have hR2 : R.locals = 89 := by rw [← hRe]; rfl
  have hR3 : R.cells = 1 := by rw [← hRe]; rfl
  have hR4 : R.slots = 6 := by rw [← hRe]; rfl
  clear hRe
  generalize hQ : eh_TQ below _ s = Q
  have hP : va_P D classes [((ad 0), .inr (4, [.ref (ad 1), .ref (ad 2), .ref (ad 3), .ref (ad 4), .ref (ad 5), .ref (ad 24), .int (eI ((n : Nat) : Int)), .int (eI sh), .int (eI ra), .int (eI plv), .long (eL pco)])), ((ad 1), .inl (cS, 5, .inr (.inr (.inr (.inr (eh_o5 (ad 6) (ad 7) (ad 8) (ad 9) (ad 10))))))), ((ad 2), aI cI 4 ln), ((ad 3), aI cZ 3 cb), ((ad 4), .inl (cY, 3, .inr (.inr (.inr (.inr (eh_o3 (ad 21) (ad 22) (ad 23))))))), ((ad 5), aI cI 30 la), ((ad 6), .inr (2, [.ref (ad 11), .ref (ad 16)])), ((ad 7), .inr (2, [.ref (ad 12), .ref (ad 17)])), ((ad 8), .inr (2, [.ref (ad 13), .ref (ad 18)])), ((ad 9), .inr (2, [.ref (ad 14), .ref (ad 19)])), ((ad 10), .inr (2, [.ref (ad 15), .ref (ad 20)])), ((ad 11), .inr (0, [.long (eL ((cu 0 : Nat) : Int)), .long (eL ((cl 0 : Nat) : Int))])), ((ad 12), .inr (0, [.long (eL ((cu 1 : Nat) : Int)), .long (eL ((cl 1 : Nat) : Int))])), ((ad 13), .inr (0, [.long (eL ((cu 2 : Nat) : Int)), .long (eL ((cl 2 : Nat) : Int))])), ((ad 14), .inr (0, [.long (eL ((cu 3 : Nat) : Int)), .long (eL ((cl 3 : Nat) : Int))])), ((ad 15), .inr (0, [.long (eL ((cu 4 : Nat) : Int)), .long (eL ((cl 4 : Nat) : Int))])), ((ad 16), .inr (0, [.long (eL ((fu 0 : Nat) : Int)), .long (eL ((fl 0 : Nat) : Int))])), ((ad 17), .inr (0, [.long (eL ((fu 1 : Nat) : Int)), .long (eL ((fl 1 : Nat) : Int))])), ((ad 18), .inr (0, [.long (eL ((fu 2 : Nat) : Int)), .long (eL ((fl 2 : Nat) : Int))])), ((ad 19), .inr (0, [.long (eL ((fu 3 : Nat) : Int)), .long (eL ((fl 3 : Nat) : Int))])), ((ad 20), .inr (0, [.long (eL ((fu 4 : Nat) : Int)), .long (eL ((fl 4 : Nat) : Int))])), ((ad 21), .inr (3, [.int (eI (ys 0)), .int (eI (yl 0)), .int (eI (yp 0))])), ((ad 22), .inr (3, [.int (eI (ys 1)), .int (eI (yl 1)), .int (eI (yp 1))])), ((ad 23), .inr (3, [.int (eI (ys 2)), .int (eI (yl 2)), .int (eI (yp 2))]))] s.heap := hP
  have hl := lv_entry ([.ref (ad 0), .int (eI y), .int (eI 0)]) (n := 3) (Nat.le_of_ble_eq_true rfl)
  rw [lg_entry_eq]
  generalize (lg_sl ([.ref (ad 0), .int (eI y), .int (eI 0)]) ++ List.replicate (3 - (lg_sl ([.ref (ad 0), .int (eI y), .int (eI 0)])).length) Slot.unset).toArray = ls at hl ⊢
  have hl : lv_has ls 3 [(0, .ref (ad 0)), (1, .int (eI y)), (2, .int (eI 0))] := hl
  have hn5 := hE.1
  have hcbb := hE.2.2.2.2.1 y.toNat (by omega)
  refine lv_iload_n hx hb d_E_border_0 rfl (lv_at hl 1 rfl) ?_
  refine we_if_lt (tgt := 12) hx hb (by constructor <;> omega) d_E_border_1 rfl (fun hc1 => absurd hc1 (by omega)) (fun hc1 => ?_)
  refine lv_iload_n hx hb d_E_border_4 rfl (lv_at hl 1 rfl) ?_
  refine lv_aload_n hx hb d_E_border_5 rfl (lv_at hl 0 rfl) ?_
  refine eh_cRV (As := []) (rest := [.int (eI y)]) (v := .int (eI (if 2 < n then (n : Int) - 2 else 0))) (q := (R_E, T_E, 11)) hx hb hml hown htb hN (r_E_borders l D cI cL cZ cS cY ad n sh ra plv pco ln cb la cu cl fu fl ys yl yp hE) 0 ⟨tb_453, tb_455, ts_23, tb_1, kin_E_borders⟩ dv_E_borders ⟨by rw [hR1]; decide, by rw [hR2]; decide⟩ hK hP 0 rfl rfl [0, 1, 2, 3, 4, 5, 6, 7, 8, 9, 10, 11, 12, 13, 14, 15, 16, 17, 18, 19, 20, 21, 22, 23] rfl [0, 1, 2, 3, 4] rfl rfl rfl hl.1 (Nat.le_of_ble_eq_true rfl) d_E_border_6 ⟨Nat.zero_le _, Nat.zero_le _⟩ ?_
  refine we_icmp_lt (tgt := 20) hx hb (by constructor <;> omega) (by constructor <;> split <;> omega) d_E_border_9 rfl (fun hc9 => ?_) (fun hc9 => absurd hc9 (by split <;> omega))
  refine lv_aload_n hx hb d_E_border_20 rfl (lv_at hl 0 rfl) ?_
  refine va_get (D := D) (ci := 4) (v := .ref (ad 3)) (C := R_E) (T := T_E) (N := 11) hx hb htb in_E hown hK hP 0 rfl rfl 2 (by decide) (htb _ tb_126) (fun _ h9 => h9) rfl d_E_border_21 ?_
  refine lv_iload_n hx hb d_E_border_24 rfl (lv_at hl 1 rfl) ?_
  refine we_zald hx hb hK hP 3 2 rfl rfl y.toNat (by omega) (by omega) (by decide) d_E_border_25 ?_
  refine lv_iload_n hx hb d_E_border_26 rfl (lv_at hl 2 rfl) ?_
  refine we_icmp_ne (tgt := 38) hx hb (by constructor <;> omega) (by constructor <;> omega) d_E_border_27 rfl (fun hc27 => absurd hc27 (by omega)) (fun hc27 => ?_)
  subst hQ
  exact eh_throw0 (own := "EarthHauls") (names := eh_up) (ic := 63) (ix := 61) hx hb htr hown (by decide +kernel) (by decide +kernel) (eh_own eh_ow_IS htb hN hst) (htb _ tb_403) (htb _ tb_404) (htb _ tb_12) hex hlocks (hl.1.trans hml.symm) (by rw [hR1]; decide) (by rw [hR2]; decide) (by rw [hR3]; decide) (by rw [hR4]; decide) d_E_border_30 d_E_border_33 d_E_border_34 d_E_border_37
abbrev c_E_beside : ByteArray := prog_1_method_6_code
def y_E_beside : MethodName := ⟨"EarthHauls", "beside", "(IIII)V"⟩
abbrev k_E_beside : Cond := .code y_E_beside c_E_beside 5 none
theorem kin_E_beside : k_E_beside ∈ ew_t := tb_478
theorem dv_E_beside : eh_dV y_E_beside "EarthHauls" 4 := ⟨rfl, by decide, by decide, by decide +kernel⟩
theorem d_E_beside_0 : decode c_E_beside 0 = .ok (.iload_n 1, 1) := by decide +kernel
theorem d_E_beside_1 : decode c_E_beside 1 = .ok (.ifCond .lt 16, 3) := by decide +kernel
theorem d_E_beside_4 : decode c_E_beside 4 = .ok (.iload_n 1, 1) := by decide +kernel
theorem d_E_beside_5 : decode c_E_beside 5 = .ok (.iconst 3, 1) := by decide +kernel
theorem d_E_beside_6 : decode c_E_beside 6 = .ok (.if_icmp .ge 11, 3) := by decide +kernel
theorem d_E_beside_9 : decode c_E_beside 9 = .ok (.aload_n 0, 1) := by decide +kernel
theorem d_E_beside_10 : decode c_E_beside 10 = .ok (.iload_n 2, 1) := by decide +kernel
theorem d_E_beside_11 : decode c_E_beside 11 = .ok (.invokevirtual 85, 3) := by decide +kernel
theorem d_E_beside_14 : decode c_E_beside 14 = .ok (.ifCond .ne 11, 3) := by decide +kernel
theorem d_E_beside_17 : decode c_E_beside 17 = .ok (.new 82, 3) := by decide +kernel
theorem d_E_beside_20 : decode c_E_beside 20 = .ok (.dup, 1) := by decide +kernel
theorem d_E_beside_21 : decode c_E_beside 21 = .ok (.invokespecial 84, 3) := by decide +kernel
theorem d_E_beside_24 : decode c_E_beside 24 = .ok (.athrow, 1) := by decide +kernel
theorem d_E_beside_25 : decode c_E_beside 25 = .ok (.iload_n 3, 1) := by decide +kernel
theorem d_E_beside_26 : decode c_E_beside 26 = .ok (.invokestatic 88, 3) := by decide +kernel
theorem d_E_beside_29 : decode c_E_beside 29 = .ok (.ifCond .eq 16, 3) := by decide +kernel
theorem d_E_beside_32 : decode c_E_beside 32 = .ok (.iload 4, 2) := by decide +kernel
theorem d_E_beside_34 : decode c_E_beside 34 = .ok (.ifCond .lt 11, 3) := by decide +kernel
theorem d_E_beside_37 : decode c_E_beside 37 = .ok (.iload 4, 2) := by decide +kernel
theorem d_E_beside_39 : decode c_E_beside 39 = .ok (.sipush 1000, 3) := by decide +kernel
theorem d_E_beside_42 : decode c_E_beside 42 = .ok (.if_icmp .le 11, 3) := by decide +kernel
theorem d_E_beside_45 : decode c_E_beside 45 = .ok (.new 54, 3) := by decide +kernel
theorem d_E_beside_48 : decode c_E_beside 48 = .ok (.dup, 1) := by decide +kernel
theorem d_E_beside_49 : decode c_E_beside 49 = .ok (.invokespecial 56, 3) := by decide +kernel
theorem d_E_beside_52 : decode c_E_beside 52 = .ok (.athrow, 1) := by decide +kernel
theorem d_E_beside_53 : decode c_E_beside 53 = .ok (.aload_n 0, 1) := by decide +kernel
theorem d_E_beside_54 : decode c_E_beside 54 = .ok (.getfield 25, 3) := by decide +kernel
theorem d_E_beside_57 : decode c_E_beside 57 = .ok (.iload_n 1, 1) := by decide +kernel
theorem d_E_beside_58 : decode c_E_beside 58 = .ok (.aaload, 1) := by decide +kernel
theorem d_E_beside_59 : decode c_E_beside 59 = .ok (.iload_n 2, 1) := by decide +kernel
theorem d_E_beside_60 : decode c_E_beside 60 = .ok (.iload_n 3, 1) := by decide +kernel
theorem d_E_beside_61 : decode c_E_beside 61 = .ok (.iload 4, 2) := by decide +kernel
theorem d_E_beside_63 : decode c_E_beside 63 = .ok (.invokevirtual 91, 3) := by decide +kernel
theorem d_E_beside_66 : decode c_E_beside 66 = .ok (.aload_n 0, 1) := by decide +kernel
theorem d_E_beside_67 : decode c_E_beside 67 = .ok (.iconst 0, 1) := by decide +kernel
theorem d_E_beside_68 : decode c_E_beside 68 = .ok (.putfield 68, 3) := by decide +kernel
theorem d_E_beside_71 : decode c_E_beside 71 = .ok (.return_, 1) := by decide +kernel
set_option maxHeartbeats 1000000 in
set_option maxRecDepth 100000 in
theorem t_E_beside_IB (l : Launch) (D : va_G) (cI cL cZ cS cY : ClassId) (ad : Nat → Nat) (n : Nat) (sh ra plv pco : Int) (ln cb la : Nat → Int) (cu cl fu fl : Nat → Nat) (ys yl yp : Nat → Int) (y z x1 x2 : Int) (hy : -2147483648 ≤ y ∧ y < 2147483648) (hz : -2147483648 ≤ z ∧ z < 2147483648) (hx1 : -2147483648 ≤ x1 ∧ x1 < 2147483648) (hx2 : -2147483648 ≤ x2 ∧ x2 < 2147483648) (hbad : ¬ ((0 ≤ y ∧ y < 3) ∧ (0 ≤ z ∧ z + 1 < n))) (hE : eh_ES n sh ra ln cb la cu cl fu fl ys yl yp) (hl0 : l.stackTraces = false) : eh_T l y_E_beside k_E_beside 6 89 D classes [(cI, .int), (cL, .long), (cZ, .boolean), (cS, .object "EarthHauls$Section"), (cY, .object "EarthHauls$Yard")] [.ref (ad 0), .int (eI y), .int (eI z), .int (eI x1), .int (eI x2)] [((ad 0), .inr (4, [.ref (ad 1), .ref (ad 2), .ref (ad 3), .ref (ad 4), .ref (ad 5), .ref (ad 24), .int (eI ((n : Nat) : Int)), .int (eI sh), .int (eI ra), .int (eI plv), .long (eL pco)])), ((ad 1), .inl (cS, 5, .inr (.inr (.inr (.inr (eh_o5 (ad 6) (ad 7) (ad 8) (ad 9) (ad 10))))))), ((ad 2), aI cI 4 ln), ((ad 3), aI cZ 3 cb), ((ad 4), .inl (cY, 3, .inr (.inr (.inr (.inr (eh_o3 (ad 21) (ad 22) (ad 23))))))), ((ad 5), aI cI 30 la), ((ad 6), .inr (2, [.ref (ad 11), .ref (ad 16)])), ((ad 7), .inr (2, [.ref (ad 12), .ref (ad 17)])), ((ad 8), .inr (2, [.ref (ad 13), .ref (ad 18)])), ((ad 9), .inr (2, [.ref (ad 14), .ref (ad 19)])), ((ad 10), .inr (2, [.ref (ad 15), .ref (ad 20)])), ((ad 11), .inr (0, [.long (eL ((cu 0 : Nat) : Int)), .long (eL ((cl 0 : Nat) : Int))])), ((ad 12), .inr (0, [.long (eL ((cu 1 : Nat) : Int)), .long (eL ((cl 1 : Nat) : Int))])), ((ad 13), .inr (0, [.long (eL ((cu 2 : Nat) : Int)), .long (eL ((cl 2 : Nat) : Int))])), ((ad 14), .inr (0, [.long (eL ((cu 3 : Nat) : Int)), .long (eL ((cl 3 : Nat) : Int))])), ((ad 15), .inr (0, [.long (eL ((cu 4 : Nat) : Int)), .long (eL ((cl 4 : Nat) : Int))])), ((ad 16), .inr (0, [.long (eL ((fu 0 : Nat) : Int)), .long (eL ((fl 0 : Nat) : Int))])), ((ad 17), .inr (0, [.long (eL ((fu 1 : Nat) : Int)), .long (eL ((fl 1 : Nat) : Int))])), ((ad 18), .inr (0, [.long (eL ((fu 2 : Nat) : Int)), .long (eL ((fl 2 : Nat) : Int))])), ((ad 19), .inr (0, [.long (eL ((fu 3 : Nat) : Int)), .long (eL ((fl 3 : Nat) : Int))])), ((ad 20), .inr (0, [.long (eL ((fu 4 : Nat) : Int)), .long (eL ((fl 4 : Nat) : Int))])), ((ad 21), .inr (3, [.int (eI (ys 0)), .int (eI (yl 0)), .int (eI (yp 0))])), ((ad 22), .inr (3, [.int (eI (ys 1)), .int (eI (yl 1)), .int (eI (yp 1))])), ((ad 23), .inr (3, [.int (eI (ys 2)), .int (eI (yl 2)), .int (eI (yp 2))]))] eh_IB := by
  refine eh_T.ofW (cc := c_E_beside) (maxL := 5) (ret := none) hl0 (by decide) ?_
  intro p e s m args below meth c s₁ B hml hex htr hv
  obtain ⟨hargs, hP, hK, hN, hst⟩ := hv
  have hx := B.exec
  have hb := B.bytes
  have hrt := B.returns
  have hts := atoms_spec (ws := k_E_beside :: ew_t) B.pre
  have htb : ∀ w ∈ ew_t, w.before args s = true := fun w h => hts w (List.mem_cons_of_mem _ h)
  have hown : s.vm.findClass "EarthHauls" = some m.cls := findClass_of_methodNamed B.named
  have hlocks := B.notSynchronized
  have hE9 : entryFrame m args 5 = entryFrame m ([.ref (ad 0), .int (eI y), .int (eI z), .int (eI x1), .int (eI x2)] : List Value).toArray 5 := by rw [hargs]
  rw [hE9]
  clear hE9 hts B hargs
  generalize hRe : (headSpec _ _).room = R
  have hR1 : R.frames = 6 := by rw [← hRe]; rfl
  have hR2 : R.locals = 89 := by rw [← hRe]; rfl
  have hR3 : R.cells = 1 := by rw [← hRe]; rfl
  have hR4 : R.slots = 6 := by rw [← hRe]; rfl
  clear hRe
  generalize hQ : eh_TQ below _ s = Q
  have hP : va_P D classes [((ad 0), .inr (4, [.ref (ad 1), .ref (ad 2), .ref (ad 3), .ref (ad 4), .ref (ad 5), .ref (ad 24), .int (eI ((n : Nat) : Int)), .int (eI sh), .int (eI ra), .int (eI plv), .long (eL pco)])), ((ad 1), .inl (cS, 5, .inr (.inr (.inr (.inr (eh_o5 (ad 6) (ad 7) (ad 8) (ad 9) (ad 10))))))), ((ad 2), aI cI 4 ln), ((ad 3), aI cZ 3 cb), ((ad 4), .inl (cY, 3, .inr (.inr (.inr (.inr (eh_o3 (ad 21) (ad 22) (ad 23))))))), ((ad 5), aI cI 30 la), ((ad 6), .inr (2, [.ref (ad 11), .ref (ad 16)])), ((ad 7), .inr (2, [.ref (ad 12), .ref (ad 17)])), ((ad 8), .inr (2, [.ref (ad 13), .ref (ad 18)])), ((ad 9), .inr (2, [.ref (ad 14), .ref (ad 19)])), ((ad 10), .inr (2, [.ref (ad 15), .ref (ad 20)])), ((ad 11), .inr (0, [.long (eL ((cu 0 : Nat) : Int)), .long (eL ((cl 0 : Nat) : Int))])), ((ad 12), .inr (0, [.long (eL ((cu 1 : Nat) : Int)), .long (eL ((cl 1 : Nat) : Int))])), ((ad 13), .inr (0, [.long (eL ((cu 2 : Nat) : Int)), .long (eL ((cl 2 : Nat) : Int))])), ((ad 14), .inr (0, [.long (eL ((cu 3 : Nat) : Int)), .long (eL ((cl 3 : Nat) : Int))])), ((ad 15), .inr (0, [.long (eL ((cu 4 : Nat) : Int)), .long (eL ((cl 4 : Nat) : Int))])), ((ad 16), .inr (0, [.long (eL ((fu 0 : Nat) : Int)), .long (eL ((fl 0 : Nat) : Int))])), ((ad 17), .inr (0, [.long (eL ((fu 1 : Nat) : Int)), .long (eL ((fl 1 : Nat) : Int))])), ((ad 18), .inr (0, [.long (eL ((fu 2 : Nat) : Int)), .long (eL ((fl 2 : Nat) : Int))])), ((ad 19), .inr (0, [.long (eL ((fu 3 : Nat) : Int)), .long (eL ((fl 3 : Nat) : Int))])), ((ad 20), .inr (0, [.long (eL ((fu 4 : Nat) : Int)), .long (eL ((fl 4 : Nat) : Int))])), ((ad 21), .inr (3, [.int (eI (ys 0)), .int (eI (yl 0)), .int (eI (yp 0))])), ((ad 22), .inr (3, [.int (eI (ys 1)), .int (eI (yl 1)), .int (eI (yp 1))])), ((ad 23), .inr (3, [.int (eI (ys 2)), .int (eI (yl 2)), .int (eI (yp 2))]))] s.heap := hP
  have hl := lv_entry ([.ref (ad 0), .int (eI y), .int (eI z), .int (eI x1), .int (eI x2)]) (n := 5) (Nat.le_of_ble_eq_true rfl)
  rw [lg_entry_eq]
  generalize (lg_sl ([.ref (ad 0), .int (eI y), .int (eI z), .int (eI x1), .int (eI x2)]) ++ List.replicate (5 - (lg_sl ([.ref (ad 0), .int (eI y), .int (eI z), .int (eI x1), .int (eI x2)])).length) Slot.unset).toArray = ls at hl ⊢
  have hl : lv_has ls 5 [(0, .ref (ad 0)), (1, .int (eI y)), (2, .int (eI z)), (3, .int (eI x1)), (4, .int (eI x2))] := hl
  have hn5 := hE.1
  rcases (show y < 0 ∨ (0 ≤ y ∧ 3 ≤ y) ∨ ((0 ≤ y ∧ y < 3) ∧ ¬ (0 ≤ z ∧ z + 1 < n)) by omega) with hcas | hcas | hcas
  ·
    refine lv_iload_n hx hb d_E_beside_0 rfl (lv_at hl 1 rfl) ?_
    refine we_if_lt (tgt := 17) hx hb (by constructor <;> omega) d_E_beside_1 rfl (fun hc1 => ?_) (fun hc1 => absurd hc1 (by omega))
    subst hQ
    exact eh_throw0 (own := "EarthHauls") (names := eh_up) (ic := 84) (ix := 82) hx hb htr hown (by decide +kernel) (by decide +kernel) (eh_own eh_ow_IB htb hN hst) (htb _ tb_457) (htb _ tb_458) (htb _ tb_14) hex hlocks (hl.1.trans hml.symm) (by rw [hR1]; decide) (by rw [hR2]; decide) (by rw [hR3]; decide) (by rw [hR4]; decide) d_E_beside_17 d_E_beside_20 d_E_beside_21 d_E_beside_24
  ·
    refine lv_iload_n hx hb d_E_beside_0 rfl (lv_at hl 1 rfl) ?_
    refine we_if_lt (tgt := 17) hx hb (by constructor <;> omega) d_E_beside_1 rfl (fun hc1 => absurd hc1 (by omega)) (fun hc1 => ?_)
    refine lv_iload_n hx hb d_E_beside_4 rfl (lv_at hl 1 rfl) ?_
    refine lv_iconst (v := eI 3) hx hb d_E_beside_5 rfl ?_
    refine we_icmp_ge (tgt := 17) hx hb (by constructor <;> omega) (by constructor <;> omega) d_E_beside_6 rfl (fun hc6 => ?_) (fun hc6 => absurd hc6 (by omega))
    subst hQ
    exact eh_throw0 (own := "EarthHauls") (names := eh_up) (ic := 84) (ix := 82) hx hb htr hown (by decide +kernel) (by decide +kernel) (eh_own eh_ow_IB htb hN hst) (htb _ tb_457) (htb _ tb_458) (htb _ tb_14) hex hlocks (hl.1.trans hml.symm) (by rw [hR1]; decide) (by rw [hR2]; decide) (by rw [hR3]; decide) (by rw [hR4]; decide) d_E_beside_17 d_E_beside_20 d_E_beside_21 d_E_beside_24
  ·
    refine lv_iload_n hx hb d_E_beside_0 rfl (lv_at hl 1 rfl) ?_
    refine we_if_lt (tgt := 17) hx hb (by constructor <;> omega) d_E_beside_1 rfl (fun hc1 => absurd hc1 (by omega)) (fun hc1 => ?_)
    refine lv_iload_n hx hb d_E_beside_4 rfl (lv_at hl 1 rfl) ?_
    refine lv_iconst (v := eI 3) hx hb d_E_beside_5 rfl ?_
    refine we_icmp_ge (tgt := 17) hx hb (by constructor <;> omega) (by constructor <;> omega) d_E_beside_6 rfl (fun hc6 => absurd hc6 (by omega)) (fun hc6 => ?_)
    refine lv_aload_n hx hb d_E_beside_9 rfl (lv_at hl 0 rfl) ?_
    refine lv_iload_n hx hb d_E_beside_10 rfl (lv_at hl 2 rfl) ?_
    refine eh_cRV (As := [.int (eI z)]) (rest := []) (v := .int (eI (if 0 ≤ z ∧ z + 1 < n then 1 else 0))) (q := (R_E, T_E, 11)) hx hb hml hown htb hN (r_E_isSpan l D cI cL cZ cS cY ad n sh ra plv pco ln cb la cu cl fu fl ys yl yp z hz hE) 1 ⟨tb_215, tb_217, ts_9, tb_1, kin_E_isSpan⟩ dv_E_isSpan ⟨by rw [hR1]; decide, by rw [hR2]; decide⟩ hK hP 0 rfl rfl [0, 1, 2, 3, 4, 5, 6, 7, 8, 9, 10, 11, 12, 13, 14, 15, 16, 17, 18, 19, 20, 21, 22, 23] rfl [0, 1, 2, 3, 4] rfl rfl rfl hl.1 (Nat.le_of_ble_eq_true rfl) d_E_beside_11 ⟨Nat.zero_le _, Nat.zero_le _⟩ ?_
    refine we_if_ne (tgt := 25) hx hb (by constructor <;> split <;> omega) d_E_beside_14 rfl (fun hc14 => absurd hc14 (by rw [if_neg hcas.2]; omega)) (fun hc14 => ?_)
    subst hQ
    exact eh_throw0 (own := "EarthHauls") (names := eh_up) (ic := 84) (ix := 82) hx hb htr hown (by decide +kernel) (by decide +kernel) (eh_own eh_ow_IB htb hN hst) (htb _ tb_457) (htb _ tb_458) (htb _ tb_14) hex hlocks (hl.1.trans hml.symm) (by rw [hR1]; decide) (by rw [hR2]; decide) (by rw [hR3]; decide) (by rw [hR4]; decide) d_E_beside_17 d_E_beside_20 d_E_beside_21 d_E_beside_24
set_option maxHeartbeats 1000000 in
set_option maxRecDepth 100000 in
theorem t_E_beside_IA (l : Launch) (D : va_G) (cI cL cZ cS cY : ClassId) (ad : Nat → Nat) (n : Nat) (sh ra plv pco : Int) (ln cb la : Nat → Int) (cu cl fu fl : Nat → Nat) (ys yl yp : Nat → Int) (y z x1 x2 : Int) (hy : -2147483648 ≤ y ∧ y < 2147483648) (hz : -2147483648 ≤ z ∧ z < 2147483648) (hx1 : -2147483648 ≤ x1 ∧ x1 < 2147483648) (hx2 : -2147483648 ≤ x2 ∧ x2 < 2147483648) (hgood : (0 ≤ y ∧ y < 3) ∧ (0 ≤ z ∧ z + 1 < n)) (hbad : ¬ ((0 ≤ x1 ∧ x1 ≤ 100000000) ∧ 0 ≤ x2 ∧ x2 ≤ 1000)) (hE : eh_ES n sh ra ln cb la cu cl fu fl ys yl yp) (hl0 : l.stackTraces = false) : eh_T l y_E_beside k_E_beside 6 89 D classes [(cI, .int), (cL, .long), (cZ, .boolean), (cS, .object "EarthHauls$Section"), (cY, .object "EarthHauls$Yard")] [.ref (ad 0), .int (eI y), .int (eI z), .int (eI x1), .int (eI x2)] [((ad 0), .inr (4, [.ref (ad 1), .ref (ad 2), .ref (ad 3), .ref (ad 4), .ref (ad 5), .ref (ad 24), .int (eI ((n : Nat) : Int)), .int (eI sh), .int (eI ra), .int (eI plv), .long (eL pco)])), ((ad 1), .inl (cS, 5, .inr (.inr (.inr (.inr (eh_o5 (ad 6) (ad 7) (ad 8) (ad 9) (ad 10))))))), ((ad 2), aI cI 4 ln), ((ad 3), aI cZ 3 cb), ((ad 4), .inl (cY, 3, .inr (.inr (.inr (.inr (eh_o3 (ad 21) (ad 22) (ad 23))))))), ((ad 5), aI cI 30 la), ((ad 6), .inr (2, [.ref (ad 11), .ref (ad 16)])), ((ad 7), .inr (2, [.ref (ad 12), .ref (ad 17)])), ((ad 8), .inr (2, [.ref (ad 13), .ref (ad 18)])), ((ad 9), .inr (2, [.ref (ad 14), .ref (ad 19)])), ((ad 10), .inr (2, [.ref (ad 15), .ref (ad 20)])), ((ad 11), .inr (0, [.long (eL ((cu 0 : Nat) : Int)), .long (eL ((cl 0 : Nat) : Int))])), ((ad 12), .inr (0, [.long (eL ((cu 1 : Nat) : Int)), .long (eL ((cl 1 : Nat) : Int))])), ((ad 13), .inr (0, [.long (eL ((cu 2 : Nat) : Int)), .long (eL ((cl 2 : Nat) : Int))])), ((ad 14), .inr (0, [.long (eL ((cu 3 : Nat) : Int)), .long (eL ((cl 3 : Nat) : Int))])), ((ad 15), .inr (0, [.long (eL ((cu 4 : Nat) : Int)), .long (eL ((cl 4 : Nat) : Int))])), ((ad 16), .inr (0, [.long (eL ((fu 0 : Nat) : Int)), .long (eL ((fl 0 : Nat) : Int))])), ((ad 17), .inr (0, [.long (eL ((fu 1 : Nat) : Int)), .long (eL ((fl 1 : Nat) : Int))])), ((ad 18), .inr (0, [.long (eL ((fu 2 : Nat) : Int)), .long (eL ((fl 2 : Nat) : Int))])), ((ad 19), .inr (0, [.long (eL ((fu 3 : Nat) : Int)), .long (eL ((fl 3 : Nat) : Int))])), ((ad 20), .inr (0, [.long (eL ((fu 4 : Nat) : Int)), .long (eL ((fl 4 : Nat) : Int))])), ((ad 21), .inr (3, [.int (eI (ys 0)), .int (eI (yl 0)), .int (eI (yp 0))])), ((ad 22), .inr (3, [.int (eI (ys 1)), .int (eI (yl 1)), .int (eI (yp 1))])), ((ad 23), .inr (3, [.int (eI (ys 2)), .int (eI (yl 2)), .int (eI (yp 2))]))] eh_IA := by
  refine eh_T.ofW (cc := c_E_beside) (maxL := 5) (ret := none) hl0 (by decide) ?_
  intro p e s m args below meth c s₁ B hml hex htr hv
  obtain ⟨hargs, hP, hK, hN, hst⟩ := hv
  have hx := B.exec
  have hb := B.bytes
  have hrt := B.returns
  have hts := atoms_spec (ws := k_E_beside :: ew_t) B.pre
  have htb : ∀ w ∈ ew_t, w.before args s = true := fun w h => hts w (List.mem_cons_of_mem _ h)
  have hown : s.vm.findClass "EarthHauls" = some m.cls := findClass_of_methodNamed B.named
  have hlocks := B.notSynchronized
  have hE9 : entryFrame m args 5 = entryFrame m ([.ref (ad 0), .int (eI y), .int (eI z), .int (eI x1), .int (eI x2)] : List Value).toArray 5 := by rw [hargs]
  rw [hE9]
  clear hE9 hts B hargs
  generalize hRe : (headSpec _ _).room = R
  have hR1 : R.frames = 6 := by rw [← hRe]; rfl
  have hR2 : R.locals = 89 := by rw [← hRe]; rfl
  have hR3 : R.cells = 1 := by rw [← hRe]; rfl
  have hR4 : R.slots = 6 := by rw [← hRe]; rfl
  clear hRe
  generalize hQ : eh_TQ below _ s = Q
  have hP : va_P D classes [((ad 0), .inr (4, [.ref (ad 1), .ref (ad 2), .ref (ad 3), .ref (ad 4), .ref (ad 5), .ref (ad 24), .int (eI ((n : Nat) : Int)), .int (eI sh), .int (eI ra), .int (eI plv), .long (eL pco)])), ((ad 1), .inl (cS, 5, .inr (.inr (.inr (.inr (eh_o5 (ad 6) (ad 7) (ad 8) (ad 9) (ad 10))))))), ((ad 2), aI cI 4 ln), ((ad 3), aI cZ 3 cb), ((ad 4), .inl (cY, 3, .inr (.inr (.inr (.inr (eh_o3 (ad 21) (ad 22) (ad 23))))))), ((ad 5), aI cI 30 la), ((ad 6), .inr (2, [.ref (ad 11), .ref (ad 16)])), ((ad 7), .inr (2, [.ref (ad 12), .ref (ad 17)])), ((ad 8), .inr (2, [.ref (ad 13), .ref (ad 18)])), ((ad 9), .inr (2, [.ref (ad 14), .ref (ad 19)])), ((ad 10), .inr (2, [.ref (ad 15), .ref (ad 20)])), ((ad 11), .inr (0, [.long (eL ((cu 0 : Nat) : Int)), .long (eL ((cl 0 : Nat) : Int))])), ((ad 12), .inr (0, [.long (eL ((cu 1 : Nat) : Int)), .long (eL ((cl 1 : Nat) : Int))])), ((ad 13), .inr (0, [.long (eL ((cu 2 : Nat) : Int)), .long (eL ((cl 2 : Nat) : Int))])), ((ad 14), .inr (0, [.long (eL ((cu 3 : Nat) : Int)), .long (eL ((cl 3 : Nat) : Int))])), ((ad 15), .inr (0, [.long (eL ((cu 4 : Nat) : Int)), .long (eL ((cl 4 : Nat) : Int))])), ((ad 16), .inr (0, [.long (eL ((fu 0 : Nat) : Int)), .long (eL ((fl 0 : Nat) : Int))])), ((ad 17), .inr (0, [.long (eL ((fu 1 : Nat) : Int)), .long (eL ((fl 1 : Nat) : Int))])), ((ad 18), .inr (0, [.long (eL ((fu 2 : Nat) : Int)), .long (eL ((fl 2 : Nat) : Int))])), ((ad 19), .inr (0, [.long (eL ((fu 3 : Nat) : Int)), .long (eL ((fl 3 : Nat) : Int))])), ((ad 20), .inr (0, [.long (eL ((fu 4 : Nat) : Int)), .long (eL ((fl 4 : Nat) : Int))])), ((ad 21), .inr (3, [.int (eI (ys 0)), .int (eI (yl 0)), .int (eI (yp 0))])), ((ad 22), .inr (3, [.int (eI (ys 1)), .int (eI (yl 1)), .int (eI (yp 1))])), ((ad 23), .inr (3, [.int (eI (ys 2)), .int (eI (yl 2)), .int (eI (yp 2))]))] s.heap := hP
  have hl := lv_entry ([.ref (ad 0), .int (eI y), .int (eI z), .int (eI x1), .int (eI x2)]) (n := 5) (Nat.le_of_ble_eq_true rfl)
  rw [lg_entry_eq]
  generalize (lg_sl ([.ref (ad 0), .int (eI y), .int (eI z), .int (eI x1), .int (eI x2)]) ++ List.replicate (5 - (lg_sl ([.ref (ad 0), .int (eI y), .int (eI z), .int (eI x1), .int (eI x2)])).length) Slot.unset).toArray = ls at hl ⊢
  have hl : lv_has ls 5 [(0, .ref (ad 0)), (1, .int (eI y)), (2, .int (eI z)), (3, .int (eI x1)), (4, .int (eI x2))] := hl
  have hn5 := hE.1
  rcases (show ¬ (0 ≤ x1 ∧ x1 ≤ 100000000) ∨ ((0 ≤ x1 ∧ x1 ≤ 100000000) ∧ x2 < 0) ∨ ((0 ≤ x1 ∧ x1 ≤ 100000000) ∧ 0 ≤ x2 ∧ 1000 < x2) by omega) with hcas | hcas | hcas
  ·
    refine lv_iload_n hx hb d_E_beside_0 rfl (lv_at hl 1 rfl) ?_
    refine we_if_lt (tgt := 17) hx hb (by constructor <;> omega) d_E_beside_1 rfl (fun hc1 => absurd hc1 (by omega)) (fun hc1 => ?_)
    refine lv_iload_n hx hb d_E_beside_4 rfl (lv_at hl 1 rfl) ?_
    refine lv_iconst (v := eI 3) hx hb d_E_beside_5 rfl ?_
    refine we_icmp_ge (tgt := 17) hx hb (by constructor <;> omega) (by constructor <;> omega) d_E_beside_6 rfl (fun hc6 => absurd hc6 (by omega)) (fun hc6 => ?_)
    refine lv_aload_n hx hb d_E_beside_9 rfl (lv_at hl 0 rfl) ?_
    refine lv_iload_n hx hb d_E_beside_10 rfl (lv_at hl 2 rfl) ?_
    refine eh_cRV (As := [.int (eI z)]) (rest := []) (v := .int (eI (if 0 ≤ z ∧ z + 1 < n then 1 else 0))) (q := (R_E, T_E, 11)) hx hb hml hown htb hN (r_E_isSpan l D cI cL cZ cS cY ad n sh ra plv pco ln cb la cu cl fu fl ys yl yp z hz hE) 1 ⟨tb_215, tb_217, ts_9, tb_1, kin_E_isSpan⟩ dv_E_isSpan ⟨by rw [hR1]; decide, by rw [hR2]; decide⟩ hK hP 0 rfl rfl [0, 1, 2, 3, 4, 5, 6, 7, 8, 9, 10, 11, 12, 13, 14, 15, 16, 17, 18, 19, 20, 21, 22, 23] rfl [0, 1, 2, 3, 4] rfl rfl rfl hl.1 (Nat.le_of_ble_eq_true rfl) d_E_beside_11 ⟨Nat.zero_le _, Nat.zero_le _⟩ ?_
    refine we_if_ne (tgt := 25) hx hb (by constructor <;> split <;> omega) d_E_beside_14 rfl (fun hc14 => ?_) (fun hc14 => absurd hc14 (by rw [if_pos hgood.2]; omega))
    refine lv_iload_n hx hb d_E_beside_25 rfl (lv_at hl 3 rfl) ?_
    refine eh_cRS (As := [.int (eI x1)]) (rest := []) (v := .int (eI (if 0 ≤ x1 ∧ x1 ≤ 100000000 then 1 else 0))) hx hb hml hown htb hN (r_E_isLitres l D x1 hx1) 1 ⟨tb_479, tb_480, tb_1, kin_E_isLitres⟩ dv_E_isLitres ⟨by rw [hR1]; decide, by rw [hR2]; decide⟩ hK hP [] rfl [] rfl rfl rfl hl.1 (Nat.le_of_ble_eq_true rfl) d_E_beside_26 ⟨Nat.zero_le _, Nat.zero_le _⟩ ?_
    refine we_if_eq (tgt := 45) hx hb (by constructor <;> split <;> omega) d_E_beside_29 rfl (fun hc29 => ?_) (fun hc29 => absurd hc29 (by rw [if_neg hcas]; omega))
    subst hQ
    exact eh_throw0 (own := "EarthHauls") (names := eh_up) (ic := 56) (ix := 54) hx hb htr hown (by decide +kernel) (by decide +kernel) (eh_own eh_ow_IA htb hN hst) (htb _ tb_340) (htb _ tb_341) (htb _ tb_11) hex hlocks (hl.1.trans hml.symm) (by rw [hR1]; decide) (by rw [hR2]; decide) (by rw [hR3]; decide) (by rw [hR4]; decide) d_E_beside_45 d_E_beside_48 d_E_beside_49 d_E_beside_52
  ·
    refine lv_iload_n hx hb d_E_beside_0 rfl (lv_at hl 1 rfl) ?_
    refine we_if_lt (tgt := 17) hx hb (by constructor <;> omega) d_E_beside_1 rfl (fun hc1 => absurd hc1 (by omega)) (fun hc1 => ?_)
    refine lv_iload_n hx hb d_E_beside_4 rfl (lv_at hl 1 rfl) ?_
    refine lv_iconst (v := eI 3) hx hb d_E_beside_5 rfl ?_
    refine we_icmp_ge (tgt := 17) hx hb (by constructor <;> omega) (by constructor <;> omega) d_E_beside_6 rfl (fun hc6 => absurd hc6 (by omega)) (fun hc6 => ?_)
    refine lv_aload_n hx hb d_E_beside_9 rfl (lv_at hl 0 rfl) ?_
    refine lv_iload_n hx hb d_E_beside_10 rfl (lv_at hl 2 rfl) ?_
    refine eh_cRV (As := [.int (eI z)]) (rest := []) (v := .int (eI (if 0 ≤ z ∧ z + 1 < n then 1 else 0))) (q := (R_E, T_E, 11)) hx hb hml hown htb hN (r_E_isSpan l D cI cL cZ cS cY ad n sh ra plv pco ln cb la cu cl fu fl ys yl yp z hz hE) 1 ⟨tb_215, tb_217, ts_9, tb_1, kin_E_isSpan⟩ dv_E_isSpan ⟨by rw [hR1]; decide, by rw [hR2]; decide⟩ hK hP 0 rfl rfl [0, 1, 2, 3, 4, 5, 6, 7, 8, 9, 10, 11, 12, 13, 14, 15, 16, 17, 18, 19, 20, 21, 22, 23] rfl [0, 1, 2, 3, 4] rfl rfl rfl hl.1 (Nat.le_of_ble_eq_true rfl) d_E_beside_11 ⟨Nat.zero_le _, Nat.zero_le _⟩ ?_
    refine we_if_ne (tgt := 25) hx hb (by constructor <;> split <;> omega) d_E_beside_14 rfl (fun hc14 => ?_) (fun hc14 => absurd hc14 (by rw [if_pos hgood.2]; omega))
    refine lv_iload_n hx hb d_E_beside_25 rfl (lv_at hl 3 rfl) ?_
    refine eh_cRS (As := [.int (eI x1)]) (rest := []) (v := .int (eI (if 0 ≤ x1 ∧ x1 ≤ 100000000 then 1 else 0))) hx hb hml hown htb hN (r_E_isLitres l D x1 hx1) 1 ⟨tb_479, tb_480, tb_1, kin_E_isLitres⟩ dv_E_isLitres ⟨by rw [hR1]; decide, by rw [hR2]; decide⟩ hK hP [] rfl [] rfl rfl rfl hl.1 (Nat.le_of_ble_eq_true rfl) d_E_beside_26 ⟨Nat.zero_le _, Nat.zero_le _⟩ ?_
    refine we_if_eq (tgt := 45) hx hb (by constructor <;> split <;> omega) d_E_beside_29 rfl (fun hc29 => absurd hc29 (by rw [if_pos hcas.1]; omega)) (fun hc29 => ?_)
    refine lv_iload hx hb d_E_beside_32 (lv_at hl 4 rfl) ?_
    refine we_if_lt (tgt := 45) hx hb (by constructor <;> omega) d_E_beside_34 rfl (fun hc34 => ?_) (fun hc34 => absurd hc34 (by omega))
    subst hQ
    exact eh_throw0 (own := "EarthHauls") (names := eh_up) (ic := 56) (ix := 54) hx hb htr hown (by decide +kernel) (by decide +kernel) (eh_own eh_ow_IA htb hN hst) (htb _ tb_340) (htb _ tb_341) (htb _ tb_11) hex hlocks (hl.1.trans hml.symm) (by rw [hR1]; decide) (by rw [hR2]; decide) (by rw [hR3]; decide) (by rw [hR4]; decide) d_E_beside_45 d_E_beside_48 d_E_beside_49 d_E_beside_52
  ·
    refine lv_iload_n hx hb d_E_beside_0 rfl (lv_at hl 1 rfl) ?_
    refine we_if_lt (tgt := 17) hx hb (by constructor <;> omega) d_E_beside_1 rfl (fun hc1 => absurd hc1 (by omega)) (fun hc1 => ?_)
    refine lv_iload_n hx hb d_E_beside_4 rfl (lv_at hl 1 rfl) ?_
    refine lv_iconst (v := eI 3) hx hb d_E_beside_5 rfl ?_
    refine we_icmp_ge (tgt := 17) hx hb (by constructor <;> omega) (by constructor <;> omega) d_E_beside_6 rfl (fun hc6 => absurd hc6 (by omega)) (fun hc6 => ?_)
    refine lv_aload_n hx hb d_E_beside_9 rfl (lv_at hl 0 rfl) ?_
    refine lv_iload_n hx hb d_E_beside_10 rfl (lv_at hl 2 rfl) ?_
    refine eh_cRV (As := [.int (eI z)]) (rest := []) (v := .int (eI (if 0 ≤ z ∧ z + 1 < n then 1 else 0))) (q := (R_E, T_E, 11)) hx hb hml hown htb hN (r_E_isSpan l D cI cL cZ cS cY ad n sh ra plv pco ln cb la cu cl fu fl ys yl yp z hz hE) 1 ⟨tb_215, tb_217, ts_9, tb_1, kin_E_isSpan⟩ dv_E_isSpan ⟨by rw [hR1]; decide, by rw [hR2]; decide⟩ hK hP 0 rfl rfl [0, 1, 2, 3, 4, 5, 6, 7, 8, 9, 10, 11, 12, 13, 14, 15, 16, 17, 18, 19, 20, 21, 22, 23] rfl [0, 1, 2, 3, 4] rfl rfl rfl hl.1 (Nat.le_of_ble_eq_true rfl) d_E_beside_11 ⟨Nat.zero_le _, Nat.zero_le _⟩ ?_
    refine we_if_ne (tgt := 25) hx hb (by constructor <;> split <;> omega) d_E_beside_14 rfl (fun hc14 => ?_) (fun hc14 => absurd hc14 (by rw [if_pos hgood.2]; omega))
    refine lv_iload_n hx hb d_E_beside_25 rfl (lv_at hl 3 rfl) ?_
    refine eh_cRS (As := [.int (eI x1)]) (rest := []) (v := .int (eI (if 0 ≤ x1 ∧ x1 ≤ 100000000 then 1 else 0))) hx hb hml hown htb hN (r_E_isLitres l D x1 hx1) 1 ⟨tb_479, tb_480, tb_1, kin_E_isLitres⟩ dv_E_isLitres ⟨by rw [hR1]; decide, by rw [hR2]; decide⟩ hK hP [] rfl [] rfl rfl rfl hl.1 (Nat.le_of_ble_eq_true rfl) d_E_beside_26 ⟨Nat.zero_le _, Nat.zero_le _⟩ ?_
    refine we_if_eq (tgt := 45) hx hb (by constructor <;> split <;> omega) d_E_beside_29 rfl (fun hc29 => absurd hc29 (by rw [if_pos hcas.1]; omega)) (fun hc29 => ?_)
    refine lv_iload hx hb d_E_beside_32 (lv_at hl 4 rfl) ?_
    refine we_if_lt (tgt := 45) hx hb (by constructor <;> omega) d_E_beside_34 rfl (fun hc34 => absurd hc34 (by omega)) (fun hc34 => ?_)
    refine lv_iload hx hb d_E_beside_37 (lv_at hl 4 rfl) ?_
    refine lv_sipush (v := eI 1000) hx hb d_E_beside_39 (by decide) ?_
    refine we_icmp_le (tgt := 53) hx hb (by constructor <;> omega) (by constructor <;> omega) d_E_beside_42 rfl (fun hc42 => absurd hc42 (by omega)) (fun hc42 => ?_)
    subst hQ
    exact eh_throw0 (own := "EarthHauls") (names := eh_up) (ic := 56) (ix := 54) hx hb htr hown (by decide +kernel) (by decide +kernel) (eh_own eh_ow_IA htb hN hst) (htb _ tb_340) (htb _ tb_341) (htb _ tb_11) hex hlocks (hl.1.trans hml.symm) (by rw [hR1]; decide) (by rw [hR2]; decide) (by rw [hR3]; decide) (by rw [hR4]; decide) d_E_beside_45 d_E_beside_48 d_E_beside_49 d_E_beside_52
abbrev c_E_area : ByteArray := prog_1_method_7_code
def y_E_area : MethodName := ⟨"EarthHauls", "area", "(II)J"⟩
abbrev k_E_area : Cond := .code y_E_area c_E_area 3 (some .long)
theorem kin_E_area : k_E_area ∈ ew_t := tb_490
theorem dv_E_area : eh_dV y_E_area "EarthHauls" 2 := ⟨rfl, by decide, by decide, by decide +kernel⟩
theorem d_E_area_0 : decode c_E_area 0 = .ok (.aload_n 0, 1) := by decide +kernel
theorem d_E_area_1 : decode c_E_area 1 = .ok (.iload_n 1, 1) := by decide +kernel
theorem d_E_area_2 : decode c_E_area 2 = .ok (.invokevirtual 95, 3) := by decide +kernel
theorem d_E_area_5 : decode c_E_area 5 = .ok (.ifCond .ne 11, 3) := by decide +kernel
theorem d_E_area_8 : decode c_E_area 8 = .ok (.new 82, 3) := by decide +kernel
theorem d_E_area_11 : decode c_E_area 11 = .ok (.dup, 1) := by decide +kernel
theorem d_E_area_12 : decode c_E_area 12 = .ok (.invokespecial 84, 3) := by decide +kernel
theorem d_E_area_15 : decode c_E_area 15 = .ok (.athrow, 1) := by decide +kernel
theorem d_E_area_16 : decode c_E_area 16 = .ok (.iload_n 2, 1) := by decide +kernel
theorem d_E_area_17 : decode c_E_area 17 = .ok (.tableswitch 83 0 3 #[31, 44, 57, 70], 31) := by decide +kernel
theorem d_E_area_48 : decode c_E_area 48 = .ok (.aload_n 0, 1) := by decide +kernel
theorem d_E_area_49 : decode c_E_area 49 = .ok (.getfield 11, 3) := by decide +kernel
theorem d_E_area_52 : decode c_E_area 52 = .ok (.iload_n 1, 1) := by decide +kernel
theorem d_E_area_53 : decode c_E_area 53 = .ok (.aaload, 1) := by decide +kernel
theorem d_E_area_54 : decode c_E_area 54 = .ok (.getfield 98, 3) := by decide +kernel
theorem d_E_area_57 : decode c_E_area 57 = .ok (.getfield 102, 3) := by decide +kernel
theorem d_E_area_60 : decode c_E_area 60 = .ok (.lreturn, 1) := by decide +kernel
theorem d_E_area_61 : decode c_E_area 61 = .ok (.aload_n 0, 1) := by decide +kernel
theorem d_E_area_62 : decode c_E_area 62 = .ok (.getfield 11, 3) := by decide +kernel
theorem d_E_area_65 : decode c_E_area 65 = .ok (.iload_n 1, 1) := by decide +kernel
theorem d_E_area_66 : decode c_E_area 66 = .ok (.aaload, 1) := by decide +kernel
theorem d_E_area_67 : decode c_E_area 67 = .ok (.getfield 98, 3) := by decide +kernel
theorem d_E_area_70 : decode c_E_area 70 = .ok (.getfield 108, 3) := by decide +kernel
theorem d_E_area_73 : decode c_E_area 73 = .ok (.lreturn, 1) := by decide +kernel
theorem d_E_area_74 : decode c_E_area 74 = .ok (.aload_n 0, 1) := by decide +kernel
theorem d_E_area_75 : decode c_E_area 75 = .ok (.getfield 11, 3) := by decide +kernel
theorem d_E_area_78 : decode c_E_area 78 = .ok (.iload_n 1, 1) := by decide +kernel
theorem d_E_area_79 : decode c_E_area 79 = .ok (.aaload, 1) := by decide +kernel
theorem d_E_area_80 : decode c_E_area 80 = .ok (.getfield 111, 3) := by decide +kernel
theorem d_E_area_83 : decode c_E_area 83 = .ok (.getfield 102, 3) := by decide +kernel
theorem d_E_area_86 : decode c_E_area 86 = .ok (.lreturn, 1) := by decide +kernel
theorem d_E_area_87 : decode c_E_area 87 = .ok (.aload_n 0, 1) := by decide +kernel
theorem d_E_area_88 : decode c_E_area 88 = .ok (.getfield 11, 3) := by decide +kernel
theorem d_E_area_91 : decode c_E_area 91 = .ok (.iload_n 1, 1) := by decide +kernel
theorem d_E_area_92 : decode c_E_area 92 = .ok (.aaload, 1) := by decide +kernel
theorem d_E_area_93 : decode c_E_area 93 = .ok (.getfield 111, 3) := by decide +kernel
theorem d_E_area_96 : decode c_E_area 96 = .ok (.getfield 108, 3) := by decide +kernel
theorem d_E_area_99 : decode c_E_area 99 = .ok (.lreturn, 1) := by decide +kernel
theorem d_E_area_100 : decode c_E_area 100 = .ok (.new 54, 3) := by decide +kernel
theorem d_E_area_103 : decode c_E_area 103 = .ok (.dup, 1) := by decide +kernel
theorem d_E_area_104 : decode c_E_area 104 = .ok (.invokespecial 56, 3) := by decide +kernel
theorem d_E_area_107 : decode c_E_area 107 = .ok (.athrow, 1) := by decide +kernel
set_option maxHeartbeats 1000000 in
set_option maxRecDepth 100000 in
theorem t_E_area_IB (l : Launch) (D : va_G) (cI cL cZ cS cY : ClassId) (ad : Nat → Nat) (n : Nat) (sh ra plv pco : Int) (ln cb la : Nat → Int) (cu cl fu fl : Nat → Nat) (ys yl yp : Nat → Int) (y z : Int) (hy : -2147483648 ≤ y ∧ y < 2147483648) (hz : -2147483648 ≤ z ∧ z < 2147483648) (hbad : ¬ (0 ≤ y ∧ y < n)) (hE : eh_ES n sh ra ln cb la cu cl fu fl ys yl yp) (hl0 : l.stackTraces = false) : eh_T l y_E_area k_E_area 6 89 D classes [(cI, .int), (cL, .long), (cZ, .boolean), (cS, .object "EarthHauls$Section"), (cY, .object "EarthHauls$Yard")] [.ref (ad 0), .int (eI y), .int (eI z)] [((ad 0), .inr (4, [.ref (ad 1), .ref (ad 2), .ref (ad 3), .ref (ad 4), .ref (ad 5), .ref (ad 24), .int (eI ((n : Nat) : Int)), .int (eI sh), .int (eI ra), .int (eI plv), .long (eL pco)])), ((ad 1), .inl (cS, 5, .inr (.inr (.inr (.inr (eh_o5 (ad 6) (ad 7) (ad 8) (ad 9) (ad 10))))))), ((ad 2), aI cI 4 ln), ((ad 3), aI cZ 3 cb), ((ad 4), .inl (cY, 3, .inr (.inr (.inr (.inr (eh_o3 (ad 21) (ad 22) (ad 23))))))), ((ad 5), aI cI 30 la), ((ad 6), .inr (2, [.ref (ad 11), .ref (ad 16)])), ((ad 7), .inr (2, [.ref (ad 12), .ref (ad 17)])), ((ad 8), .inr (2, [.ref (ad 13), .ref (ad 18)])), ((ad 9), .inr (2, [.ref (ad 14), .ref (ad 19)])), ((ad 10), .inr (2, [.ref (ad 15), .ref (ad 20)])), ((ad 11), .inr (0, [.long (eL ((cu 0 : Nat) : Int)), .long (eL ((cl 0 : Nat) : Int))])), ((ad 12), .inr (0, [.long (eL ((cu 1 : Nat) : Int)), .long (eL ((cl 1 : Nat) : Int))])), ((ad 13), .inr (0, [.long (eL ((cu 2 : Nat) : Int)), .long (eL ((cl 2 : Nat) : Int))])), ((ad 14), .inr (0, [.long (eL ((cu 3 : Nat) : Int)), .long (eL ((cl 3 : Nat) : Int))])), ((ad 15), .inr (0, [.long (eL ((cu 4 : Nat) : Int)), .long (eL ((cl 4 : Nat) : Int))])), ((ad 16), .inr (0, [.long (eL ((fu 0 : Nat) : Int)), .long (eL ((fl 0 : Nat) : Int))])), ((ad 17), .inr (0, [.long (eL ((fu 1 : Nat) : Int)), .long (eL ((fl 1 : Nat) : Int))])), ((ad 18), .inr (0, [.long (eL ((fu 2 : Nat) : Int)), .long (eL ((fl 2 : Nat) : Int))])), ((ad 19), .inr (0, [.long (eL ((fu 3 : Nat) : Int)), .long (eL ((fl 3 : Nat) : Int))])), ((ad 20), .inr (0, [.long (eL ((fu 4 : Nat) : Int)), .long (eL ((fl 4 : Nat) : Int))])), ((ad 21), .inr (3, [.int (eI (ys 0)), .int (eI (yl 0)), .int (eI (yp 0))])), ((ad 22), .inr (3, [.int (eI (ys 1)), .int (eI (yl 1)), .int (eI (yp 1))])), ((ad 23), .inr (3, [.int (eI (ys 2)), .int (eI (yl 2)), .int (eI (yp 2))]))] eh_IB := by
  refine eh_T.ofW (cc := c_E_area) (maxL := 3) (ret := (some .long)) hl0 (by decide) ?_
  intro p e s m args below meth c s₁ B hml hex htr hv
  obtain ⟨hargs, hP, hK, hN, hst⟩ := hv
  have hx := B.exec
  have hb := B.bytes
  have hrt := B.returns
  have hts := atoms_spec (ws := k_E_area :: ew_t) B.pre
  have htb : ∀ w ∈ ew_t, w.before args s = true := fun w h => hts w (List.mem_cons_of_mem _ h)
  have hown : s.vm.findClass "EarthHauls" = some m.cls := findClass_of_methodNamed B.named
  have hlocks := B.notSynchronized
  have hE9 : entryFrame m args 3 = entryFrame m ([.ref (ad 0), .int (eI y), .int (eI z)] : List Value).toArray 3 := by rw [hargs]
  rw [hE9]
  clear hE9 hts B hargs
  generalize hRe : (headSpec _ _).room = R
  have hR1 : R.frames = 6 := by rw [← hRe]; rfl
  have hR2 : R.locals = 89 := by rw [← hRe]; rfl
  have hR3 : R.cells = 1 := by rw [← hRe]; rfl
  have hR4 : R.slots = 6 := by rw [← hRe]; rfl
  clear hRe
  generalize hQ : eh_TQ below _ s = Q
  have hP : va_P D classes [((ad 0), .inr (4, [.ref (ad 1), .ref (ad 2), .ref (ad 3), .ref (ad 4), .ref (ad 5), .ref (ad 24), .int (eI ((n : Nat) : Int)), .int (eI sh), .int (eI ra), .int (eI plv), .long (eL pco)])), ((ad 1), .inl (cS, 5, .inr (.inr (.inr (.inr (eh_o5 (ad 6) (ad 7) (ad 8) (ad 9) (ad 10))))))), ((ad 2), aI cI 4 ln), ((ad 3), aI cZ 3 cb), ((ad 4), .inl (cY, 3, .inr (.inr (.inr (.inr (eh_o3 (ad 21) (ad 22) (ad 23))))))), ((ad 5), aI cI 30 la), ((ad 6), .inr (2, [.ref (ad 11), .ref (ad 16)])), ((ad 7), .inr (2, [.ref (ad 12), .ref (ad 17)])), ((ad 8), .inr (2, [.ref (ad 13), .ref (ad 18)])), ((ad 9), .inr (2, [.ref (ad 14), .ref (ad 19)])), ((ad 10), .inr (2, [.ref (ad 15), .ref (ad 20)])), ((ad 11), .inr (0, [.long (eL ((cu 0 : Nat) : Int)), .long (eL ((cl 0 : Nat) : Int))])), ((ad 12), .inr (0, [.long (eL ((cu 1 : Nat) : Int)), .long (eL ((cl 1 : Nat) : Int))])), ((ad 13), .inr (0, [.long (eL ((cu 2 : Nat) : Int)), .long (eL ((cl 2 : Nat) : Int))])), ((ad 14), .inr (0, [.long (eL ((cu 3 : Nat) : Int)), .long (eL ((cl 3 : Nat) : Int))])), ((ad 15), .inr (0, [.long (eL ((cu 4 : Nat) : Int)), .long (eL ((cl 4 : Nat) : Int))])), ((ad 16), .inr (0, [.long (eL ((fu 0 : Nat) : Int)), .long (eL ((fl 0 : Nat) : Int))])), ((ad 17), .inr (0, [.long (eL ((fu 1 : Nat) : Int)), .long (eL ((fl 1 : Nat) : Int))])), ((ad 18), .inr (0, [.long (eL ((fu 2 : Nat) : Int)), .long (eL ((fl 2 : Nat) : Int))])), ((ad 19), .inr (0, [.long (eL ((fu 3 : Nat) : Int)), .long (eL ((fl 3 : Nat) : Int))])), ((ad 20), .inr (0, [.long (eL ((fu 4 : Nat) : Int)), .long (eL ((fl 4 : Nat) : Int))])), ((ad 21), .inr (3, [.int (eI (ys 0)), .int (eI (yl 0)), .int (eI (yp 0))])), ((ad 22), .inr (3, [.int (eI (ys 1)), .int (eI (yl 1)), .int (eI (yp 1))])), ((ad 23), .inr (3, [.int (eI (ys 2)), .int (eI (yl 2)), .int (eI (yp 2))]))] s.heap := hP
  have hl := lv_entry ([.ref (ad 0), .int (eI y), .int (eI z)]) (n := 3) (Nat.le_of_ble_eq_true rfl)
  rw [lg_entry_eq]
  generalize (lg_sl ([.ref (ad 0), .int (eI y), .int (eI z)]) ++ List.replicate (3 - (lg_sl ([.ref (ad 0), .int (eI y), .int (eI z)])).length) Slot.unset).toArray = ls at hl ⊢
  have hl : lv_has ls 3 [(0, .ref (ad 0)), (1, .int (eI y)), (2, .int (eI z))] := hl
  have hn5 := hE.1
  refine lv_aload_n hx hb d_E_area_0 rfl (lv_at hl 0 rfl) ?_
  refine lv_iload_n hx hb d_E_area_1 rfl (lv_at hl 1 rfl) ?_
  refine eh_cRV (As := [.int (eI y)]) (rest := []) (v := .int (eI (if 0 ≤ y ∧ y < n then 1 else 0))) (q := (R_E, T_E, 11)) hx hb hml hown htb hN (r_E_isStation l D cI cL cZ cS cY ad n sh ra plv pco ln cb la cu cl fu fl ys yl yp y hy hE) 1 ⟨tb_491, tb_493, ts_24, tb_1, kin_E_isStation⟩ dv_E_isStation ⟨by rw [hR1]; decide, by rw [hR2]; decide⟩ hK hP 0 rfl rfl [0, 1, 2, 3, 4, 5, 6, 7, 8, 9, 10, 11, 12, 13, 14, 15, 16, 17, 18, 19, 20, 21, 22, 23] rfl [0, 1, 2, 3, 4] rfl rfl rfl hl.1 (Nat.le_of_ble_eq_true rfl) d_E_area_2 ⟨Nat.zero_le _, Nat.zero_le _⟩ ?_
  refine we_if_ne (tgt := 16) hx hb (by constructor <;> split <;> omega) d_E_area_5 rfl (fun hc5 => absurd hc5 (by rw [if_neg hbad]; omega)) (fun hc5 => ?_)
  subst hQ
  exact eh_throw0 (own := "EarthHauls") (names := eh_up) (ic := 84) (ix := 82) hx hb htr hown (by decide +kernel) (by decide +kernel) (eh_own eh_ow_IB htb hN hst) (htb _ tb_457) (htb _ tb_458) (htb _ tb_14) hex hlocks (hl.1.trans hml.symm) (by rw [hR1]; decide) (by rw [hR2]; decide) (by rw [hR3]; decide) (by rw [hR4]; decide) d_E_area_8 d_E_area_11 d_E_area_12 d_E_area_15
set_option maxHeartbeats 1000000 in
set_option maxRecDepth 100000 in
theorem t_E_area_IA (l : Launch) (D : va_G) (cI cL cZ cS cY : ClassId) (ad : Nat → Nat) (n : Nat) (sh ra plv pco : Int) (ln cb la : Nat → Int) (cu cl fu fl : Nat → Nat) (ys yl yp : Nat → Int) (y z : Int) (hy : -2147483648 ≤ y ∧ y < 2147483648) (hz : -2147483648 ≤ z ∧ z < 2147483648) (hgood : 0 ≤ y ∧ y < n) (hbad : ¬ (0 ≤ z ∧ z ≤ 3)) (hE : eh_ES n sh ra ln cb la cu cl fu fl ys yl yp) (hl0 : l.stackTraces = false) : eh_T l y_E_area k_E_area 6 89 D classes [(cI, .int), (cL, .long), (cZ, .boolean), (cS, .object "EarthHauls$Section"), (cY, .object "EarthHauls$Yard")] [.ref (ad 0), .int (eI y), .int (eI z)] [((ad 0), .inr (4, [.ref (ad 1), .ref (ad 2), .ref (ad 3), .ref (ad 4), .ref (ad 5), .ref (ad 24), .int (eI ((n : Nat) : Int)), .int (eI sh), .int (eI ra), .int (eI plv), .long (eL pco)])), ((ad 1), .inl (cS, 5, .inr (.inr (.inr (.inr (eh_o5 (ad 6) (ad 7) (ad 8) (ad 9) (ad 10))))))), ((ad 2), aI cI 4 ln), ((ad 3), aI cZ 3 cb), ((ad 4), .inl (cY, 3, .inr (.inr (.inr (.inr (eh_o3 (ad 21) (ad 22) (ad 23))))))), ((ad 5), aI cI 30 la), ((ad 6), .inr (2, [.ref (ad 11), .ref (ad 16)])), ((ad 7), .inr (2, [.ref (ad 12), .ref (ad 17)])), ((ad 8), .inr (2, [.ref (ad 13), .ref (ad 18)])), ((ad 9), .inr (2, [.ref (ad 14), .ref (ad 19)])), ((ad 10), .inr (2, [.ref (ad 15), .ref (ad 20)])), ((ad 11), .inr (0, [.long (eL ((cu 0 : Nat) : Int)), .long (eL ((cl 0 : Nat) : Int))])), ((ad 12), .inr (0, [.long (eL ((cu 1 : Nat) : Int)), .long (eL ((cl 1 : Nat) : Int))])), ((ad 13), .inr (0, [.long (eL ((cu 2 : Nat) : Int)), .long (eL ((cl 2 : Nat) : Int))])), ((ad 14), .inr (0, [.long (eL ((cu 3 : Nat) : Int)), .long (eL ((cl 3 : Nat) : Int))])), ((ad 15), .inr (0, [.long (eL ((cu 4 : Nat) : Int)), .long (eL ((cl 4 : Nat) : Int))])), ((ad 16), .inr (0, [.long (eL ((fu 0 : Nat) : Int)), .long (eL ((fl 0 : Nat) : Int))])), ((ad 17), .inr (0, [.long (eL ((fu 1 : Nat) : Int)), .long (eL ((fl 1 : Nat) : Int))])), ((ad 18), .inr (0, [.long (eL ((fu 2 : Nat) : Int)), .long (eL ((fl 2 : Nat) : Int))])), ((ad 19), .inr (0, [.long (eL ((fu 3 : Nat) : Int)), .long (eL ((fl 3 : Nat) : Int))])), ((ad 20), .inr (0, [.long (eL ((fu 4 : Nat) : Int)), .long (eL ((fl 4 : Nat) : Int))])), ((ad 21), .inr (3, [.int (eI (ys 0)), .int (eI (yl 0)), .int (eI (yp 0))])), ((ad 22), .inr (3, [.int (eI (ys 1)), .int (eI (yl 1)), .int (eI (yp 1))])), ((ad 23), .inr (3, [.int (eI (ys 2)), .int (eI (yl 2)), .int (eI (yp 2))]))] eh_IA := by
  refine eh_T.ofW (cc := c_E_area) (maxL := 3) (ret := (some .long)) hl0 (by decide) ?_
  intro p e s m args below meth c s₁ B hml hex htr hv
  obtain ⟨hargs, hP, hK, hN, hst⟩ := hv
  have hx := B.exec
  have hb := B.bytes
  have hrt := B.returns
  have hts := atoms_spec (ws := k_E_area :: ew_t) B.pre
  have htb : ∀ w ∈ ew_t, w.before args s = true := fun w h => hts w (List.mem_cons_of_mem _ h)
  have hown : s.vm.findClass "EarthHauls" = some m.cls := findClass_of_methodNamed B.named
  have hlocks := B.notSynchronized
  have hE9 : entryFrame m args 3 = entryFrame m ([.ref (ad 0), .int (eI y), .int (eI z)] : List Value).toArray 3 := by rw [hargs]
  rw [hE9]
  clear hE9 hts B hargs
  generalize hRe : (headSpec _ _).room = R
  have hR1 : R.frames = 6 := by rw [← hRe]; rfl
  have hR2 : R.locals = 89 := by rw [← hRe]; rfl
  have hR3 : R.cells = 1 := by rw [← hRe]; rfl
  have hR4 : R.slots = 6 := by rw [← hRe]; rfl
  clear hRe
  generalize hQ : eh_TQ below _ s = Q
  have hP : va_P D classes [((ad 0), .inr (4, [.ref (ad 1), .ref (ad 2), .ref (ad 3), .ref (ad 4), .ref (ad 5), .ref (ad 24), .int (eI ((n : Nat) : Int)), .int (eI sh), .int (eI ra), .int (eI plv), .long (eL pco)])), ((ad 1), .inl (cS, 5, .inr (.inr (.inr (.inr (eh_o5 (ad 6) (ad 7) (ad 8) (ad 9) (ad 10))))))), ((ad 2), aI cI 4 ln), ((ad 3), aI cZ 3 cb), ((ad 4), .inl (cY, 3, .inr (.inr (.inr (.inr (eh_o3 (ad 21) (ad 22) (ad 23))))))), ((ad 5), aI cI 30 la), ((ad 6), .inr (2, [.ref (ad 11), .ref (ad 16)])), ((ad 7), .inr (2, [.ref (ad 12), .ref (ad 17)])), ((ad 8), .inr (2, [.ref (ad 13), .ref (ad 18)])), ((ad 9), .inr (2, [.ref (ad 14), .ref (ad 19)])), ((ad 10), .inr (2, [.ref (ad 15), .ref (ad 20)])), ((ad 11), .inr (0, [.long (eL ((cu 0 : Nat) : Int)), .long (eL ((cl 0 : Nat) : Int))])), ((ad 12), .inr (0, [.long (eL ((cu 1 : Nat) : Int)), .long (eL ((cl 1 : Nat) : Int))])), ((ad 13), .inr (0, [.long (eL ((cu 2 : Nat) : Int)), .long (eL ((cl 2 : Nat) : Int))])), ((ad 14), .inr (0, [.long (eL ((cu 3 : Nat) : Int)), .long (eL ((cl 3 : Nat) : Int))])), ((ad 15), .inr (0, [.long (eL ((cu 4 : Nat) : Int)), .long (eL ((cl 4 : Nat) : Int))])), ((ad 16), .inr (0, [.long (eL ((fu 0 : Nat) : Int)), .long (eL ((fl 0 : Nat) : Int))])), ((ad 17), .inr (0, [.long (eL ((fu 1 : Nat) : Int)), .long (eL ((fl 1 : Nat) : Int))])), ((ad 18), .inr (0, [.long (eL ((fu 2 : Nat) : Int)), .long (eL ((fl 2 : Nat) : Int))])), ((ad 19), .inr (0, [.long (eL ((fu 3 : Nat) : Int)), .long (eL ((fl 3 : Nat) : Int))])), ((ad 20), .inr (0, [.long (eL ((fu 4 : Nat) : Int)), .long (eL ((fl 4 : Nat) : Int))])), ((ad 21), .inr (3, [.int (eI (ys 0)), .int (eI (yl 0)), .int (eI (yp 0))])), ((ad 22), .inr (3, [.int (eI (ys 1)), .int (eI (yl 1)), .int (eI (yp 1))])), ((ad 23), .inr (3, [.int (eI (ys 2)), .int (eI (yl 2)), .int (eI (yp 2))]))] s.heap := hP
  have hl := lv_entry ([.ref (ad 0), .int (eI y), .int (eI z)]) (n := 3) (Nat.le_of_ble_eq_true rfl)
  rw [lg_entry_eq]
  generalize (lg_sl ([.ref (ad 0), .int (eI y), .int (eI z)]) ++ List.replicate (3 - (lg_sl ([.ref (ad 0), .int (eI y), .int (eI z)])).length) Slot.unset).toArray = ls at hl ⊢
  have hl : lv_has ls 3 [(0, .ref (ad 0)), (1, .int (eI y)), (2, .int (eI z))] := hl
  have hn5 := hE.1
  have hz9 : (eI z).toInt < 0 ∨ 3 < (eI z).toInt := by rw [eI_t hz]; omega
  refine lv_aload_n hx hb d_E_area_0 rfl (lv_at hl 0 rfl) ?_
  refine lv_iload_n hx hb d_E_area_1 rfl (lv_at hl 1 rfl) ?_
  refine eh_cRV (As := [.int (eI y)]) (rest := []) (v := .int (eI (if 0 ≤ y ∧ y < n then 1 else 0))) (q := (R_E, T_E, 11)) hx hb hml hown htb hN (r_E_isStation l D cI cL cZ cS cY ad n sh ra plv pco ln cb la cu cl fu fl ys yl yp y hy hE) 1 ⟨tb_491, tb_493, ts_24, tb_1, kin_E_isStation⟩ dv_E_isStation ⟨by rw [hR1]; decide, by rw [hR2]; decide⟩ hK hP 0 rfl rfl [0, 1, 2, 3, 4, 5, 6, 7, 8, 9, 10, 11, 12, 13, 14, 15, 16, 17, 18, 19, 20, 21, 22, 23] rfl [0, 1, 2, 3, 4] rfl rfl rfl hl.1 (Nat.le_of_ble_eq_true rfl) d_E_area_2 ⟨Nat.zero_le _, Nat.zero_le _⟩ ?_
  refine we_if_ne (tgt := 16) hx hb (by constructor <;> split <;> omega) d_E_area_5 rfl (fun hc5 => ?_) (fun hc5 => absurd hc5 (by rw [if_pos hgood]; omega))
  refine lv_iload_n hx hb d_E_area_16 rfl (lv_at hl 2 rfl) ?_
  refine lv_tableOut (tgt := 100) hx hb d_E_area_17 hz9 (by decide) ?_
  subst hQ
  exact eh_throw0 (own := "EarthHauls") (names := eh_up) (ic := 56) (ix := 54) hx hb htr hown (by decide +kernel) (by decide +kernel) (eh_own eh_ow_IA htb hN hst) (htb _ tb_340) (htb _ tb_341) (htb _ tb_11) hex hlocks (hl.1.trans hml.symm) (by rw [hR1]; decide) (by rw [hR2]; decide) (by rw [hR3]; decide) (by rw [hR4]; decide) d_E_area_100 d_E_area_103 d_E_area_104 d_E_area_107
abbrev c_E_litres : ByteArray := prog_1_method_8_code
def y_E_litres : MethodName := ⟨"EarthHauls", "litres", "(II)I"⟩
abbrev k_E_litres : Cond := .code y_E_litres c_E_litres 3 (some .int)
theorem kin_E_litres : k_E_litres ∈ ew_t := tb_501
theorem dv_E_litres : eh_dV y_E_litres "EarthHauls" 2 := ⟨rfl, by decide, by decide, by decide +kernel⟩
theorem d_E_litres_0 : decode c_E_litres 0 = .ok (.aload_n 0, 1) := by decide +kernel
theorem d_E_litres_1 : decode c_E_litres 1 = .ok (.iload_n 1, 1) := by decide +kernel
theorem d_E_litres_2 : decode c_E_litres 2 = .ok (.invokevirtual 85, 3) := by decide +kernel
theorem d_E_litres_5 : decode c_E_litres 5 = .ok (.ifCond .ne 11, 3) := by decide +kernel
theorem d_E_litres_8 : decode c_E_litres 8 = .ok (.new 82, 3) := by decide +kernel
theorem d_E_litres_11 : decode c_E_litres 11 = .ok (.dup, 1) := by decide +kernel
theorem d_E_litres_12 : decode c_E_litres 12 = .ok (.invokespecial 84, 3) := by decide +kernel
theorem d_E_litres_15 : decode c_E_litres 15 = .ok (.athrow, 1) := by decide +kernel
theorem d_E_litres_16 : decode c_E_litres 16 = .ok (.iload_n 2, 1) := by decide +kernel
theorem d_E_litres_17 : decode c_E_litres 17 = .ok (.tableswitch 45 0 2 #[27, 33, 39], 27) := by decide +kernel
theorem d_E_litres_44 : decode c_E_litres 44 = .ok (.aload_n 0, 1) := by decide +kernel
theorem d_E_litres_45 : decode c_E_litres 45 = .ok (.iload_n 1, 1) := by decide +kernel
theorem d_E_litres_46 : decode c_E_litres 46 = .ok (.invokevirtual 114, 3) := by decide +kernel
theorem d_E_litres_49 : decode c_E_litres 49 = .ok (.ireturn, 1) := by decide +kernel
theorem d_E_litres_50 : decode c_E_litres 50 = .ok (.aload_n 0, 1) := by decide +kernel
theorem d_E_litres_51 : decode c_E_litres 51 = .ok (.iload_n 1, 1) := by decide +kernel
theorem d_E_litres_52 : decode c_E_litres 52 = .ok (.invokevirtual 118, 3) := by decide +kernel
theorem d_E_litres_55 : decode c_E_litres 55 = .ok (.ireturn, 1) := by decide +kernel
theorem d_E_litres_56 : decode c_E_litres 56 = .ok (.aload_n 0, 1) := by decide +kernel
theorem d_E_litres_57 : decode c_E_litres 57 = .ok (.iload_n 1, 1) := by decide +kernel
theorem d_E_litres_58 : decode c_E_litres 58 = .ok (.invokevirtual 121, 3) := by decide +kernel
theorem d_E_litres_61 : decode c_E_litres 61 = .ok (.ireturn, 1) := by decide +kernel
theorem d_E_litres_62 : decode c_E_litres 62 = .ok (.new 54, 3) := by decide +kernel
theorem d_E_litres_65 : decode c_E_litres 65 = .ok (.dup, 1) := by decide +kernel
theorem d_E_litres_66 : decode c_E_litres 66 = .ok (.invokespecial 56, 3) := by decide +kernel
theorem d_E_litres_69 : decode c_E_litres 69 = .ok (.athrow, 1) := by decide +kernel
set_option maxHeartbeats 1000000 in
set_option maxRecDepth 100000 in
theorem t_E_litres_IB (l : Launch) (D : va_G) (cI cL cZ cS cY : ClassId) (ad : Nat → Nat) (n : Nat) (sh ra plv pco : Int) (ln cb la : Nat → Int) (cu cl fu fl : Nat → Nat) (ys yl yp : Nat → Int) (y z : Int) (hy : -2147483648 ≤ y ∧ y < 2147483648) (hz : -2147483648 ≤ z ∧ z < 2147483648) (hbad : ¬ (0 ≤ y ∧ y + 1 < n)) (hE : eh_ES n sh ra ln cb la cu cl fu fl ys yl yp) (hl0 : l.stackTraces = false) : eh_T l y_E_litres k_E_litres 6 89 D classes [(cI, .int), (cL, .long), (cZ, .boolean), (cS, .object "EarthHauls$Section"), (cY, .object "EarthHauls$Yard")] [.ref (ad 0), .int (eI y), .int (eI z)] [((ad 0), .inr (4, [.ref (ad 1), .ref (ad 2), .ref (ad 3), .ref (ad 4), .ref (ad 5), .ref (ad 24), .int (eI ((n : Nat) : Int)), .int (eI sh), .int (eI ra), .int (eI plv), .long (eL pco)])), ((ad 1), .inl (cS, 5, .inr (.inr (.inr (.inr (eh_o5 (ad 6) (ad 7) (ad 8) (ad 9) (ad 10))))))), ((ad 2), aI cI 4 ln), ((ad 3), aI cZ 3 cb), ((ad 4), .inl (cY, 3, .inr (.inr (.inr (.inr (eh_o3 (ad 21) (ad 22) (ad 23))))))), ((ad 5), aI cI 30 la), ((ad 6), .inr (2, [.ref (ad 11), .ref (ad 16)])), ((ad 7), .inr (2, [.ref (ad 12), .ref (ad 17)])), ((ad 8), .inr (2, [.ref (ad 13), .ref (ad 18)])), ((ad 9), .inr (2, [.ref (ad 14), .ref (ad 19)])), ((ad 10), .inr (2, [.ref (ad 15), .ref (ad 20)])), ((ad 11), .inr (0, [.long (eL ((cu 0 : Nat) : Int)), .long (eL ((cl 0 : Nat) : Int))])), ((ad 12), .inr (0, [.long (eL ((cu 1 : Nat) : Int)), .long (eL ((cl 1 : Nat) : Int))])), ((ad 13), .inr (0, [.long (eL ((cu 2 : Nat) : Int)), .long (eL ((cl 2 : Nat) : Int))])), ((ad 14), .inr (0, [.long (eL ((cu 3 : Nat) : Int)), .long (eL ((cl 3 : Nat) : Int))])), ((ad 15), .inr (0, [.long (eL ((cu 4 : Nat) : Int)), .long (eL ((cl 4 : Nat) : Int))])), ((ad 16), .inr (0, [.long (eL ((fu 0 : Nat) : Int)), .long (eL ((fl 0 : Nat) : Int))])), ((ad 17), .inr (0, [.long (eL ((fu 1 : Nat) : Int)), .long (eL ((fl 1 : Nat) : Int))])), ((ad 18), .inr (0, [.long (eL ((fu 2 : Nat) : Int)), .long (eL ((fl 2 : Nat) : Int))])), ((ad 19), .inr (0, [.long (eL ((fu 3 : Nat) : Int)), .long (eL ((fl 3 : Nat) : Int))])), ((ad 20), .inr (0, [.long (eL ((fu 4 : Nat) : Int)), .long (eL ((fl 4 : Nat) : Int))])), ((ad 21), .inr (3, [.int (eI (ys 0)), .int (eI (yl 0)), .int (eI (yp 0))])), ((ad 22), .inr (3, [.int (eI (ys 1)), .int (eI (yl 1)), .int (eI (yp 1))])), ((ad 23), .inr (3, [.int (eI (ys 2)), .int (eI (yl 2)), .int (eI (yp 2))]))] eh_IB := by
  refine eh_T.ofW (cc := c_E_litres) (maxL := 3) (ret := (some .int)) hl0 (by decide) ?_
  intro p e s m args below meth c s₁ B hml hex htr hv
  obtain ⟨hargs, hP, hK, hN, hst⟩ := hv
  have hx := B.exec
  have hb := B.bytes
  have hrt := B.returns
  have hts := atoms_spec (ws := k_E_litres :: ew_t) B.pre
  have htb : ∀ w ∈ ew_t, w.before args s = true := fun w h => hts w (List.mem_cons_of_mem _ h)
  have hown : s.vm.findClass "EarthHauls" = some m.cls := findClass_of_methodNamed B.named
  have hlocks := B.notSynchronized
  have hE9 : entryFrame m args 3 = entryFrame m ([.ref (ad 0), .int (eI y), .int (eI z)] : List Value).toArray 3 := by rw [hargs]
  rw [hE9]
  clear hE9 hts B hargs
  generalize hRe : (headSpec _ _).room = R
  have hR1 : R.frames = 6 := by rw [← hRe]; rfl
  have hR2 : R.locals = 89 := by rw [← hRe]; rfl
  have hR3 : R.cells = 1 := by rw [← hRe]; rfl
  have hR4 : R.slots = 6 := by rw [← hRe]; rfl
  clear hRe
  generalize hQ : eh_TQ below _ s = Q
  have hP : va_P D classes [((ad 0), .inr (4, [.ref (ad 1), .ref (ad 2), .ref (ad 3), .ref (ad 4), .ref (ad 5), .ref (ad 24), .int (eI ((n : Nat) : Int)), .int (eI sh), .int (eI ra), .int (eI plv), .long (eL pco)])), ((ad 1), .inl (cS, 5, .inr (.inr (.inr (.inr (eh_o5 (ad 6) (ad 7) (ad 8) (ad 9) (ad 10))))))), ((ad 2), aI cI 4 ln), ((ad 3), aI cZ 3 cb), ((ad 4), .inl (cY, 3, .inr (.inr (.inr (.inr (eh_o3 (ad 21) (ad 22) (ad 23))))))), ((ad 5), aI cI 30 la), ((ad 6), .inr (2, [.ref (ad 11), .ref (ad 16)])), ((ad 7), .inr (2, [.ref (ad 12), .ref (ad 17)])), ((ad 8), .inr (2, [.ref (ad 13), .ref (ad 18)])), ((ad 9), .inr (2, [.ref (ad 14), .ref (ad 19)])), ((ad 10), .inr (2, [.ref (ad 15), .ref (ad 20)])), ((ad 11), .inr (0, [.long (eL ((cu 0 : Nat) : Int)), .long (eL ((cl 0 : Nat) : Int))])), ((ad 12), .inr (0, [.long (eL ((cu 1 : Nat) : Int)), .long (eL ((cl 1 : Nat) : Int))])), ((ad 13), .inr (0, [.long (eL ((cu 2 : Nat) : Int)), .long (eL ((cl 2 : Nat) : Int))])), ((ad 14), .inr (0, [.long (eL ((cu 3 : Nat) : Int)), .long (eL ((cl 3 : Nat) : Int))])), ((ad 15), .inr (0, [.long (eL ((cu 4 : Nat) : Int)), .long (eL ((cl 4 : Nat) : Int))])), ((ad 16), .inr (0, [.long (eL ((fu 0 : Nat) : Int)), .long (eL ((fl 0 : Nat) : Int))])), ((ad 17), .inr (0, [.long (eL ((fu 1 : Nat) : Int)), .long (eL ((fl 1 : Nat) : Int))])), ((ad 18), .inr (0, [.long (eL ((fu 2 : Nat) : Int)), .long (eL ((fl 2 : Nat) : Int))])), ((ad 19), .inr (0, [.long (eL ((fu 3 : Nat) : Int)), .long (eL ((fl 3 : Nat) : Int))])), ((ad 20), .inr (0, [.long (eL ((fu 4 : Nat) : Int)), .long (eL ((fl 4 : Nat) : Int))])), ((ad 21), .inr (3, [.int (eI (ys 0)), .int (eI (yl 0)), .int (eI (yp 0))])), ((ad 22), .inr (3, [.int (eI (ys 1)), .int (eI (yl 1)), .int (eI (yp 1))])), ((ad 23), .inr (3, [.int (eI (ys 2)), .int (eI (yl 2)), .int (eI (yp 2))]))] s.heap := hP
  have hl := lv_entry ([.ref (ad 0), .int (eI y), .int (eI z)]) (n := 3) (Nat.le_of_ble_eq_true rfl)
  rw [lg_entry_eq]
  generalize (lg_sl ([.ref (ad 0), .int (eI y), .int (eI z)]) ++ List.replicate (3 - (lg_sl ([.ref (ad 0), .int (eI y), .int (eI z)])).length) Slot.unset).toArray = ls at hl ⊢
  have hl : lv_has ls 3 [(0, .ref (ad 0)), (1, .int (eI y)), (2, .int (eI z))] := hl
  have hn5 := hE.1
  refine lv_aload_n hx hb d_E_litres_0 rfl (lv_at hl 0 rfl) ?_
  refine lv_iload_n hx hb d_E_litres_1 rfl (lv_at hl 1 rfl) ?_
  refine eh_cRV (As := [.int (eI y)]) (rest := []) (v := .int (eI (if 0 ≤ y ∧ y + 1 < n then 1 else 0))) (q := (R_E, T_E, 11)) hx hb hml hown htb hN (r_E_isSpan l D cI cL cZ cS cY ad n sh ra plv pco ln cb la cu cl fu fl ys yl yp y hy hE) 1 ⟨tb_215, tb_217, ts_9, tb_1, kin_E_isSpan⟩ dv_E_isSpan ⟨by rw [hR1]; decide, by rw [hR2]; decide⟩ hK hP 0 rfl rfl [0, 1, 2, 3, 4, 5, 6, 7, 8, 9, 10, 11, 12, 13, 14, 15, 16, 17, 18, 19, 20, 21, 22, 23] rfl [0, 1, 2, 3, 4] rfl rfl rfl hl.1 (Nat.le_of_ble_eq_true rfl) d_E_litres_2 ⟨Nat.zero_le _, Nat.zero_le _⟩ ?_
  refine we_if_ne (tgt := 16) hx hb (by constructor <;> split <;> omega) d_E_litres_5 rfl (fun hc5 => absurd hc5 (by rw [if_neg hbad]; omega)) (fun hc5 => ?_)
  subst hQ
  exact eh_throw0 (own := "EarthHauls") (names := eh_up) (ic := 84) (ix := 82) hx hb htr hown (by decide +kernel) (by decide +kernel) (eh_own eh_ow_IB htb hN hst) (htb _ tb_457) (htb _ tb_458) (htb _ tb_14) hex hlocks (hl.1.trans hml.symm) (by rw [hR1]; decide) (by rw [hR2]; decide) (by rw [hR3]; decide) (by rw [hR4]; decide) d_E_litres_8 d_E_litres_11 d_E_litres_12 d_E_litres_15
set_option maxHeartbeats 1000000 in
set_option maxRecDepth 100000 in
theorem t_E_litres_IA (l : Launch) (D : va_G) (cI cL cZ cS cY : ClassId) (ad : Nat → Nat) (n : Nat) (sh ra plv pco : Int) (ln cb la : Nat → Int) (cu cl fu fl : Nat → Nat) (ys yl yp : Nat → Int) (y z : Int) (hy : -2147483648 ≤ y ∧ y < 2147483648) (hz : -2147483648 ≤ z ∧ z < 2147483648) (hgood : 0 ≤ y ∧ y + 1 < n) (hbad : ¬ (0 ≤ z ∧ z ≤ 2)) (hE : eh_ES n sh ra ln cb la cu cl fu fl ys yl yp) (hl0 : l.stackTraces = false) : eh_T l y_E_litres k_E_litres 6 89 D classes [(cI, .int), (cL, .long), (cZ, .boolean), (cS, .object "EarthHauls$Section"), (cY, .object "EarthHauls$Yard")] [.ref (ad 0), .int (eI y), .int (eI z)] [((ad 0), .inr (4, [.ref (ad 1), .ref (ad 2), .ref (ad 3), .ref (ad 4), .ref (ad 5), .ref (ad 24), .int (eI ((n : Nat) : Int)), .int (eI sh), .int (eI ra), .int (eI plv), .long (eL pco)])), ((ad 1), .inl (cS, 5, .inr (.inr (.inr (.inr (eh_o5 (ad 6) (ad 7) (ad 8) (ad 9) (ad 10))))))), ((ad 2), aI cI 4 ln), ((ad 3), aI cZ 3 cb), ((ad 4), .inl (cY, 3, .inr (.inr (.inr (.inr (eh_o3 (ad 21) (ad 22) (ad 23))))))), ((ad 5), aI cI 30 la), ((ad 6), .inr (2, [.ref (ad 11), .ref (ad 16)])), ((ad 7), .inr (2, [.ref (ad 12), .ref (ad 17)])), ((ad 8), .inr (2, [.ref (ad 13), .ref (ad 18)])), ((ad 9), .inr (2, [.ref (ad 14), .ref (ad 19)])), ((ad 10), .inr (2, [.ref (ad 15), .ref (ad 20)])), ((ad 11), .inr (0, [.long (eL ((cu 0 : Nat) : Int)), .long (eL ((cl 0 : Nat) : Int))])), ((ad 12), .inr (0, [.long (eL ((cu 1 : Nat) : Int)), .long (eL ((cl 1 : Nat) : Int))])), ((ad 13), .inr (0, [.long (eL ((cu 2 : Nat) : Int)), .long (eL ((cl 2 : Nat) : Int))])), ((ad 14), .inr (0, [.long (eL ((cu 3 : Nat) : Int)), .long (eL ((cl 3 : Nat) : Int))])), ((ad 15), .inr (0, [.long (eL ((cu 4 : Nat) : Int)), .long (eL ((cl 4 : Nat) : Int))])), ((ad 16), .inr (0, [.long (eL ((fu 0 : Nat) : Int)), .long (eL ((fl 0 : Nat) : Int))])), ((ad 17), .inr (0, [.long (eL ((fu 1 : Nat) : Int)), .long (eL ((fl 1 : Nat) : Int))])), ((ad 18), .inr (0, [.long (eL ((fu 2 : Nat) : Int)), .long (eL ((fl 2 : Nat) : Int))])), ((ad 19), .inr (0, [.long (eL ((fu 3 : Nat) : Int)), .long (eL ((fl 3 : Nat) : Int))])), ((ad 20), .inr (0, [.long (eL ((fu 4 : Nat) : Int)), .long (eL ((fl 4 : Nat) : Int))])), ((ad 21), .inr (3, [.int (eI (ys 0)), .int (eI (yl 0)), .int (eI (yp 0))])), ((ad 22), .inr (3, [.int (eI (ys 1)), .int (eI (yl 1)), .int (eI (yp 1))])), ((ad 23), .inr (3, [.int (eI (ys 2)), .int (eI (yl 2)), .int (eI (yp 2))]))] eh_IA := by
  refine eh_T.ofW (cc := c_E_litres) (maxL := 3) (ret := (some .int)) hl0 (by decide) ?_
  intro p e s m args below meth c s₁ B hml hex htr hv
  obtain ⟨hargs, hP, hK, hN, hst⟩ := hv
  have hx := B.exec
  have hb := B.bytes
  have hrt := B.returns
  have hts := atoms_spec (ws := k_E_litres :: ew_t) B.pre
  have htb : ∀ w ∈ ew_t, w.before args s = true := fun w h => hts w (List.mem_cons_of_mem _ h)
  have hown : s.vm.findClass "EarthHauls" = some m.cls := findClass_of_methodNamed B.named
  have hlocks := B.notSynchronized
  have hE9 : entryFrame m args 3 = entryFrame m ([.ref (ad 0), .int (eI y), .int (eI z)] : List Value).toArray 3 := by rw [hargs]
  rw [hE9]
  clear hE9 hts B hargs
  generalize hRe : (headSpec _ _).room = R
  have hR1 : R.frames = 6 := by rw [← hRe]; rfl
  have hR2 : R.locals = 89 := by rw [← hRe]; rfl
  have hR3 : R.cells = 1 := by rw [← hRe]; rfl
  have hR4 : R.slots = 6 := by rw [← hRe]; rfl
  clear hRe
  generalize hQ : eh_TQ below _ s = Q
  have hP : va_P D classes [((ad 0), .inr (4, [.ref (ad 1), .ref (ad 2), .ref (ad 3), .ref (ad 4), .ref (ad 5), .ref (ad 24), .int (eI ((n : Nat) : Int)), .int (eI sh), .int (eI ra), .int (eI plv), .long (eL pco)])), ((ad 1), .inl (cS, 5, .inr (.inr (.inr (.inr (eh_o5 (ad 6) (ad 7) (ad 8) (ad 9) (ad 10))))))), ((ad 2), aI cI 4 ln), ((ad 3), aI cZ 3 cb), ((ad 4), .inl (cY, 3, .inr (.inr (.inr (.inr (eh_o3 (ad 21) (ad 22) (ad 23))))))), ((ad 5), aI cI 30 la), ((ad 6), .inr (2, [.ref (ad 11), .ref (ad 16)])), ((ad 7), .inr (2, [.ref (ad 12), .ref (ad 17)])), ((ad 8), .inr (2, [.ref (ad 13), .ref (ad 18)])), ((ad 9), .inr (2, [.ref (ad 14), .ref (ad 19)])), ((ad 10), .inr (2, [.ref (ad 15), .ref (ad 20)])), ((ad 11), .inr (0, [.long (eL ((cu 0 : Nat) : Int)), .long (eL ((cl 0 : Nat) : Int))])), ((ad 12), .inr (0, [.long (eL ((cu 1 : Nat) : Int)), .long (eL ((cl 1 : Nat) : Int))])), ((ad 13), .inr (0, [.long (eL ((cu 2 : Nat) : Int)), .long (eL ((cl 2 : Nat) : Int))])), ((ad 14), .inr (0, [.long (eL ((cu 3 : Nat) : Int)), .long (eL ((cl 3 : Nat) : Int))])), ((ad 15), .inr (0, [.long (eL ((cu 4 : Nat) : Int)), .long (eL ((cl 4 : Nat) : Int))])), ((ad 16), .inr (0, [.long (eL ((fu 0 : Nat) : Int)), .long (eL ((fl 0 : Nat) : Int))])), ((ad 17), .inr (0, [.long (eL ((fu 1 : Nat) : Int)), .long (eL ((fl 1 : Nat) : Int))])), ((ad 18), .inr (0, [.long (eL ((fu 2 : Nat) : Int)), .long (eL ((fl 2 : Nat) : Int))])), ((ad 19), .inr (0, [.long (eL ((fu 3 : Nat) : Int)), .long (eL ((fl 3 : Nat) : Int))])), ((ad 20), .inr (0, [.long (eL ((fu 4 : Nat) : Int)), .long (eL ((fl 4 : Nat) : Int))])), ((ad 21), .inr (3, [.int (eI (ys 0)), .int (eI (yl 0)), .int (eI (yp 0))])), ((ad 22), .inr (3, [.int (eI (ys 1)), .int (eI (yl 1)), .int (eI (yp 1))])), ((ad 23), .inr (3, [.int (eI (ys 2)), .int (eI (yl 2)), .int (eI (yp 2))]))] s.heap := hP
  have hl := lv_entry ([.ref (ad 0), .int (eI y), .int (eI z)]) (n := 3) (Nat.le_of_ble_eq_true rfl)
  rw [lg_entry_eq]
  generalize (lg_sl ([.ref (ad 0), .int (eI y), .int (eI z)]) ++ List.replicate (3 - (lg_sl ([.ref (ad 0), .int (eI y), .int (eI z)])).length) Slot.unset).toArray = ls at hl ⊢
  have hl : lv_has ls 3 [(0, .ref (ad 0)), (1, .int (eI y)), (2, .int (eI z))] := hl
  have hn5 := hE.1
  have hz9 : (eI z).toInt < 0 ∨ 2 < (eI z).toInt := by rw [eI_t hz]; omega
  refine lv_aload_n hx hb d_E_litres_0 rfl (lv_at hl 0 rfl) ?_
  refine lv_iload_n hx hb d_E_litres_1 rfl (lv_at hl 1 rfl) ?_
  refine eh_cRV (As := [.int (eI y)]) (rest := []) (v := .int (eI (if 0 ≤ y ∧ y + 1 < n then 1 else 0))) (q := (R_E, T_E, 11)) hx hb hml hown htb hN (r_E_isSpan l D cI cL cZ cS cY ad n sh ra plv pco ln cb la cu cl fu fl ys yl yp y hy hE) 1 ⟨tb_215, tb_217, ts_9, tb_1, kin_E_isSpan⟩ dv_E_isSpan ⟨by rw [hR1]; decide, by rw [hR2]; decide⟩ hK hP 0 rfl rfl [0, 1, 2, 3, 4, 5, 6, 7, 8, 9, 10, 11, 12, 13, 14, 15, 16, 17, 18, 19, 20, 21, 22, 23] rfl [0, 1, 2, 3, 4] rfl rfl rfl hl.1 (Nat.le_of_ble_eq_true rfl) d_E_litres_2 ⟨Nat.zero_le _, Nat.zero_le _⟩ ?_
  refine we_if_ne (tgt := 16) hx hb (by constructor <;> split <;> omega) d_E_litres_5 rfl (fun hc5 => ?_) (fun hc5 => absurd hc5 (by rw [if_pos hgood]; omega))
  refine lv_iload_n hx hb d_E_litres_16 rfl (lv_at hl 2 rfl) ?_
  refine lv_tableOut (tgt := 62) hx hb d_E_litres_17 hz9 (by decide) ?_
  subst hQ
  exact eh_throw0 (own := "EarthHauls") (names := eh_up) (ic := 56) (ix := 54) hx hb htr hown (by decide +kernel) (by decide +kernel) (eh_own eh_ow_IA htb hN hst) (htb _ tb_340) (htb _ tb_341) (htb _ tb_11) hex hlocks (hl.1.trans hml.symm) (by rw [hR1]; decide) (by rw [hR2]; decide) (by rw [hR3]; decide) (by rw [hR4]; decide) d_E_litres_62 d_E_litres_65 d_E_litres_66 d_E_litres_69
abbrev c_E_curve : ByteArray := prog_1_method_9_code
def y_E_curve : MethodName := ⟨"EarthHauls", "curve", "(I)I"⟩
abbrev k_E_curve : Cond := .code y_E_curve c_E_curve 4 (some .int)
theorem kin_E_curve : k_E_curve ∈ ew_t := tb_508
theorem dv_E_curve : eh_dV y_E_curve "EarthHauls" 1 := ⟨rfl, by decide, by decide, by decide +kernel⟩
theorem d_E_curve_0 : decode c_E_curve 0 = .ok (.aload_n 0, 1) := by decide +kernel
theorem d_E_curve_1 : decode c_E_curve 1 = .ok (.iload_n 1, 1) := by decide +kernel
theorem d_E_curve_2 : decode c_E_curve 2 = .ok (.invokevirtual 95, 3) := by decide +kernel
theorem d_E_curve_5 : decode c_E_curve 5 = .ok (.ifCond .ne 11, 3) := by decide +kernel
theorem d_E_curve_8 : decode c_E_curve 8 = .ok (.new 82, 3) := by decide +kernel
theorem d_E_curve_11 : decode c_E_curve 11 = .ok (.dup, 1) := by decide +kernel
theorem d_E_curve_12 : decode c_E_curve 12 = .ok (.invokespecial 84, 3) := by decide +kernel
theorem d_E_curve_15 : decode c_E_curve 15 = .ok (.athrow, 1) := by decide +kernel
theorem d_E_curve_16 : decode c_E_curve 16 = .ok (.iconst 0, 1) := by decide +kernel
theorem d_E_curve_17 : decode c_E_curve 17 = .ok (.istore_n 2, 1) := by decide +kernel
theorem d_E_curve_18 : decode c_E_curve 18 = .ok (.iconst 0, 1) := by decide +kernel
theorem d_E_curve_19 : decode c_E_curve 19 = .ok (.istore_n 3, 1) := by decide +kernel
theorem d_E_curve_20 : decode c_E_curve 20 = .ok (.iload_n 3, 1) := by decide +kernel
theorem d_E_curve_21 : decode c_E_curve 21 = .ok (.iload_n 1, 1) := by decide +kernel
theorem d_E_curve_22 : decode c_E_curve 22 = .ok (.if_icmp .ge 23, 3) := by decide +kernel
theorem d_E_curve_25 : decode c_E_curve 25 = .ok (.iload_n 2, 1) := by decide +kernel
theorem d_E_curve_26 : decode c_E_curve 26 = .ok (.aload_n 0, 1) := by decide +kernel
theorem d_E_curve_27 : decode c_E_curve 27 = .ok (.iload_n 3, 1) := by decide +kernel
theorem d_E_curve_28 : decode c_E_curve 28 = .ok (.invokevirtual 121, 3) := by decide +kernel
theorem d_E_curve_31 : decode c_E_curve 31 = .ok (.aload_n 0, 1) := by decide +kernel
theorem d_E_curve_32 : decode c_E_curve 32 = .ok (.iload_n 3, 1) := by decide +kernel
theorem d_E_curve_33 : decode c_E_curve 33 = .ok (.invokevirtual 118, 3) := by decide +kernel
theorem d_E_curve_36 : decode c_E_curve 36 = .ok (.isub, 1) := by decide +kernel
theorem d_E_curve_37 : decode c_E_curve 37 = .ok (.iadd, 1) := by decide +kernel
theorem d_E_curve_38 : decode c_E_curve 38 = .ok (.istore_n 2, 1) := by decide +kernel
theorem d_E_curve_39 : decode c_E_curve 39 = .ok (.iinc 3 1, 3) := by decide +kernel
theorem d_E_curve_42 : decode c_E_curve 42 = .ok (.goto (-22), 3) := by decide +kernel
theorem d_E_curve_45 : decode c_E_curve 45 = .ok (.iload_n 2, 1) := by decide +kernel
theorem d_E_curve_46 : decode c_E_curve 46 = .ok (.ireturn, 1) := by decide +kernel
set_option maxHeartbeats 1000000 in
set_option maxRecDepth 100000 in
theorem t_E_curve_IB (l : Launch) (D : va_G) (cI cL cZ cS cY : ClassId) (ad : Nat → Nat) (n : Nat) (sh ra plv pco : Int) (ln cb la : Nat → Int) (cu cl fu fl : Nat → Nat) (ys yl yp : Nat → Int) (y : Int) (hy : -2147483648 ≤ y ∧ y < 2147483648) (hbad : ¬ (0 ≤ y ∧ y < n)) (hE : eh_ES n sh ra ln cb la cu cl fu fl ys yl yp) (hl0 : l.stackTraces = false) : eh_T l y_E_curve k_E_curve 6 89 D classes [(cI, .int), (cL, .long), (cZ, .boolean), (cS, .object "EarthHauls$Section"), (cY, .object "EarthHauls$Yard")] [.ref (ad 0), .int (eI y)] [((ad 0), .inr (4, [.ref (ad 1), .ref (ad 2), .ref (ad 3), .ref (ad 4), .ref (ad 5), .ref (ad 24), .int (eI ((n : Nat) : Int)), .int (eI sh), .int (eI ra), .int (eI plv), .long (eL pco)])), ((ad 1), .inl (cS, 5, .inr (.inr (.inr (.inr (eh_o5 (ad 6) (ad 7) (ad 8) (ad 9) (ad 10))))))), ((ad 2), aI cI 4 ln), ((ad 3), aI cZ 3 cb), ((ad 4), .inl (cY, 3, .inr (.inr (.inr (.inr (eh_o3 (ad 21) (ad 22) (ad 23))))))), ((ad 5), aI cI 30 la), ((ad 6), .inr (2, [.ref (ad 11), .ref (ad 16)])), ((ad 7), .inr (2, [.ref (ad 12), .ref (ad 17)])), ((ad 8), .inr (2, [.ref (ad 13), .ref (ad 18)])), ((ad 9), .inr (2, [.ref (ad 14), .ref (ad 19)])), ((ad 10), .inr (2, [.ref (ad 15), .ref (ad 20)])), ((ad 11), .inr (0, [.long (eL ((cu 0 : Nat) : Int)), .long (eL ((cl 0 : Nat) : Int))])), ((ad 12), .inr (0, [.long (eL ((cu 1 : Nat) : Int)), .long (eL ((cl 1 : Nat) : Int))])), ((ad 13), .inr (0, [.long (eL ((cu 2 : Nat) : Int)), .long (eL ((cl 2 : Nat) : Int))])), ((ad 14), .inr (0, [.long (eL ((cu 3 : Nat) : Int)), .long (eL ((cl 3 : Nat) : Int))])), ((ad 15), .inr (0, [.long (eL ((cu 4 : Nat) : Int)), .long (eL ((cl 4 : Nat) : Int))])), ((ad 16), .inr (0, [.long (eL ((fu 0 : Nat) : Int)), .long (eL ((fl 0 : Nat) : Int))])), ((ad 17), .inr (0, [.long (eL ((fu 1 : Nat) : Int)), .long (eL ((fl 1 : Nat) : Int))])), ((ad 18), .inr (0, [.long (eL ((fu 2 : Nat) : Int)), .long (eL ((fl 2 : Nat) : Int))])), ((ad 19), .inr (0, [.long (eL ((fu 3 : Nat) : Int)), .long (eL ((fl 3 : Nat) : Int))])), ((ad 20), .inr (0, [.long (eL ((fu 4 : Nat) : Int)), .long (eL ((fl 4 : Nat) : Int))])), ((ad 21), .inr (3, [.int (eI (ys 0)), .int (eI (yl 0)), .int (eI (yp 0))])), ((ad 22), .inr (3, [.int (eI (ys 1)), .int (eI (yl 1)), .int (eI (yp 1))])), ((ad 23), .inr (3, [.int (eI (ys 2)), .int (eI (yl 2)), .int (eI (yp 2))]))] eh_IB := by
  refine eh_T.ofW (cc := c_E_curve) (maxL := 4) (ret := (some .int)) hl0 (by decide) ?_
  intro p e s m args below meth c s₁ B hml hex htr hv
  obtain ⟨hargs, hP, hK, hN, hst⟩ := hv
  have hx := B.exec
  have hb := B.bytes
  have hrt := B.returns
  have hts := atoms_spec (ws := k_E_curve :: ew_t) B.pre
  have htb : ∀ w ∈ ew_t, w.before args s = true := fun w h => hts w (List.mem_cons_of_mem _ h)
  have hown : s.vm.findClass "EarthHauls" = some m.cls := findClass_of_methodNamed B.named
  have hlocks := B.notSynchronized
  have hE9 : entryFrame m args 4 = entryFrame m ([.ref (ad 0), .int (eI y)] : List Value).toArray 4 := by rw [hargs]
  rw [hE9]
  clear hE9 hts B hargs
  generalize hRe : (headSpec _ _).room = R
  have hR1 : R.frames = 6 := by rw [← hRe]; rfl
  have hR2 : R.locals = 89 := by rw [← hRe]; rfl
  have hR3 : R.cells = 1 := by rw [← hRe]; rfl
  have hR4 : R.slots = 6 := by rw [← hRe]; rfl
  clear hRe
  generalize hQ : eh_TQ below _ s = Q
  have hP : va_P D classes [((ad 0), .inr (4, [.ref (ad 1), .ref (ad 2), .ref (ad 3), .ref (ad 4), .ref (ad 5), .ref (ad 24), .int (eI ((n : Nat) : Int)), .int (eI sh), .int (eI ra), .int (eI plv), .long (eL pco)])), ((ad 1), .inl (cS, 5, .inr (.inr (.inr (.inr (eh_o5 (ad 6) (ad 7) (ad 8) (ad 9) (ad 10))))))), ((ad 2), aI cI 4 ln), ((ad 3), aI cZ 3 cb), ((ad 4), .inl (cY, 3, .inr (.inr (.inr (.inr (eh_o3 (ad 21) (ad 22) (ad 23))))))), ((ad 5), aI cI 30 la), ((ad 6), .inr (2, [.ref (ad 11), .ref (ad 16)])), ((ad 7), .inr (2, [.ref (ad 12), .ref (ad 17)])), ((ad 8), .inr (2, [.ref (ad 13), .ref (ad 18)])), ((ad 9), .inr (2, [.ref (ad 14), .ref (ad 19)])), ((ad 10), .inr (2, [.ref (ad 15), .ref (ad 20)])), ((ad 11), .inr (0, [.long (eL ((cu 0 : Nat) : Int)), .long (eL ((cl 0 : Nat) : Int))])), ((ad 12), .inr (0, [.long (eL ((cu 1 : Nat) : Int)), .long (eL ((cl 1 : Nat) : Int))])), ((ad 13), .inr (0, [.long (eL ((cu 2 : Nat) : Int)), .long (eL ((cl 2 : Nat) : Int))])), ((ad 14), .inr (0, [.long (eL ((cu 3 : Nat) : Int)), .long (eL ((cl 3 : Nat) : Int))])), ((ad 15), .inr (0, [.long (eL ((cu 4 : Nat) : Int)), .long (eL ((cl 4 : Nat) : Int))])), ((ad 16), .inr (0, [.long (eL ((fu 0 : Nat) : Int)), .long (eL ((fl 0 : Nat) : Int))])), ((ad 17), .inr (0, [.long (eL ((fu 1 : Nat) : Int)), .long (eL ((fl 1 : Nat) : Int))])), ((ad 18), .inr (0, [.long (eL ((fu 2 : Nat) : Int)), .long (eL ((fl 2 : Nat) : Int))])), ((ad 19), .inr (0, [.long (eL ((fu 3 : Nat) : Int)), .long (eL ((fl 3 : Nat) : Int))])), ((ad 20), .inr (0, [.long (eL ((fu 4 : Nat) : Int)), .long (eL ((fl 4 : Nat) : Int))])), ((ad 21), .inr (3, [.int (eI (ys 0)), .int (eI (yl 0)), .int (eI (yp 0))])), ((ad 22), .inr (3, [.int (eI (ys 1)), .int (eI (yl 1)), .int (eI (yp 1))])), ((ad 23), .inr (3, [.int (eI (ys 2)), .int (eI (yl 2)), .int (eI (yp 2))]))] s.heap := hP
  have hl := lv_entry ([.ref (ad 0), .int (eI y)]) (n := 4) (Nat.le_of_ble_eq_true rfl)
  rw [lg_entry_eq]
  generalize (lg_sl ([.ref (ad 0), .int (eI y)]) ++ List.replicate (4 - (lg_sl ([.ref (ad 0), .int (eI y)])).length) Slot.unset).toArray = ls at hl ⊢
  have hl : lv_has ls 4 [(0, .ref (ad 0)), (1, .int (eI y))] := hl
  have hn5 := hE.1
  refine lv_aload_n hx hb d_E_curve_0 rfl (lv_at hl 0 rfl) ?_
  refine lv_iload_n hx hb d_E_curve_1 rfl (lv_at hl 1 rfl) ?_
  refine eh_cRV (As := [.int (eI y)]) (rest := []) (v := .int (eI (if 0 ≤ y ∧ y < n then 1 else 0))) (q := (R_E, T_E, 11)) hx hb hml hown htb hN (r_E_isStation l D cI cL cZ cS cY ad n sh ra plv pco ln cb la cu cl fu fl ys yl yp y hy hE) 1 ⟨tb_491, tb_493, ts_24, tb_1, kin_E_isStation⟩ dv_E_isStation ⟨by rw [hR1]; decide, by rw [hR2]; decide⟩ hK hP 0 rfl rfl [0, 1, 2, 3, 4, 5, 6, 7, 8, 9, 10, 11, 12, 13, 14, 15, 16, 17, 18, 19, 20, 21, 22, 23] rfl [0, 1, 2, 3, 4] rfl rfl rfl hl.1 (Nat.le_of_ble_eq_true rfl) d_E_curve_2 ⟨Nat.zero_le _, Nat.zero_le _⟩ ?_
  refine we_if_ne (tgt := 16) hx hb (by constructor <;> split <;> omega) d_E_curve_5 rfl (fun hc5 => absurd hc5 (by rw [if_neg hbad]; omega)) (fun hc5 => ?_)
  subst hQ
  exact eh_throw0 (own := "EarthHauls") (names := eh_up) (ic := 84) (ix := 82) hx hb htr hown (by decide +kernel) (by decide +kernel) (eh_own eh_ow_IB htb hN hst) (htb _ tb_457) (htb _ tb_458) (htb _ tb_14) hex hlocks (hl.1.trans hml.symm) (by rw [hR1]; decide) (by rw [hR2]; decide) (by rw [hR3]; decide) (by rw [hR4]; decide) d_E_curve_8 d_E_curve_11 d_E_curve_12 d_E_curve_15
abbrev c_E_cost : ByteArray := prog_1_method_11_code
def y_E_cost : MethodName := ⟨"EarthHauls", "cost", "(II)I"⟩
abbrev k_E_cost : Cond := .code y_E_cost c_E_cost 3 (some .int)
theorem kin_E_cost : k_E_cost ∈ ew_t := tb_515
theorem dv_E_cost : eh_dV y_E_cost "EarthHauls" 2 := ⟨rfl, by decide, by decide, by decide +kernel⟩
theorem d_E_cost_0 : decode c_E_cost 0 = .ok (.iload_n 1, 1) := by decide +kernel
theorem d_E_cost_1 : decode c_E_cost 1 = .ok (.iload_n 2, 1) := by decide +kernel
theorem d_E_cost_2 : decode c_E_cost 2 = .ok (.invokestatic 124, 3) := by decide +kernel
theorem d_E_cost_5 : decode c_E_cost 5 = .ok (.ifCond .ne 11, 3) := by decide +kernel
theorem d_E_cost_8 : decode c_E_cost 8 = .ok (.new 82, 3) := by decide +kernel
theorem d_E_cost_11 : decode c_E_cost 11 = .ok (.dup, 1) := by decide +kernel
theorem d_E_cost_12 : decode c_E_cost 12 = .ok (.invokespecial 84, 3) := by decide +kernel
theorem d_E_cost_15 : decode c_E_cost 15 = .ok (.athrow, 1) := by decide +kernel
theorem d_E_cost_16 : decode c_E_cost 16 = .ok (.aload_n 0, 1) := by decide +kernel
theorem d_E_cost_17 : decode c_E_cost 17 = .ok (.iload_n 1, 1) := by decide +kernel
theorem d_E_cost_18 : decode c_E_cost 18 = .ok (.iload_n 2, 1) := by decide +kernel
theorem d_E_cost_19 : decode c_E_cost 19 = .ok (.invokevirtual 128, 3) := by decide +kernel
theorem d_E_cost_22 : decode c_E_cost 22 = .ok (.ireturn, 1) := by decide +kernel
set_option maxHeartbeats 1000000 in
set_option maxRecDepth 100000 in
theorem t_E_cost_IB (l : Launch) (D : va_G) (cI cL cZ cS cY : ClassId) (ad : Nat → Nat) (n : Nat) (sh ra plv pco : Int) (ln cb la : Nat → Int) (cu cl fu fl : Nat → Nat) (ys yl yp : Nat → Int) (y z : Int) (hy : -2147483648 ≤ y ∧ y < 2147483648) (hz : -2147483648 ≤ z ∧ z < 2147483648) (hbad : ¬ ((0 ≤ y ∧ y < 6) ∧ 0 ≤ z ∧ z < 5)) (hE : eh_ES n sh ra ln cb la cu cl fu fl ys yl yp) (hl0 : l.stackTraces = false) : eh_T l y_E_cost k_E_cost 6 89 D classes [(cI, .int), (cL, .long), (cZ, .boolean), (cS, .object "EarthHauls$Section"), (cY, .object "EarthHauls$Yard")] [.ref (ad 0), .int (eI y), .int (eI z)] [((ad 0), .inr (4, [.ref (ad 1), .ref (ad 2), .ref (ad 3), .ref (ad 4), .ref (ad 5), .ref (ad 24), .int (eI ((n : Nat) : Int)), .int (eI sh), .int (eI ra), .int (eI plv), .long (eL pco)])), ((ad 1), .inl (cS, 5, .inr (.inr (.inr (.inr (eh_o5 (ad 6) (ad 7) (ad 8) (ad 9) (ad 10))))))), ((ad 2), aI cI 4 ln), ((ad 3), aI cZ 3 cb), ((ad 4), .inl (cY, 3, .inr (.inr (.inr (.inr (eh_o3 (ad 21) (ad 22) (ad 23))))))), ((ad 5), aI cI 30 la), ((ad 6), .inr (2, [.ref (ad 11), .ref (ad 16)])), ((ad 7), .inr (2, [.ref (ad 12), .ref (ad 17)])), ((ad 8), .inr (2, [.ref (ad 13), .ref (ad 18)])), ((ad 9), .inr (2, [.ref (ad 14), .ref (ad 19)])), ((ad 10), .inr (2, [.ref (ad 15), .ref (ad 20)])), ((ad 11), .inr (0, [.long (eL ((cu 0 : Nat) : Int)), .long (eL ((cl 0 : Nat) : Int))])), ((ad 12), .inr (0, [.long (eL ((cu 1 : Nat) : Int)), .long (eL ((cl 1 : Nat) : Int))])), ((ad 13), .inr (0, [.long (eL ((cu 2 : Nat) : Int)), .long (eL ((cl 2 : Nat) : Int))])), ((ad 14), .inr (0, [.long (eL ((cu 3 : Nat) : Int)), .long (eL ((cl 3 : Nat) : Int))])), ((ad 15), .inr (0, [.long (eL ((cu 4 : Nat) : Int)), .long (eL ((cl 4 : Nat) : Int))])), ((ad 16), .inr (0, [.long (eL ((fu 0 : Nat) : Int)), .long (eL ((fl 0 : Nat) : Int))])), ((ad 17), .inr (0, [.long (eL ((fu 1 : Nat) : Int)), .long (eL ((fl 1 : Nat) : Int))])), ((ad 18), .inr (0, [.long (eL ((fu 2 : Nat) : Int)), .long (eL ((fl 2 : Nat) : Int))])), ((ad 19), .inr (0, [.long (eL ((fu 3 : Nat) : Int)), .long (eL ((fl 3 : Nat) : Int))])), ((ad 20), .inr (0, [.long (eL ((fu 4 : Nat) : Int)), .long (eL ((fl 4 : Nat) : Int))])), ((ad 21), .inr (3, [.int (eI (ys 0)), .int (eI (yl 0)), .int (eI (yp 0))])), ((ad 22), .inr (3, [.int (eI (ys 1)), .int (eI (yl 1)), .int (eI (yp 1))])), ((ad 23), .inr (3, [.int (eI (ys 2)), .int (eI (yl 2)), .int (eI (yp 2))]))] eh_IB := by
  refine eh_T.ofW (cc := c_E_cost) (maxL := 3) (ret := (some .int)) hl0 (by decide) ?_
  intro p e s m args below meth c s₁ B hml hex htr hv
  obtain ⟨hargs, hP, hK, hN, hst⟩ := hv
  have hx := B.exec
  have hb := B.bytes
  have hrt := B.returns
  have hts := atoms_spec (ws := k_E_cost :: ew_t) B.pre
  have htb : ∀ w ∈ ew_t, w.before args s = true := fun w h => hts w (List.mem_cons_of_mem _ h)
  have hown : s.vm.findClass "EarthHauls" = some m.cls := findClass_of_methodNamed B.named
  have hlocks := B.notSynchronized
  have hE9 : entryFrame m args 3 = entryFrame m ([.ref (ad 0), .int (eI y), .int (eI z)] : List Value).toArray 3 := by rw [hargs]
  rw [hE9]
  clear hE9 hts B hargs
  generalize hRe : (headSpec _ _).room = R
  have hR1 : R.frames = 6 := by rw [← hRe]; rfl
  have hR2 : R.locals = 89 := by rw [← hRe]; rfl
  have hR3 : R.cells = 1 := by rw [← hRe]; rfl
  have hR4 : R.slots = 6 := by rw [← hRe]; rfl
  clear hRe
  generalize hQ : eh_TQ below _ s = Q
  have hP : va_P D classes [((ad 0), .inr (4, [.ref (ad 1), .ref (ad 2), .ref (ad 3), .ref (ad 4), .ref (ad 5), .ref (ad 24), .int (eI ((n : Nat) : Int)), .int (eI sh), .int (eI ra), .int (eI plv), .long (eL pco)])), ((ad 1), .inl (cS, 5, .inr (.inr (.inr (.inr (eh_o5 (ad 6) (ad 7) (ad 8) (ad 9) (ad 10))))))), ((ad 2), aI cI 4 ln), ((ad 3), aI cZ 3 cb), ((ad 4), .inl (cY, 3, .inr (.inr (.inr (.inr (eh_o3 (ad 21) (ad 22) (ad 23))))))), ((ad 5), aI cI 30 la), ((ad 6), .inr (2, [.ref (ad 11), .ref (ad 16)])), ((ad 7), .inr (2, [.ref (ad 12), .ref (ad 17)])), ((ad 8), .inr (2, [.ref (ad 13), .ref (ad 18)])), ((ad 9), .inr (2, [.ref (ad 14), .ref (ad 19)])), ((ad 10), .inr (2, [.ref (ad 15), .ref (ad 20)])), ((ad 11), .inr (0, [.long (eL ((cu 0 : Nat) : Int)), .long (eL ((cl 0 : Nat) : Int))])), ((ad 12), .inr (0, [.long (eL ((cu 1 : Nat) : Int)), .long (eL ((cl 1 : Nat) : Int))])), ((ad 13), .inr (0, [.long (eL ((cu 2 : Nat) : Int)), .long (eL ((cl 2 : Nat) : Int))])), ((ad 14), .inr (0, [.long (eL ((cu 3 : Nat) : Int)), .long (eL ((cl 3 : Nat) : Int))])), ((ad 15), .inr (0, [.long (eL ((cu 4 : Nat) : Int)), .long (eL ((cl 4 : Nat) : Int))])), ((ad 16), .inr (0, [.long (eL ((fu 0 : Nat) : Int)), .long (eL ((fl 0 : Nat) : Int))])), ((ad 17), .inr (0, [.long (eL ((fu 1 : Nat) : Int)), .long (eL ((fl 1 : Nat) : Int))])), ((ad 18), .inr (0, [.long (eL ((fu 2 : Nat) : Int)), .long (eL ((fl 2 : Nat) : Int))])), ((ad 19), .inr (0, [.long (eL ((fu 3 : Nat) : Int)), .long (eL ((fl 3 : Nat) : Int))])), ((ad 20), .inr (0, [.long (eL ((fu 4 : Nat) : Int)), .long (eL ((fl 4 : Nat) : Int))])), ((ad 21), .inr (3, [.int (eI (ys 0)), .int (eI (yl 0)), .int (eI (yp 0))])), ((ad 22), .inr (3, [.int (eI (ys 1)), .int (eI (yl 1)), .int (eI (yp 1))])), ((ad 23), .inr (3, [.int (eI (ys 2)), .int (eI (yl 2)), .int (eI (yp 2))]))] s.heap := hP
  have hl := lv_entry ([.ref (ad 0), .int (eI y), .int (eI z)]) (n := 3) (Nat.le_of_ble_eq_true rfl)
  rw [lg_entry_eq]
  generalize (lg_sl ([.ref (ad 0), .int (eI y), .int (eI z)]) ++ List.replicate (3 - (lg_sl ([.ref (ad 0), .int (eI y), .int (eI z)])).length) Slot.unset).toArray = ls at hl ⊢
  have hl : lv_has ls 3 [(0, .ref (ad 0)), (1, .int (eI y)), (2, .int (eI z))] := hl
  have hn5 := hE.1
  refine lv_iload_n hx hb d_E_cost_0 rfl (lv_at hl 1 rfl) ?_
  refine lv_iload_n hx hb d_E_cost_1 rfl (lv_at hl 2 rfl) ?_
  refine eh_cRS (As := [.int (eI y), .int (eI z)]) (rest := []) (v := .int (eI (if (0 ≤ y ∧ y < 6) ∧ 0 ≤ z ∧ z < 5 then 1 else 0))) hx hb hml hown htb hN (r_E_isPair l D y z hy hz) 2 ⟨tb_516, tb_517, tb_1, kin_E_isPair⟩ dv_E_isPair ⟨by rw [hR1]; decide, by rw [hR2]; decide⟩ hK hP [] rfl [] rfl rfl rfl hl.1 (Nat.le_of_ble_eq_true rfl) d_E_cost_2 ⟨Nat.zero_le _, Nat.zero_le _⟩ ?_
  refine we_if_ne (tgt := 16) hx hb (by constructor <;> split <;> omega) d_E_cost_5 rfl (fun hc5 => absurd hc5 (by rw [if_neg hbad]; omega)) (fun hc5 => ?_)
  subst hQ
  exact eh_throw0 (own := "EarthHauls") (names := eh_up) (ic := 84) (ix := 82) hx hb htr hown (by decide +kernel) (by decide +kernel) (eh_own eh_ow_IB htb hN hst) (htb _ tb_457) (htb _ tb_458) (htb _ tb_14) hex hlocks (hl.1.trans hml.symm) (by rw [hR1]; decide) (by rw [hR2]; decide) (by rw [hR3]; decide) (by rw [hR4]; decide) d_E_cost_8 d_E_cost_11 d_E_cost_12 d_E_cost_15
abbrev c_E_hauled : ByteArray := prog_1_method_13_code
def y_E_hauled : MethodName := ⟨"EarthHauls", "hauled", "(II)I"⟩
abbrev k_E_hauled : Cond := .code y_E_hauled c_E_hauled 3 (some .int)
theorem kin_E_hauled : k_E_hauled ∈ ew_t := tb_525
theorem dv_E_hauled : eh_dV y_E_hauled "EarthHauls" 2 := ⟨rfl, by decide, by decide, by decide +kernel⟩
theorem d_E_hauled_0 : decode c_E_hauled 0 = .ok (.iload_n 1, 1) := by decide +kernel
theorem d_E_hauled_1 : decode c_E_hauled 1 = .ok (.iload_n 2, 1) := by decide +kernel
theorem d_E_hauled_2 : decode c_E_hauled 2 = .ok (.invokestatic 124, 3) := by decide +kernel
theorem d_E_hauled_5 : decode c_E_hauled 5 = .ok (.ifCond .ne 11, 3) := by decide +kernel
theorem d_E_hauled_8 : decode c_E_hauled 8 = .ok (.new 82, 3) := by decide +kernel
theorem d_E_hauled_11 : decode c_E_hauled 11 = .ok (.dup, 1) := by decide +kernel
theorem d_E_hauled_12 : decode c_E_hauled 12 = .ok (.invokespecial 84, 3) := by decide +kernel
theorem d_E_hauled_15 : decode c_E_hauled 15 = .ok (.athrow, 1) := by decide +kernel
theorem d_E_hauled_16 : decode c_E_hauled 16 = .ok (.aload_n 0, 1) := by decide +kernel
theorem d_E_hauled_17 : decode c_E_hauled 17 = .ok (.invokevirtual 132, 3) := by decide +kernel
theorem d_E_hauled_20 : decode c_E_hauled 20 = .ok (.aload_n 0, 1) := by decide +kernel
theorem d_E_hauled_21 : decode c_E_hauled 21 = .ok (.getfield 135, 3) := by decide +kernel
theorem d_E_hauled_24 : decode c_E_hauled 24 = .ok (.ldc2_w 138, 3) := by decide +kernel
theorem d_E_hauled_27 : decode c_E_hauled 27 = .ok (.lcmp, 1) := by decide +kernel
theorem d_E_hauled_28 : decode c_E_hauled 28 = .ok (.ifCond .ne 7, 3) := by decide +kernel
theorem d_E_hauled_31 : decode c_E_hauled 31 = .ok (.iconst 0, 1) := by decide +kernel
theorem d_E_hauled_32 : decode c_E_hauled 32 = .ok (.goto 12, 3) := by decide +kernel
theorem d_E_hauled_35 : decode c_E_hauled 35 = .ok (.aload_n 0, 1) := by decide +kernel
theorem d_E_hauled_36 : decode c_E_hauled 36 = .ok (.getfield 35, 3) := by decide +kernel
theorem d_E_hauled_39 : decode c_E_hauled 39 = .ok (.iload_n 1, 1) := by decide +kernel
theorem d_E_hauled_40 : decode c_E_hauled 40 = .ok (.iload_n 2, 1) := by decide +kernel
theorem d_E_hauled_41 : decode c_E_hauled 41 = .ok (.invokevirtual 140, 3) := by decide +kernel
theorem d_E_hauled_44 : decode c_E_hauled 44 = .ok (.ireturn, 1) := by decide +kernel
set_option maxHeartbeats 1000000 in
set_option maxRecDepth 100000 in
theorem t_E_hauled_IB (l : Launch) (D : va_G) (cI cL cZ cS cY : ClassId) (ad : Nat → Nat) (n : Nat) (sh ra plv pco : Int) (ln cb la : Nat → Int) (cu cl fu fl : Nat → Nat) (ys yl yp : Nat → Int) (y z : Int) (hy : -2147483648 ≤ y ∧ y < 2147483648) (hz : -2147483648 ≤ z ∧ z < 2147483648) (hbad : ¬ ((0 ≤ y ∧ y < 6) ∧ 0 ≤ z ∧ z < 5)) (hE : eh_ES n sh ra ln cb la cu cl fu fl ys yl yp) (hl0 : l.stackTraces = false) : eh_T l y_E_hauled k_E_hauled 6 89 D classes [(cI, .int), (cL, .long), (cZ, .boolean), (cS, .object "EarthHauls$Section"), (cY, .object "EarthHauls$Yard")] [.ref (ad 0), .int (eI y), .int (eI z)] [((ad 0), .inr (4, [.ref (ad 1), .ref (ad 2), .ref (ad 3), .ref (ad 4), .ref (ad 5), .ref (ad 24), .int (eI ((n : Nat) : Int)), .int (eI sh), .int (eI ra), .int (eI plv), .long (eL pco)])), ((ad 1), .inl (cS, 5, .inr (.inr (.inr (.inr (eh_o5 (ad 6) (ad 7) (ad 8) (ad 9) (ad 10))))))), ((ad 2), aI cI 4 ln), ((ad 3), aI cZ 3 cb), ((ad 4), .inl (cY, 3, .inr (.inr (.inr (.inr (eh_o3 (ad 21) (ad 22) (ad 23))))))), ((ad 5), aI cI 30 la), ((ad 6), .inr (2, [.ref (ad 11), .ref (ad 16)])), ((ad 7), .inr (2, [.ref (ad 12), .ref (ad 17)])), ((ad 8), .inr (2, [.ref (ad 13), .ref (ad 18)])), ((ad 9), .inr (2, [.ref (ad 14), .ref (ad 19)])), ((ad 10), .inr (2, [.ref (ad 15), .ref (ad 20)])), ((ad 11), .inr (0, [.long (eL ((cu 0 : Nat) : Int)), .long (eL ((cl 0 : Nat) : Int))])), ((ad 12), .inr (0, [.long (eL ((cu 1 : Nat) : Int)), .long (eL ((cl 1 : Nat) : Int))])), ((ad 13), .inr (0, [.long (eL ((cu 2 : Nat) : Int)), .long (eL ((cl 2 : Nat) : Int))])), ((ad 14), .inr (0, [.long (eL ((cu 3 : Nat) : Int)), .long (eL ((cl 3 : Nat) : Int))])), ((ad 15), .inr (0, [.long (eL ((cu 4 : Nat) : Int)), .long (eL ((cl 4 : Nat) : Int))])), ((ad 16), .inr (0, [.long (eL ((fu 0 : Nat) : Int)), .long (eL ((fl 0 : Nat) : Int))])), ((ad 17), .inr (0, [.long (eL ((fu 1 : Nat) : Int)), .long (eL ((fl 1 : Nat) : Int))])), ((ad 18), .inr (0, [.long (eL ((fu 2 : Nat) : Int)), .long (eL ((fl 2 : Nat) : Int))])), ((ad 19), .inr (0, [.long (eL ((fu 3 : Nat) : Int)), .long (eL ((fl 3 : Nat) : Int))])), ((ad 20), .inr (0, [.long (eL ((fu 4 : Nat) : Int)), .long (eL ((fl 4 : Nat) : Int))])), ((ad 21), .inr (3, [.int (eI (ys 0)), .int (eI (yl 0)), .int (eI (yp 0))])), ((ad 22), .inr (3, [.int (eI (ys 1)), .int (eI (yl 1)), .int (eI (yp 1))])), ((ad 23), .inr (3, [.int (eI (ys 2)), .int (eI (yl 2)), .int (eI (yp 2))]))] eh_IB := by
  refine eh_T.ofW (cc := c_E_hauled) (maxL := 3) (ret := (some .int)) hl0 (by decide) ?_
  intro p e s m args below meth c s₁ B hml hex htr hv
  obtain ⟨hargs, hP, hK, hN, hst⟩ := hv
  have hx := B.exec
  have hb := B.bytes
  have hrt := B.returns
  have hts := atoms_spec (ws := k_E_hauled :: ew_t) B.pre
  have htb : ∀ w ∈ ew_t, w.before args s = true := fun w h => hts w (List.mem_cons_of_mem _ h)
  have hown : s.vm.findClass "EarthHauls" = some m.cls := findClass_of_methodNamed B.named
  have hlocks := B.notSynchronized
  have hE9 : entryFrame m args 3 = entryFrame m ([.ref (ad 0), .int (eI y), .int (eI z)] : List Value).toArray 3 := by rw [hargs]
  rw [hE9]
  clear hE9 hts B hargs
  generalize hRe : (headSpec _ _).room = R
  have hR1 : R.frames = 6 := by rw [← hRe]; rfl
  have hR2 : R.locals = 89 := by rw [← hRe]; rfl
  have hR3 : R.cells = 1 := by rw [← hRe]; rfl
  have hR4 : R.slots = 6 := by rw [← hRe]; rfl
  clear hRe
  generalize hQ : eh_TQ below _ s = Q
  have hP : va_P D classes [((ad 0), .inr (4, [.ref (ad 1), .ref (ad 2), .ref (ad 3), .ref (ad 4), .ref (ad 5), .ref (ad 24), .int (eI ((n : Nat) : Int)), .int (eI sh), .int (eI ra), .int (eI plv), .long (eL pco)])), ((ad 1), .inl (cS, 5, .inr (.inr (.inr (.inr (eh_o5 (ad 6) (ad 7) (ad 8) (ad 9) (ad 10))))))), ((ad 2), aI cI 4 ln), ((ad 3), aI cZ 3 cb), ((ad 4), .inl (cY, 3, .inr (.inr (.inr (.inr (eh_o3 (ad 21) (ad 22) (ad 23))))))), ((ad 5), aI cI 30 la), ((ad 6), .inr (2, [.ref (ad 11), .ref (ad 16)])), ((ad 7), .inr (2, [.ref (ad 12), .ref (ad 17)])), ((ad 8), .inr (2, [.ref (ad 13), .ref (ad 18)])), ((ad 9), .inr (2, [.ref (ad 14), .ref (ad 19)])), ((ad 10), .inr (2, [.ref (ad 15), .ref (ad 20)])), ((ad 11), .inr (0, [.long (eL ((cu 0 : Nat) : Int)), .long (eL ((cl 0 : Nat) : Int))])), ((ad 12), .inr (0, [.long (eL ((cu 1 : Nat) : Int)), .long (eL ((cl 1 : Nat) : Int))])), ((ad 13), .inr (0, [.long (eL ((cu 2 : Nat) : Int)), .long (eL ((cl 2 : Nat) : Int))])), ((ad 14), .inr (0, [.long (eL ((cu 3 : Nat) : Int)), .long (eL ((cl 3 : Nat) : Int))])), ((ad 15), .inr (0, [.long (eL ((cu 4 : Nat) : Int)), .long (eL ((cl 4 : Nat) : Int))])), ((ad 16), .inr (0, [.long (eL ((fu 0 : Nat) : Int)), .long (eL ((fl 0 : Nat) : Int))])), ((ad 17), .inr (0, [.long (eL ((fu 1 : Nat) : Int)), .long (eL ((fl 1 : Nat) : Int))])), ((ad 18), .inr (0, [.long (eL ((fu 2 : Nat) : Int)), .long (eL ((fl 2 : Nat) : Int))])), ((ad 19), .inr (0, [.long (eL ((fu 3 : Nat) : Int)), .long (eL ((fl 3 : Nat) : Int))])), ((ad 20), .inr (0, [.long (eL ((fu 4 : Nat) : Int)), .long (eL ((fl 4 : Nat) : Int))])), ((ad 21), .inr (3, [.int (eI (ys 0)), .int (eI (yl 0)), .int (eI (yp 0))])), ((ad 22), .inr (3, [.int (eI (ys 1)), .int (eI (yl 1)), .int (eI (yp 1))])), ((ad 23), .inr (3, [.int (eI (ys 2)), .int (eI (yl 2)), .int (eI (yp 2))]))] s.heap := hP
  have hl := lv_entry ([.ref (ad 0), .int (eI y), .int (eI z)]) (n := 3) (Nat.le_of_ble_eq_true rfl)
  rw [lg_entry_eq]
  generalize (lg_sl ([.ref (ad 0), .int (eI y), .int (eI z)]) ++ List.replicate (3 - (lg_sl ([.ref (ad 0), .int (eI y), .int (eI z)])).length) Slot.unset).toArray = ls at hl ⊢
  have hl : lv_has ls 3 [(0, .ref (ad 0)), (1, .int (eI y)), (2, .int (eI z))] := hl
  have hn5 := hE.1
  refine lv_iload_n hx hb d_E_hauled_0 rfl (lv_at hl 1 rfl) ?_
  refine lv_iload_n hx hb d_E_hauled_1 rfl (lv_at hl 2 rfl) ?_
  refine eh_cRS (As := [.int (eI y), .int (eI z)]) (rest := []) (v := .int (eI (if (0 ≤ y ∧ y < 6) ∧ 0 ≤ z ∧ z < 5 then 1 else 0))) hx hb hml hown htb hN (r_E_isPair l D y z hy hz) 2 ⟨tb_516, tb_517, tb_1, kin_E_isPair⟩ dv_E_isPair ⟨by rw [hR1]; decide, by rw [hR2]; decide⟩ hK hP [] rfl [] rfl rfl rfl hl.1 (Nat.le_of_ble_eq_true rfl) d_E_hauled_2 ⟨Nat.zero_le _, Nat.zero_le _⟩ ?_
  refine we_if_ne (tgt := 16) hx hb (by constructor <;> split <;> omega) d_E_hauled_5 rfl (fun hc5 => absurd hc5 (by rw [if_neg hbad]; omega)) (fun hc5 => ?_)
  subst hQ
  exact eh_throw0 (own := "EarthHauls") (names := eh_up) (ic := 84) (ix := 82) hx hb htr hown (by decide +kernel) (by decide +kernel) (eh_own eh_ow_IB htb hN hst) (htb _ tb_457) (htb _ tb_458) (htb _ tb_14) hex hlocks (hl.1.trans hml.symm) (by rw [hR1]; decide) (by rw [hR2]; decide) (by rw [hR3]; decide) (by rw [hR4]; decide) d_E_hauled_8 d_E_hauled_11 d_E_hauled_12 d_E_hauled_15
abbrev c_E_lay : ByteArray := prog_1_method_15_code
def y_E_lay : MethodName := ⟨"EarthHauls", "lay", "(III)V"⟩
abbrev k_E_lay : Cond := .code y_E_lay c_E_lay 4 none
theorem kin_E_lay : k_E_lay ∈ ew_t := tb_558
theorem dv_E_lay : eh_dV y_E_lay "EarthHauls" 3 := ⟨rfl, by decide, by decide, by decide +kernel⟩
theorem d_E_lay_0 : decode c_E_lay 0 = .ok (.iload_n 1, 1) := by decide +kernel
theorem d_E_lay_1 : decode c_E_lay 1 = .ok (.iload_n 2, 1) := by decide +kernel
theorem d_E_lay_2 : decode c_E_lay 2 = .ok (.invokestatic 124, 3) := by decide +kernel
theorem d_E_lay_5 : decode c_E_lay 5 = .ok (.ifCond .ne 11, 3) := by decide +kernel
theorem d_E_lay_8 : decode c_E_lay 8 = .ok (.new 82, 3) := by decide +kernel
theorem d_E_lay_11 : decode c_E_lay 11 = .ok (.dup, 1) := by decide +kernel
theorem d_E_lay_12 : decode c_E_lay 12 = .ok (.invokespecial 84, 3) := by decide +kernel
theorem d_E_lay_15 : decode c_E_lay 15 = .ok (.athrow, 1) := by decide +kernel
theorem d_E_lay_16 : decode c_E_lay 16 = .ok (.iload_n 3, 1) := by decide +kernel
theorem d_E_lay_17 : decode c_E_lay 17 = .ok (.invokestatic 88, 3) := by decide +kernel
theorem d_E_lay_20 : decode c_E_lay 20 = .ok (.ifCond .ne 11, 3) := by decide +kernel
theorem d_E_lay_23 : decode c_E_lay 23 = .ok (.new 54, 3) := by decide +kernel
theorem d_E_lay_26 : decode c_E_lay 26 = .ok (.dup, 1) := by decide +kernel
theorem d_E_lay_27 : decode c_E_lay 27 = .ok (.invokespecial 56, 3) := by decide +kernel
theorem d_E_lay_30 : decode c_E_lay 30 = .ok (.athrow, 1) := by decide +kernel
theorem d_E_lay_31 : decode c_E_lay 31 = .ok (.aload_n 0, 1) := by decide +kernel
theorem d_E_lay_32 : decode c_E_lay 32 = .ok (.getfield 29, 3) := by decide +kernel
theorem d_E_lay_35 : decode c_E_lay 35 = .ok (.iload_n 1, 1) := by decide +kernel
theorem d_E_lay_36 : decode c_E_lay 36 = .ok (.iload_n 2, 1) := by decide +kernel
theorem d_E_lay_37 : decode c_E_lay 37 = .ok (.invokestatic 150, 3) := by decide +kernel
theorem d_E_lay_40 : decode c_E_lay 40 = .ok (.iload_n 3, 1) := by decide +kernel
theorem d_E_lay_41 : decode c_E_lay 41 = .ok (.iastore, 1) := by decide +kernel
theorem d_E_lay_42 : decode c_E_lay 42 = .ok (.return_, 1) := by decide +kernel
set_option maxHeartbeats 1000000 in
set_option maxRecDepth 100000 in
theorem t_E_lay_IB (l : Launch) (D : va_G) (cI cL cZ cS cY : ClassId) (ad : Nat → Nat) (n : Nat) (sh ra plv pco : Int) (ln cb la : Nat → Int) (cu cl fu fl : Nat → Nat) (ys yl yp : Nat → Int) (y z w : Int) (hy : -2147483648 ≤ y ∧ y < 2147483648) (hz : -2147483648 ≤ z ∧ z < 2147483648) (hw : -2147483648 ≤ w ∧ w < 2147483648) (hbad : ¬ ((0 ≤ y ∧ y < 6) ∧ 0 ≤ z ∧ z < 5)) (hE : eh_ES n sh ra ln cb la cu cl fu fl ys yl yp) (hl0 : l.stackTraces = false) : eh_T l y_E_lay k_E_lay 6 89 D classes [(cI, .int), (cL, .long), (cZ, .boolean), (cS, .object "EarthHauls$Section"), (cY, .object "EarthHauls$Yard")] [.ref (ad 0), .int (eI y), .int (eI z), .int (eI w)] [((ad 0), .inr (4, [.ref (ad 1), .ref (ad 2), .ref (ad 3), .ref (ad 4), .ref (ad 5), .ref (ad 24), .int (eI ((n : Nat) : Int)), .int (eI sh), .int (eI ra), .int (eI plv), .long (eL pco)])), ((ad 1), .inl (cS, 5, .inr (.inr (.inr (.inr (eh_o5 (ad 6) (ad 7) (ad 8) (ad 9) (ad 10))))))), ((ad 2), aI cI 4 ln), ((ad 3), aI cZ 3 cb), ((ad 4), .inl (cY, 3, .inr (.inr (.inr (.inr (eh_o3 (ad 21) (ad 22) (ad 23))))))), ((ad 5), aI cI 30 la), ((ad 6), .inr (2, [.ref (ad 11), .ref (ad 16)])), ((ad 7), .inr (2, [.ref (ad 12), .ref (ad 17)])), ((ad 8), .inr (2, [.ref (ad 13), .ref (ad 18)])), ((ad 9), .inr (2, [.ref (ad 14), .ref (ad 19)])), ((ad 10), .inr (2, [.ref (ad 15), .ref (ad 20)])), ((ad 11), .inr (0, [.long (eL ((cu 0 : Nat) : Int)), .long (eL ((cl 0 : Nat) : Int))])), ((ad 12), .inr (0, [.long (eL ((cu 1 : Nat) : Int)), .long (eL ((cl 1 : Nat) : Int))])), ((ad 13), .inr (0, [.long (eL ((cu 2 : Nat) : Int)), .long (eL ((cl 2 : Nat) : Int))])), ((ad 14), .inr (0, [.long (eL ((cu 3 : Nat) : Int)), .long (eL ((cl 3 : Nat) : Int))])), ((ad 15), .inr (0, [.long (eL ((cu 4 : Nat) : Int)), .long (eL ((cl 4 : Nat) : Int))])), ((ad 16), .inr (0, [.long (eL ((fu 0 : Nat) : Int)), .long (eL ((fl 0 : Nat) : Int))])), ((ad 17), .inr (0, [.long (eL ((fu 1 : Nat) : Int)), .long (eL ((fl 1 : Nat) : Int))])), ((ad 18), .inr (0, [.long (eL ((fu 2 : Nat) : Int)), .long (eL ((fl 2 : Nat) : Int))])), ((ad 19), .inr (0, [.long (eL ((fu 3 : Nat) : Int)), .long (eL ((fl 3 : Nat) : Int))])), ((ad 20), .inr (0, [.long (eL ((fu 4 : Nat) : Int)), .long (eL ((fl 4 : Nat) : Int))])), ((ad 21), .inr (3, [.int (eI (ys 0)), .int (eI (yl 0)), .int (eI (yp 0))])), ((ad 22), .inr (3, [.int (eI (ys 1)), .int (eI (yl 1)), .int (eI (yp 1))])), ((ad 23), .inr (3, [.int (eI (ys 2)), .int (eI (yl 2)), .int (eI (yp 2))]))] eh_IB := by
  refine eh_T.ofW (cc := c_E_lay) (maxL := 4) (ret := none) hl0 (by decide) ?_
  intro p e s m args below meth c s₁ B hml hex htr hv
  obtain ⟨hargs, hP, hK, hN, hst⟩ := hv
  have hx := B.exec
  have hb := B.bytes
  have hrt := B.returns
  have hts := atoms_spec (ws := k_E_lay :: ew_t) B.pre
  have htb : ∀ w ∈ ew_t, w.before args s = true := fun w h => hts w (List.mem_cons_of_mem _ h)
  have hown : s.vm.findClass "EarthHauls" = some m.cls := findClass_of_methodNamed B.named
  have hlocks := B.notSynchronized
  have hE9 : entryFrame m args 4 = entryFrame m ([.ref (ad 0), .int (eI y), .int (eI z), .int (eI w)] : List Value).toArray 4 := by rw [hargs]
  rw [hE9]
  clear hE9 hts B hargs
  generalize hRe : (headSpec _ _).room = R
  have hR1 : R.frames = 6 := by rw [← hRe]; rfl
  have hR2 : R.locals = 89 := by rw [← hRe]; rfl
  have hR3 : R.cells = 1 := by rw [← hRe]; rfl
  have hR4 : R.slots = 6 := by rw [← hRe]; rfl
  clear hRe
  generalize hQ : eh_TQ below _ s = Q
  have hP : va_P D classes [((ad 0), .inr (4, [.ref (ad 1), .ref (ad 2), .ref (ad 3), .ref (ad 4), .ref (ad 5), .ref (ad 24), .int (eI ((n : Nat) : Int)), .int (eI sh), .int (eI ra), .int (eI plv), .long (eL pco)])), ((ad 1), .inl (cS, 5, .inr (.inr (.inr (.inr (eh_o5 (ad 6) (ad 7) (ad 8) (ad 9) (ad 10))))))), ((ad 2), aI cI 4 ln), ((ad 3), aI cZ 3 cb), ((ad 4), .inl (cY, 3, .inr (.inr (.inr (.inr (eh_o3 (ad 21) (ad 22) (ad 23))))))), ((ad 5), aI cI 30 la), ((ad 6), .inr (2, [.ref (ad 11), .ref (ad 16)])), ((ad 7), .inr (2, [.ref (ad 12), .ref (ad 17)])), ((ad 8), .inr (2, [.ref (ad 13), .ref (ad 18)])), ((ad 9), .inr (2, [.ref (ad 14), .ref (ad 19)])), ((ad 10), .inr (2, [.ref (ad 15), .ref (ad 20)])), ((ad 11), .inr (0, [.long (eL ((cu 0 : Nat) : Int)), .long (eL ((cl 0 : Nat) : Int))])), ((ad 12), .inr (0, [.long (eL ((cu 1 : Nat) : Int)), .long (eL ((cl 1 : Nat) : Int))])), ((ad 13), .inr (0, [.long (eL ((cu 2 : Nat) : Int)), .long (eL ((cl 2 : Nat) : Int))])), ((ad 14), .inr (0, [.long (eL ((cu 3 : Nat) : Int)), .long (eL ((cl 3 : Nat) : Int))])), ((ad 15), .inr (0, [.long (eL ((cu 4 : Nat) : Int)), .long (eL ((cl 4 : Nat) : Int))])), ((ad 16), .inr (0, [.long (eL ((fu 0 : Nat) : Int)), .long (eL ((fl 0 : Nat) : Int))])), ((ad 17), .inr (0, [.long (eL ((fu 1 : Nat) : Int)), .long (eL ((fl 1 : Nat) : Int))])), ((ad 18), .inr (0, [.long (eL ((fu 2 : Nat) : Int)), .long (eL ((fl 2 : Nat) : Int))])), ((ad 19), .inr (0, [.long (eL ((fu 3 : Nat) : Int)), .long (eL ((fl 3 : Nat) : Int))])), ((ad 20), .inr (0, [.long (eL ((fu 4 : Nat) : Int)), .long (eL ((fl 4 : Nat) : Int))])), ((ad 21), .inr (3, [.int (eI (ys 0)), .int (eI (yl 0)), .int (eI (yp 0))])), ((ad 22), .inr (3, [.int (eI (ys 1)), .int (eI (yl 1)), .int (eI (yp 1))])), ((ad 23), .inr (3, [.int (eI (ys 2)), .int (eI (yl 2)), .int (eI (yp 2))]))] s.heap := hP
  have hl := lv_entry ([.ref (ad 0), .int (eI y), .int (eI z), .int (eI w)]) (n := 4) (Nat.le_of_ble_eq_true rfl)
  rw [lg_entry_eq]
  generalize (lg_sl ([.ref (ad 0), .int (eI y), .int (eI z), .int (eI w)]) ++ List.replicate (4 - (lg_sl ([.ref (ad 0), .int (eI y), .int (eI z), .int (eI w)])).length) Slot.unset).toArray = ls at hl ⊢
  have hl : lv_has ls 4 [(0, .ref (ad 0)), (1, .int (eI y)), (2, .int (eI z)), (3, .int (eI w))] := hl
  have hn5 := hE.1
  refine lv_iload_n hx hb d_E_lay_0 rfl (lv_at hl 1 rfl) ?_
  refine lv_iload_n hx hb d_E_lay_1 rfl (lv_at hl 2 rfl) ?_
  refine eh_cRS (As := [.int (eI y), .int (eI z)]) (rest := []) (v := .int (eI (if (0 ≤ y ∧ y < 6) ∧ 0 ≤ z ∧ z < 5 then 1 else 0))) hx hb hml hown htb hN (r_E_isPair l D y z hy hz) 2 ⟨tb_516, tb_517, tb_1, kin_E_isPair⟩ dv_E_isPair ⟨by rw [hR1]; decide, by rw [hR2]; decide⟩ hK hP [] rfl [] rfl rfl rfl hl.1 (Nat.le_of_ble_eq_true rfl) d_E_lay_2 ⟨Nat.zero_le _, Nat.zero_le _⟩ ?_
  refine we_if_ne (tgt := 16) hx hb (by constructor <;> split <;> omega) d_E_lay_5 rfl (fun hc5 => absurd hc5 (by rw [if_neg hbad]; omega)) (fun hc5 => ?_)
  subst hQ
  exact eh_throw0 (own := "EarthHauls") (names := eh_up) (ic := 84) (ix := 82) hx hb htr hown (by decide +kernel) (by decide +kernel) (eh_own eh_ow_IB htb hN hst) (htb _ tb_457) (htb _ tb_458) (htb _ tb_14) hex hlocks (hl.1.trans hml.symm) (by rw [hR1]; decide) (by rw [hR2]; decide) (by rw [hR3]; decide) (by rw [hR4]; decide) d_E_lay_8 d_E_lay_11 d_E_lay_12 d_E_lay_15
set_option maxHeartbeats 1000000 in
set_option maxRecDepth 100000 in
theorem t_E_lay_IA (l : Launch) (D : va_G) (cI cL cZ cS cY : ClassId) (ad : Nat → Nat) (n : Nat) (sh ra plv pco : Int) (ln cb la : Nat → Int) (cu cl fu fl : Nat → Nat) (ys yl yp : Nat → Int) (y z w : Int) (hy : -2147483648 ≤ y ∧ y < 2147483648) (hz : -2147483648 ≤ z ∧ z < 2147483648) (hw : -2147483648 ≤ w ∧ w < 2147483648) (hgood : ((0 ≤ y ∧ y < 6) ∧ 0 ≤ z ∧ z < 5)) (hbad : ¬ (0 ≤ w ∧ w ≤ 100000000)) (hE : eh_ES n sh ra ln cb la cu cl fu fl ys yl yp) (hl0 : l.stackTraces = false) : eh_T l y_E_lay k_E_lay 6 89 D classes [(cI, .int), (cL, .long), (cZ, .boolean), (cS, .object "EarthHauls$Section"), (cY, .object "EarthHauls$Yard")] [.ref (ad 0), .int (eI y), .int (eI z), .int (eI w)] [((ad 0), .inr (4, [.ref (ad 1), .ref (ad 2), .ref (ad 3), .ref (ad 4), .ref (ad 5), .ref (ad 24), .int (eI ((n : Nat) : Int)), .int (eI sh), .int (eI ra), .int (eI plv), .long (eL pco)])), ((ad 1), .inl (cS, 5, .inr (.inr (.inr (.inr (eh_o5 (ad 6) (ad 7) (ad 8) (ad 9) (ad 10))))))), ((ad 2), aI cI 4 ln), ((ad 3), aI cZ 3 cb), ((ad 4), .inl (cY, 3, .inr (.inr (.inr (.inr (eh_o3 (ad 21) (ad 22) (ad 23))))))), ((ad 5), aI cI 30 la), ((ad 6), .inr (2, [.ref (ad 11), .ref (ad 16)])), ((ad 7), .inr (2, [.ref (ad 12), .ref (ad 17)])), ((ad 8), .inr (2, [.ref (ad 13), .ref (ad 18)])), ((ad 9), .inr (2, [.ref (ad 14), .ref (ad 19)])), ((ad 10), .inr (2, [.ref (ad 15), .ref (ad 20)])), ((ad 11), .inr (0, [.long (eL ((cu 0 : Nat) : Int)), .long (eL ((cl 0 : Nat) : Int))])), ((ad 12), .inr (0, [.long (eL ((cu 1 : Nat) : Int)), .long (eL ((cl 1 : Nat) : Int))])), ((ad 13), .inr (0, [.long (eL ((cu 2 : Nat) : Int)), .long (eL ((cl 2 : Nat) : Int))])), ((ad 14), .inr (0, [.long (eL ((cu 3 : Nat) : Int)), .long (eL ((cl 3 : Nat) : Int))])), ((ad 15), .inr (0, [.long (eL ((cu 4 : Nat) : Int)), .long (eL ((cl 4 : Nat) : Int))])), ((ad 16), .inr (0, [.long (eL ((fu 0 : Nat) : Int)), .long (eL ((fl 0 : Nat) : Int))])), ((ad 17), .inr (0, [.long (eL ((fu 1 : Nat) : Int)), .long (eL ((fl 1 : Nat) : Int))])), ((ad 18), .inr (0, [.long (eL ((fu 2 : Nat) : Int)), .long (eL ((fl 2 : Nat) : Int))])), ((ad 19), .inr (0, [.long (eL ((fu 3 : Nat) : Int)), .long (eL ((fl 3 : Nat) : Int))])), ((ad 20), .inr (0, [.long (eL ((fu 4 : Nat) : Int)), .long (eL ((fl 4 : Nat) : Int))])), ((ad 21), .inr (3, [.int (eI (ys 0)), .int (eI (yl 0)), .int (eI (yp 0))])), ((ad 22), .inr (3, [.int (eI (ys 1)), .int (eI (yl 1)), .int (eI (yp 1))])), ((ad 23), .inr (3, [.int (eI (ys 2)), .int (eI (yl 2)), .int (eI (yp 2))]))] eh_IA := by
  refine eh_T.ofW (cc := c_E_lay) (maxL := 4) (ret := none) hl0 (by decide) ?_
  intro p e s m args below meth c s₁ B hml hex htr hv
  obtain ⟨hargs, hP, hK, hN, hst⟩ := hv
  have hx := B.exec
  have hb := B.bytes
  have hrt := B.returns
  have hts := atoms_spec (ws := k_E_lay :: ew_t) B.pre
  have htb : ∀ w ∈ ew_t, w.before args s = true := fun w h => hts w (List.mem_cons_of_mem _ h)
  have hown : s.vm.findClass "EarthHauls" = some m.cls := findClass_of_methodNamed B.named
  have hlocks := B.notSynchronized
  have hE9 : entryFrame m args 4 = entryFrame m ([.ref (ad 0), .int (eI y), .int (eI z), .int (eI w)] : List Value).toArray 4 := by rw [hargs]
  rw [hE9]
  clear hE9 hts B hargs
  generalize hRe : (headSpec _ _).room = R
  have hR1 : R.frames = 6 := by rw [← hRe]; rfl
  have hR2 : R.locals = 89 := by rw [← hRe]; rfl
  have hR3 : R.cells = 1 := by rw [← hRe]; rfl
  have hR4 : R.slots = 6 := by rw [← hRe]; rfl
  clear hRe
  generalize hQ : eh_TQ below _ s = Q
  have hP : va_P D classes [((ad 0), .inr (4, [.ref (ad 1), .ref (ad 2), .ref (ad 3), .ref (ad 4), .ref (ad 5), .ref (ad 24), .int (eI ((n : Nat) : Int)), .int (eI sh), .int (eI ra), .int (eI plv), .long (eL pco)])), ((ad 1), .inl (cS, 5, .inr (.inr (.inr (.inr (eh_o5 (ad 6) (ad 7) (ad 8) (ad 9) (ad 10))))))), ((ad 2), aI cI 4 ln), ((ad 3), aI cZ 3 cb), ((ad 4), .inl (cY, 3, .inr (.inr (.inr (.inr (eh_o3 (ad 21) (ad 22) (ad 23))))))), ((ad 5), aI cI 30 la), ((ad 6), .inr (2, [.ref (ad 11), .ref (ad 16)])), ((ad 7), .inr (2, [.ref (ad 12), .ref (ad 17)])), ((ad 8), .inr (2, [.ref (ad 13), .ref (ad 18)])), ((ad 9), .inr (2, [.ref (ad 14), .ref (ad 19)])), ((ad 10), .inr (2, [.ref (ad 15), .ref (ad 20)])), ((ad 11), .inr (0, [.long (eL ((cu 0 : Nat) : Int)), .long (eL ((cl 0 : Nat) : Int))])), ((ad 12), .inr (0, [.long (eL ((cu 1 : Nat) : Int)), .long (eL ((cl 1 : Nat) : Int))])), ((ad 13), .inr (0, [.long (eL ((cu 2 : Nat) : Int)), .long (eL ((cl 2 : Nat) : Int))])), ((ad 14), .inr (0, [.long (eL ((cu 3 : Nat) : Int)), .long (eL ((cl 3 : Nat) : Int))])), ((ad 15), .inr (0, [.long (eL ((cu 4 : Nat) : Int)), .long (eL ((cl 4 : Nat) : Int))])), ((ad 16), .inr (0, [.long (eL ((fu 0 : Nat) : Int)), .long (eL ((fl 0 : Nat) : Int))])), ((ad 17), .inr (0, [.long (eL ((fu 1 : Nat) : Int)), .long (eL ((fl 1 : Nat) : Int))])), ((ad 18), .inr (0, [.long (eL ((fu 2 : Nat) : Int)), .long (eL ((fl 2 : Nat) : Int))])), ((ad 19), .inr (0, [.long (eL ((fu 3 : Nat) : Int)), .long (eL ((fl 3 : Nat) : Int))])), ((ad 20), .inr (0, [.long (eL ((fu 4 : Nat) : Int)), .long (eL ((fl 4 : Nat) : Int))])), ((ad 21), .inr (3, [.int (eI (ys 0)), .int (eI (yl 0)), .int (eI (yp 0))])), ((ad 22), .inr (3, [.int (eI (ys 1)), .int (eI (yl 1)), .int (eI (yp 1))])), ((ad 23), .inr (3, [.int (eI (ys 2)), .int (eI (yl 2)), .int (eI (yp 2))]))] s.heap := hP
  have hl := lv_entry ([.ref (ad 0), .int (eI y), .int (eI z), .int (eI w)]) (n := 4) (Nat.le_of_ble_eq_true rfl)
  rw [lg_entry_eq]
  generalize (lg_sl ([.ref (ad 0), .int (eI y), .int (eI z), .int (eI w)]) ++ List.replicate (4 - (lg_sl ([.ref (ad 0), .int (eI y), .int (eI z), .int (eI w)])).length) Slot.unset).toArray = ls at hl ⊢
  have hl : lv_has ls 4 [(0, .ref (ad 0)), (1, .int (eI y)), (2, .int (eI z)), (3, .int (eI w))] := hl
  have hn5 := hE.1
  refine lv_iload_n hx hb d_E_lay_0 rfl (lv_at hl 1 rfl) ?_
  refine lv_iload_n hx hb d_E_lay_1 rfl (lv_at hl 2 rfl) ?_
  refine eh_cRS (As := [.int (eI y), .int (eI z)]) (rest := []) (v := .int (eI (if (0 ≤ y ∧ y < 6) ∧ 0 ≤ z ∧ z < 5 then 1 else 0))) hx hb hml hown htb hN (r_E_isPair l D y z hy hz) 2 ⟨tb_516, tb_517, tb_1, kin_E_isPair⟩ dv_E_isPair ⟨by rw [hR1]; decide, by rw [hR2]; decide⟩ hK hP [] rfl [] rfl rfl rfl hl.1 (Nat.le_of_ble_eq_true rfl) d_E_lay_2 ⟨Nat.zero_le _, Nat.zero_le _⟩ ?_
  refine we_if_ne (tgt := 16) hx hb (by constructor <;> split <;> omega) d_E_lay_5 rfl (fun hc5 => ?_) (fun hc5 => absurd hc5 (by rw [if_pos hgood]; omega))
  refine lv_iload_n hx hb d_E_lay_16 rfl (lv_at hl 3 rfl) ?_
  refine eh_cRS (As := [.int (eI w)]) (rest := []) (v := .int (eI (if 0 ≤ w ∧ w ≤ 100000000 then 1 else 0))) hx hb hml hown htb hN (r_E_isLitres l D w hw) 1 ⟨tb_479, tb_480, tb_1, kin_E_isLitres⟩ dv_E_isLitres ⟨by rw [hR1]; decide, by rw [hR2]; decide⟩ hK hP [] rfl [] rfl rfl rfl hl.1 (Nat.le_of_ble_eq_true rfl) d_E_lay_17 ⟨Nat.zero_le _, Nat.zero_le _⟩ ?_
  refine we_if_ne (tgt := 31) hx hb (by constructor <;> split <;> omega) d_E_lay_20 rfl (fun hc20 => absurd hc20 (by rw [if_neg hbad]; omega)) (fun hc20 => ?_)
  subst hQ
  exact eh_throw0 (own := "EarthHauls") (names := eh_up) (ic := 56) (ix := 54) hx hb htr hown (by decide +kernel) (by decide +kernel) (eh_own eh_ow_IA htb hN hst) (htb _ tb_340) (htb _ tb_341) (htb _ tb_11) hex hlocks (hl.1.trans hml.symm) (by rw [hR1]; decide) (by rw [hR2]; decide) (by rw [hR3]; decide) (by rw [hR4]; decide) d_E_lay_23 d_E_lay_26 d_E_lay_27 d_E_lay_30
abbrev c_E_more : ByteArray := prog_1_method_14_code
def y_E_more : MethodName := ⟨"EarthHauls", "more", "(IZ)J"⟩
abbrev k_E_more : Cond := .code y_E_more c_E_more 3 (some .long)
theorem kin_E_more : k_E_more ∈ ew_t := tb_536
theorem dv_E_more : eh_dV y_E_more "EarthHauls" 2 := ⟨rfl, by decide, by decide, by decide +kernel⟩
theorem d_E_more_0 : decode c_E_more 0 = .ok (.aload_n 0, 1) := by decide +kernel
theorem d_E_more_1 : decode c_E_more 1 = .ok (.iload_n 1, 1) := by decide +kernel
theorem d_E_more_2 : decode c_E_more 2 = .ok (.invokevirtual 85, 3) := by decide +kernel
theorem d_E_more_5 : decode c_E_more 5 = .ok (.ifCond .ne 11, 3) := by decide +kernel
theorem d_E_more_8 : decode c_E_more 8 = .ok (.new 82, 3) := by decide +kernel
theorem d_E_more_11 : decode c_E_more 11 = .ok (.dup, 1) := by decide +kernel
theorem d_E_more_12 : decode c_E_more 12 = .ok (.invokespecial 84, 3) := by decide +kernel
theorem d_E_more_15 : decode c_E_more 15 = .ok (.athrow, 1) := by decide +kernel
theorem d_E_more_16 : decode c_E_more 16 = .ok (.aload_n 0, 1) := by decide +kernel
theorem d_E_more_17 : decode c_E_more 17 = .ok (.invokevirtual 132, 3) := by decide +kernel
theorem d_E_more_20 : decode c_E_more 20 = .ok (.aload_n 0, 1) := by decide +kernel
theorem d_E_more_21 : decode c_E_more 21 = .ok (.getfield 135, 3) := by decide +kernel
theorem d_E_more_24 : decode c_E_more 24 = .ok (.ldc2_w 138, 3) := by decide +kernel
theorem d_E_more_27 : decode c_E_more 27 = .ok (.lcmp, 1) := by decide +kernel
theorem d_E_more_28 : decode c_E_more 28 = .ok (.ifCond .ne 7, 3) := by decide +kernel
theorem d_E_more_31 : decode c_E_more 31 = .ok (.ldc2_w 138, 3) := by decide +kernel
theorem d_E_more_34 : decode c_E_more 34 = .ok (.lreturn, 1) := by decide +kernel
theorem d_E_more_35 : decode c_E_more 35 = .ok (.iload_n 2, 1) := by decide +kernel
theorem d_E_more_36 : decode c_E_more 36 = .ok (.ifCond .eq 14, 3) := by decide +kernel
theorem d_E_more_39 : decode c_E_more 39 = .ok (.aload_n 0, 1) := by decide +kernel
theorem d_E_more_40 : decode c_E_more 40 = .ok (.getfield 35, 3) := by decide +kernel
theorem d_E_more_43 : decode c_E_more 43 = .ok (.iload_n 1, 1) := by decide +kernel
theorem d_E_more_44 : decode c_E_more 44 = .ok (.invokevirtual 143, 3) := by decide +kernel
theorem d_E_more_47 : decode c_E_more 47 = .ok (.goto 11, 3) := by decide +kernel
theorem d_E_more_50 : decode c_E_more 50 = .ok (.aload_n 0, 1) := by decide +kernel
theorem d_E_more_51 : decode c_E_more 51 = .ok (.getfield 35, 3) := by decide +kernel
theorem d_E_more_54 : decode c_E_more 54 = .ok (.iload_n 1, 1) := by decide +kernel
theorem d_E_more_55 : decode c_E_more 55 = .ok (.invokevirtual 147, 3) := by decide +kernel
theorem d_E_more_58 : decode c_E_more 58 = .ok (.lreturn, 1) := by decide +kernel
set_option maxHeartbeats 1000000 in
set_option maxRecDepth 100000 in
theorem t_E_more_IB_1 (l : Launch) (D : va_G) (cI cL cZ cS cY : ClassId) (ad : Nat → Nat) (n : Nat) (sh ra plv pco : Int) (ln cb la : Nat → Int) (cu cl fu fl : Nat → Nat) (ys yl yp : Nat → Int) (y : Int) (hy : -2147483648 ≤ y ∧ y < 2147483648) (hbad : ¬ (0 ≤ y ∧ y + 1 < n)) (hE : eh_ES n sh ra ln cb la cu cl fu fl ys yl yp) (hl0 : l.stackTraces = false) : eh_T l y_E_more k_E_more 6 89 D classes [(cI, .int), (cL, .long), (cZ, .boolean), (cS, .object "EarthHauls$Section"), (cY, .object "EarthHauls$Yard")] [.ref (ad 0), .int (eI y), .int (eI 1)] [((ad 0), .inr (4, [.ref (ad 1), .ref (ad 2), .ref (ad 3), .ref (ad 4), .ref (ad 5), .ref (ad 24), .int (eI ((n : Nat) : Int)), .int (eI sh), .int (eI ra), .int (eI plv), .long (eL pco)])), ((ad 1), .inl (cS, 5, .inr (.inr (.inr (.inr (eh_o5 (ad 6) (ad 7) (ad 8) (ad 9) (ad 10))))))), ((ad 2), aI cI 4 ln), ((ad 3), aI cZ 3 cb), ((ad 4), .inl (cY, 3, .inr (.inr (.inr (.inr (eh_o3 (ad 21) (ad 22) (ad 23))))))), ((ad 5), aI cI 30 la), ((ad 6), .inr (2, [.ref (ad 11), .ref (ad 16)])), ((ad 7), .inr (2, [.ref (ad 12), .ref (ad 17)])), ((ad 8), .inr (2, [.ref (ad 13), .ref (ad 18)])), ((ad 9), .inr (2, [.ref (ad 14), .ref (ad 19)])), ((ad 10), .inr (2, [.ref (ad 15), .ref (ad 20)])), ((ad 11), .inr (0, [.long (eL ((cu 0 : Nat) : Int)), .long (eL ((cl 0 : Nat) : Int))])), ((ad 12), .inr (0, [.long (eL ((cu 1 : Nat) : Int)), .long (eL ((cl 1 : Nat) : Int))])), ((ad 13), .inr (0, [.long (eL ((cu 2 : Nat) : Int)), .long (eL ((cl 2 : Nat) : Int))])), ((ad 14), .inr (0, [.long (eL ((cu 3 : Nat) : Int)), .long (eL ((cl 3 : Nat) : Int))])), ((ad 15), .inr (0, [.long (eL ((cu 4 : Nat) : Int)), .long (eL ((cl 4 : Nat) : Int))])), ((ad 16), .inr (0, [.long (eL ((fu 0 : Nat) : Int)), .long (eL ((fl 0 : Nat) : Int))])), ((ad 17), .inr (0, [.long (eL ((fu 1 : Nat) : Int)), .long (eL ((fl 1 : Nat) : Int))])), ((ad 18), .inr (0, [.long (eL ((fu 2 : Nat) : Int)), .long (eL ((fl 2 : Nat) : Int))])), ((ad 19), .inr (0, [.long (eL ((fu 3 : Nat) : Int)), .long (eL ((fl 3 : Nat) : Int))])), ((ad 20), .inr (0, [.long (eL ((fu 4 : Nat) : Int)), .long (eL ((fl 4 : Nat) : Int))])), ((ad 21), .inr (3, [.int (eI (ys 0)), .int (eI (yl 0)), .int (eI (yp 0))])), ((ad 22), .inr (3, [.int (eI (ys 1)), .int (eI (yl 1)), .int (eI (yp 1))])), ((ad 23), .inr (3, [.int (eI (ys 2)), .int (eI (yl 2)), .int (eI (yp 2))]))] eh_IB := by
  refine eh_T.ofW (cc := c_E_more) (maxL := 3) (ret := (some .long)) hl0 (by decide) ?_
  intro p e s m args below meth c s₁ B hml hex htr hv
  obtain ⟨hargs, hP, hK, hN, hst⟩ := hv
  have hx := B.exec
  have hb := B.bytes
  have hrt := B.returns
  have hts := atoms_spec (ws := k_E_more :: ew_t) B.pre
  have htb : ∀ w ∈ ew_t, w.before args s = true := fun w h => hts w (List.mem_cons_of_mem _ h)
  have hown : s.vm.findClass "EarthHauls" = some m.cls := findClass_of_methodNamed B.named
  have hlocks := B.notSynchronized
  have hE9 : entryFrame m args 3 = entryFrame m ([.ref (ad 0), .int (eI y), .int (eI 1)] : List Value).toArray 3 := by rw [hargs]
  rw [hE9]
  clear hE9 hts B hargs
  generalize hRe : (headSpec _ _).room = R
  have hR1 : R.frames = 6 := by rw [← hRe]; rfl
  have hR2 : R.locals = 89 := by rw [← hRe]; rfl
  have hR3 : R.cells = 1 := by rw [← hRe]; rfl
  have hR4 : R.slots = 6 := by rw [← hRe]; rfl
  clear hRe
  generalize hQ : eh_TQ below _ s = Q
  have hP : va_P D classes [((ad 0), .inr (4, [.ref (ad 1), .ref (ad 2), .ref (ad 3), .ref (ad 4), .ref (ad 5), .ref (ad 24), .int (eI ((n : Nat) : Int)), .int (eI sh), .int (eI ra), .int (eI plv), .long (eL pco)])), ((ad 1), .inl (cS, 5, .inr (.inr (.inr (.inr (eh_o5 (ad 6) (ad 7) (ad 8) (ad 9) (ad 10))))))), ((ad 2), aI cI 4 ln), ((ad 3), aI cZ 3 cb), ((ad 4), .inl (cY, 3, .inr (.inr (.inr (.inr (eh_o3 (ad 21) (ad 22) (ad 23))))))), ((ad 5), aI cI 30 la), ((ad 6), .inr (2, [.ref (ad 11), .ref (ad 16)])), ((ad 7), .inr (2, [.ref (ad 12), .ref (ad 17)])), ((ad 8), .inr (2, [.ref (ad 13), .ref (ad 18)])), ((ad 9), .inr (2, [.ref (ad 14), .ref (ad 19)])), ((ad 10), .inr (2, [.ref (ad 15), .ref (ad 20)])), ((ad 11), .inr (0, [.long (eL ((cu 0 : Nat) : Int)), .long (eL ((cl 0 : Nat) : Int))])), ((ad 12), .inr (0, [.long (eL ((cu 1 : Nat) : Int)), .long (eL ((cl 1 : Nat) : Int))])), ((ad 13), .inr (0, [.long (eL ((cu 2 : Nat) : Int)), .long (eL ((cl 2 : Nat) : Int))])), ((ad 14), .inr (0, [.long (eL ((cu 3 : Nat) : Int)), .long (eL ((cl 3 : Nat) : Int))])), ((ad 15), .inr (0, [.long (eL ((cu 4 : Nat) : Int)), .long (eL ((cl 4 : Nat) : Int))])), ((ad 16), .inr (0, [.long (eL ((fu 0 : Nat) : Int)), .long (eL ((fl 0 : Nat) : Int))])), ((ad 17), .inr (0, [.long (eL ((fu 1 : Nat) : Int)), .long (eL ((fl 1 : Nat) : Int))])), ((ad 18), .inr (0, [.long (eL ((fu 2 : Nat) : Int)), .long (eL ((fl 2 : Nat) : Int))])), ((ad 19), .inr (0, [.long (eL ((fu 3 : Nat) : Int)), .long (eL ((fl 3 : Nat) : Int))])), ((ad 20), .inr (0, [.long (eL ((fu 4 : Nat) : Int)), .long (eL ((fl 4 : Nat) : Int))])), ((ad 21), .inr (3, [.int (eI (ys 0)), .int (eI (yl 0)), .int (eI (yp 0))])), ((ad 22), .inr (3, [.int (eI (ys 1)), .int (eI (yl 1)), .int (eI (yp 1))])), ((ad 23), .inr (3, [.int (eI (ys 2)), .int (eI (yl 2)), .int (eI (yp 2))]))] s.heap := hP
  have hl := lv_entry ([.ref (ad 0), .int (eI y), .int (eI 1)]) (n := 3) (Nat.le_of_ble_eq_true rfl)
  rw [lg_entry_eq]
  generalize (lg_sl ([.ref (ad 0), .int (eI y), .int (eI 1)]) ++ List.replicate (3 - (lg_sl ([.ref (ad 0), .int (eI y), .int (eI 1)])).length) Slot.unset).toArray = ls at hl ⊢
  have hl : lv_has ls 3 [(0, .ref (ad 0)), (1, .int (eI y)), (2, .int (eI 1))] := hl
  have hn5 := hE.1
  refine lv_aload_n hx hb d_E_more_0 rfl (lv_at hl 0 rfl) ?_
  refine lv_iload_n hx hb d_E_more_1 rfl (lv_at hl 1 rfl) ?_
  refine eh_cRV (As := [.int (eI y)]) (rest := []) (v := .int (eI (if 0 ≤ y ∧ y + 1 < n then 1 else 0))) (q := (R_E, T_E, 11)) hx hb hml hown htb hN (r_E_isSpan l D cI cL cZ cS cY ad n sh ra plv pco ln cb la cu cl fu fl ys yl yp y hy hE) 1 ⟨tb_215, tb_217, ts_9, tb_1, kin_E_isSpan⟩ dv_E_isSpan ⟨by rw [hR1]; decide, by rw [hR2]; decide⟩ hK hP 0 rfl rfl [0, 1, 2, 3, 4, 5, 6, 7, 8, 9, 10, 11, 12, 13, 14, 15, 16, 17, 18, 19, 20, 21, 22, 23] rfl [0, 1, 2, 3, 4] rfl rfl rfl hl.1 (Nat.le_of_ble_eq_true rfl) d_E_more_2 ⟨Nat.zero_le _, Nat.zero_le _⟩ ?_
  refine we_if_ne (tgt := 16) hx hb (by constructor <;> split <;> omega) d_E_more_5 rfl (fun hc5 => absurd hc5 (by rw [if_neg hbad]; omega)) (fun hc5 => ?_)
  subst hQ
  exact eh_throw0 (own := "EarthHauls") (names := eh_up) (ic := 84) (ix := 82) hx hb htr hown (by decide +kernel) (by decide +kernel) (eh_own eh_ow_IB htb hN hst) (htb _ tb_457) (htb _ tb_458) (htb _ tb_14) hex hlocks (hl.1.trans hml.symm) (by rw [hR1]; decide) (by rw [hR2]; decide) (by rw [hR3]; decide) (by rw [hR4]; decide) d_E_more_8 d_E_more_11 d_E_more_12 d_E_more_15
set_option maxHeartbeats 1000000 in
set_option maxRecDepth 100000 in
theorem t_E_more_IB_0 (l : Launch) (D : va_G) (cI cL cZ cS cY : ClassId) (ad : Nat → Nat) (n : Nat) (sh ra plv pco : Int) (ln cb la : Nat → Int) (cu cl fu fl : Nat → Nat) (ys yl yp : Nat → Int) (y : Int) (hy : -2147483648 ≤ y ∧ y < 2147483648) (hbad : ¬ (0 ≤ y ∧ y + 1 < n)) (hE : eh_ES n sh ra ln cb la cu cl fu fl ys yl yp) (hl0 : l.stackTraces = false) : eh_T l y_E_more k_E_more 6 89 D classes [(cI, .int), (cL, .long), (cZ, .boolean), (cS, .object "EarthHauls$Section"), (cY, .object "EarthHauls$Yard")] [.ref (ad 0), .int (eI y), .int (eI 0)] [((ad 0), .inr (4, [.ref (ad 1), .ref (ad 2), .ref (ad 3), .ref (ad 4), .ref (ad 5), .ref (ad 24), .int (eI ((n : Nat) : Int)), .int (eI sh), .int (eI ra), .int (eI plv), .long (eL pco)])), ((ad 1), .inl (cS, 5, .inr (.inr (.inr (.inr (eh_o5 (ad 6) (ad 7) (ad 8) (ad 9) (ad 10))))))), ((ad 2), aI cI 4 ln), ((ad 3), aI cZ 3 cb), ((ad 4), .inl (cY, 3, .inr (.inr (.inr (.inr (eh_o3 (ad 21) (ad 22) (ad 23))))))), ((ad 5), aI cI 30 la), ((ad 6), .inr (2, [.ref (ad 11), .ref (ad 16)])), ((ad 7), .inr (2, [.ref (ad 12), .ref (ad 17)])), ((ad 8), .inr (2, [.ref (ad 13), .ref (ad 18)])), ((ad 9), .inr (2, [.ref (ad 14), .ref (ad 19)])), ((ad 10), .inr (2, [.ref (ad 15), .ref (ad 20)])), ((ad 11), .inr (0, [.long (eL ((cu 0 : Nat) : Int)), .long (eL ((cl 0 : Nat) : Int))])), ((ad 12), .inr (0, [.long (eL ((cu 1 : Nat) : Int)), .long (eL ((cl 1 : Nat) : Int))])), ((ad 13), .inr (0, [.long (eL ((cu 2 : Nat) : Int)), .long (eL ((cl 2 : Nat) : Int))])), ((ad 14), .inr (0, [.long (eL ((cu 3 : Nat) : Int)), .long (eL ((cl 3 : Nat) : Int))])), ((ad 15), .inr (0, [.long (eL ((cu 4 : Nat) : Int)), .long (eL ((cl 4 : Nat) : Int))])), ((ad 16), .inr (0, [.long (eL ((fu 0 : Nat) : Int)), .long (eL ((fl 0 : Nat) : Int))])), ((ad 17), .inr (0, [.long (eL ((fu 1 : Nat) : Int)), .long (eL ((fl 1 : Nat) : Int))])), ((ad 18), .inr (0, [.long (eL ((fu 2 : Nat) : Int)), .long (eL ((fl 2 : Nat) : Int))])), ((ad 19), .inr (0, [.long (eL ((fu 3 : Nat) : Int)), .long (eL ((fl 3 : Nat) : Int))])), ((ad 20), .inr (0, [.long (eL ((fu 4 : Nat) : Int)), .long (eL ((fl 4 : Nat) : Int))])), ((ad 21), .inr (3, [.int (eI (ys 0)), .int (eI (yl 0)), .int (eI (yp 0))])), ((ad 22), .inr (3, [.int (eI (ys 1)), .int (eI (yl 1)), .int (eI (yp 1))])), ((ad 23), .inr (3, [.int (eI (ys 2)), .int (eI (yl 2)), .int (eI (yp 2))]))] eh_IB := by
  refine eh_T.ofW (cc := c_E_more) (maxL := 3) (ret := (some .long)) hl0 (by decide) ?_
  intro p e s m args below meth c s₁ B hml hex htr hv
  obtain ⟨hargs, hP, hK, hN, hst⟩ := hv
  have hx := B.exec
  have hb := B.bytes
  have hrt := B.returns
  have hts := atoms_spec (ws := k_E_more :: ew_t) B.pre
  have htb : ∀ w ∈ ew_t, w.before args s = true := fun w h => hts w (List.mem_cons_of_mem _ h)
  have hown : s.vm.findClass "EarthHauls" = some m.cls := findClass_of_methodNamed B.named
  have hlocks := B.notSynchronized
  have hE9 : entryFrame m args 3 = entryFrame m ([.ref (ad 0), .int (eI y), .int (eI 0)] : List Value).toArray 3 := by rw [hargs]
  rw [hE9]
  clear hE9 hts B hargs
  generalize hRe : (headSpec _ _).room = R
  have hR1 : R.frames = 6 := by rw [← hRe]; rfl
  have hR2 : R.locals = 89 := by rw [← hRe]; rfl
  have hR3 : R.cells = 1 := by rw [← hRe]; rfl
  have hR4 : R.slots = 6 := by rw [← hRe]; rfl
  clear hRe
  generalize hQ : eh_TQ below _ s = Q
  have hP : va_P D classes [((ad 0), .inr (4, [.ref (ad 1), .ref (ad 2), .ref (ad 3), .ref (ad 4), .ref (ad 5), .ref (ad 24), .int (eI ((n : Nat) : Int)), .int (eI sh), .int (eI ra), .int (eI plv), .long (eL pco)])), ((ad 1), .inl (cS, 5, .inr (.inr (.inr (.inr (eh_o5 (ad 6) (ad 7) (ad 8) (ad 9) (ad 10))))))), ((ad 2), aI cI 4 ln), ((ad 3), aI cZ 3 cb), ((ad 4), .inl (cY, 3, .inr (.inr (.inr (.inr (eh_o3 (ad 21) (ad 22) (ad 23))))))), ((ad 5), aI cI 30 la), ((ad 6), .inr (2, [.ref (ad 11), .ref (ad 16)])), ((ad 7), .inr (2, [.ref (ad 12), .ref (ad 17)])), ((ad 8), .inr (2, [.ref (ad 13), .ref (ad 18)])), ((ad 9), .inr (2, [.ref (ad 14), .ref (ad 19)])), ((ad 10), .inr (2, [.ref (ad 15), .ref (ad 20)])), ((ad 11), .inr (0, [.long (eL ((cu 0 : Nat) : Int)), .long (eL ((cl 0 : Nat) : Int))])), ((ad 12), .inr (0, [.long (eL ((cu 1 : Nat) : Int)), .long (eL ((cl 1 : Nat) : Int))])), ((ad 13), .inr (0, [.long (eL ((cu 2 : Nat) : Int)), .long (eL ((cl 2 : Nat) : Int))])), ((ad 14), .inr (0, [.long (eL ((cu 3 : Nat) : Int)), .long (eL ((cl 3 : Nat) : Int))])), ((ad 15), .inr (0, [.long (eL ((cu 4 : Nat) : Int)), .long (eL ((cl 4 : Nat) : Int))])), ((ad 16), .inr (0, [.long (eL ((fu 0 : Nat) : Int)), .long (eL ((fl 0 : Nat) : Int))])), ((ad 17), .inr (0, [.long (eL ((fu 1 : Nat) : Int)), .long (eL ((fl 1 : Nat) : Int))])), ((ad 18), .inr (0, [.long (eL ((fu 2 : Nat) : Int)), .long (eL ((fl 2 : Nat) : Int))])), ((ad 19), .inr (0, [.long (eL ((fu 3 : Nat) : Int)), .long (eL ((fl 3 : Nat) : Int))])), ((ad 20), .inr (0, [.long (eL ((fu 4 : Nat) : Int)), .long (eL ((fl 4 : Nat) : Int))])), ((ad 21), .inr (3, [.int (eI (ys 0)), .int (eI (yl 0)), .int (eI (yp 0))])), ((ad 22), .inr (3, [.int (eI (ys 1)), .int (eI (yl 1)), .int (eI (yp 1))])), ((ad 23), .inr (3, [.int (eI (ys 2)), .int (eI (yl 2)), .int (eI (yp 2))]))] s.heap := hP
  have hl := lv_entry ([.ref (ad 0), .int (eI y), .int (eI 0)]) (n := 3) (Nat.le_of_ble_eq_true rfl)
  rw [lg_entry_eq]
  generalize (lg_sl ([.ref (ad 0), .int (eI y), .int (eI 0)]) ++ List.replicate (3 - (lg_sl ([.ref (ad 0), .int (eI y), .int (eI 0)])).length) Slot.unset).toArray = ls at hl ⊢
  have hl : lv_has ls 3 [(0, .ref (ad 0)), (1, .int (eI y)), (2, .int (eI 0))] := hl
  have hn5 := hE.1
  refine lv_aload_n hx hb d_E_more_0 rfl (lv_at hl 0 rfl) ?_
  refine lv_iload_n hx hb d_E_more_1 rfl (lv_at hl 1 rfl) ?_
  refine eh_cRV (As := [.int (eI y)]) (rest := []) (v := .int (eI (if 0 ≤ y ∧ y + 1 < n then 1 else 0))) (q := (R_E, T_E, 11)) hx hb hml hown htb hN (r_E_isSpan l D cI cL cZ cS cY ad n sh ra plv pco ln cb la cu cl fu fl ys yl yp y hy hE) 1 ⟨tb_215, tb_217, ts_9, tb_1, kin_E_isSpan⟩ dv_E_isSpan ⟨by rw [hR1]; decide, by rw [hR2]; decide⟩ hK hP 0 rfl rfl [0, 1, 2, 3, 4, 5, 6, 7, 8, 9, 10, 11, 12, 13, 14, 15, 16, 17, 18, 19, 20, 21, 22, 23] rfl [0, 1, 2, 3, 4] rfl rfl rfl hl.1 (Nat.le_of_ble_eq_true rfl) d_E_more_2 ⟨Nat.zero_le _, Nat.zero_le _⟩ ?_
  refine we_if_ne (tgt := 16) hx hb (by constructor <;> split <;> omega) d_E_more_5 rfl (fun hc5 => absurd hc5 (by rw [if_neg hbad]; omega)) (fun hc5 => ?_)
  subst hQ
  exact eh_throw0 (own := "EarthHauls") (names := eh_up) (ic := 84) (ix := 82) hx hb htr hown (by decide +kernel) (by decide +kernel) (eh_own eh_ow_IB htb hN hst) (htb _ tb_457) (htb _ tb_458) (htb _ tb_14) hex hlocks (hl.1.trans hml.symm) (by rw [hR1]; decide) (by rw [hR2]; decide) (by rw [hR3]; decide) (by rw [hR4]; decide) d_E_more_8 d_E_more_11 d_E_more_12 d_E_more_15
abbrev c_E_count : ByteArray := prog_1_method_19_code
def y_E_count : MethodName := ⟨"EarthHauls", "count", "(I)I"⟩
abbrev k_E_count : Cond := .code y_E_count c_E_count 2 (some .int)
theorem kin_E_count : k_E_count ∈ ew_t := tb_565
theorem dv_E_count : eh_dV y_E_count "EarthHauls" 1 := ⟨rfl, by decide, by decide, by decide +kernel⟩
theorem d_E_count_0 : decode c_E_count 0 = .ok (.iload_n 1, 1) := by decide +kernel
theorem d_E_count_1 : decode c_E_count 1 = .ok (.tableswitch 64 0 4 #[35, 40, 45, 52, 59], 35) := by decide +kernel
theorem d_E_count_36 : decode c_E_count 36 = .ok (.aload_n 0, 1) := by decide +kernel
theorem d_E_count_37 : decode c_E_count 37 = .ok (.getfield 57, 3) := by decide +kernel
theorem d_E_count_40 : decode c_E_count 40 = .ok (.ireturn, 1) := by decide +kernel
theorem d_E_count_41 : decode c_E_count 41 = .ok (.aload_n 0, 1) := by decide +kernel
theorem d_E_count_42 : decode c_E_count 42 = .ok (.invokevirtual 169, 3) := by decide +kernel
theorem d_E_count_45 : decode c_E_count 45 = .ok (.ireturn, 1) := by decide +kernel
theorem d_E_count_46 : decode c_E_count 46 = .ok (.aload_n 0, 1) := by decide +kernel
theorem d_E_count_47 : decode c_E_count 47 = .ok (.iconst 0, 1) := by decide +kernel
theorem d_E_count_48 : decode c_E_count 48 = .ok (.iconst 2, 1) := by decide +kernel
theorem d_E_count_49 : decode c_E_count 49 = .ok (.invokevirtual 172, 3) := by decide +kernel
theorem d_E_count_52 : decode c_E_count 52 = .ok (.ireturn, 1) := by decide +kernel
theorem d_E_count_53 : decode c_E_count 53 = .ok (.aload_n 0, 1) := by decide +kernel
theorem d_E_count_54 : decode c_E_count 54 = .ok (.iconst 2, 1) := by decide +kernel
theorem d_E_count_55 : decode c_E_count 55 = .ok (.iconst 3, 1) := by decide +kernel
theorem d_E_count_56 : decode c_E_count 56 = .ok (.invokevirtual 172, 3) := by decide +kernel
theorem d_E_count_59 : decode c_E_count 59 = .ok (.ireturn, 1) := by decide +kernel
theorem d_E_count_60 : decode c_E_count 60 = .ok (.aload_n 0, 1) := by decide +kernel
theorem d_E_count_61 : decode c_E_count 61 = .ok (.invokevirtual 175, 3) := by decide +kernel
theorem d_E_count_64 : decode c_E_count 64 = .ok (.ireturn, 1) := by decide +kernel
theorem d_E_count_65 : decode c_E_count 65 = .ok (.new 54, 3) := by decide +kernel
theorem d_E_count_68 : decode c_E_count 68 = .ok (.dup, 1) := by decide +kernel
theorem d_E_count_69 : decode c_E_count 69 = .ok (.invokespecial 56, 3) := by decide +kernel
theorem d_E_count_72 : decode c_E_count 72 = .ok (.athrow, 1) := by decide +kernel
set_option maxHeartbeats 1000000 in
set_option maxRecDepth 100000 in
theorem t_E_count_IA (l : Launch) (D : va_G) (cI cL cZ cS cY : ClassId) (ad : Nat → Nat) (n : Nat) (sh ra plv pco : Int) (ln cb la : Nat → Int) (cu cl fu fl : Nat → Nat) (ys yl yp : Nat → Int) (y : Int) (hy : -2147483648 ≤ y ∧ y < 2147483648) (hbad : ¬ (0 ≤ y ∧ y ≤ 4)) (hE : eh_ES n sh ra ln cb la cu cl fu fl ys yl yp) (hl0 : l.stackTraces = false) : eh_T l y_E_count k_E_count 6 89 D classes [(cI, .int), (cL, .long), (cZ, .boolean), (cS, .object "EarthHauls$Section"), (cY, .object "EarthHauls$Yard")] [.ref (ad 0), .int (eI y)] [((ad 0), .inr (4, [.ref (ad 1), .ref (ad 2), .ref (ad 3), .ref (ad 4), .ref (ad 5), .ref (ad 24), .int (eI ((n : Nat) : Int)), .int (eI sh), .int (eI ra), .int (eI plv), .long (eL pco)])), ((ad 1), .inl (cS, 5, .inr (.inr (.inr (.inr (eh_o5 (ad 6) (ad 7) (ad 8) (ad 9) (ad 10))))))), ((ad 2), aI cI 4 ln), ((ad 3), aI cZ 3 cb), ((ad 4), .inl (cY, 3, .inr (.inr (.inr (.inr (eh_o3 (ad 21) (ad 22) (ad 23))))))), ((ad 5), aI cI 30 la), ((ad 6), .inr (2, [.ref (ad 11), .ref (ad 16)])), ((ad 7), .inr (2, [.ref (ad 12), .ref (ad 17)])), ((ad 8), .inr (2, [.ref (ad 13), .ref (ad 18)])), ((ad 9), .inr (2, [.ref (ad 14), .ref (ad 19)])), ((ad 10), .inr (2, [.ref (ad 15), .ref (ad 20)])), ((ad 11), .inr (0, [.long (eL ((cu 0 : Nat) : Int)), .long (eL ((cl 0 : Nat) : Int))])), ((ad 12), .inr (0, [.long (eL ((cu 1 : Nat) : Int)), .long (eL ((cl 1 : Nat) : Int))])), ((ad 13), .inr (0, [.long (eL ((cu 2 : Nat) : Int)), .long (eL ((cl 2 : Nat) : Int))])), ((ad 14), .inr (0, [.long (eL ((cu 3 : Nat) : Int)), .long (eL ((cl 3 : Nat) : Int))])), ((ad 15), .inr (0, [.long (eL ((cu 4 : Nat) : Int)), .long (eL ((cl 4 : Nat) : Int))])), ((ad 16), .inr (0, [.long (eL ((fu 0 : Nat) : Int)), .long (eL ((fl 0 : Nat) : Int))])), ((ad 17), .inr (0, [.long (eL ((fu 1 : Nat) : Int)), .long (eL ((fl 1 : Nat) : Int))])), ((ad 18), .inr (0, [.long (eL ((fu 2 : Nat) : Int)), .long (eL ((fl 2 : Nat) : Int))])), ((ad 19), .inr (0, [.long (eL ((fu 3 : Nat) : Int)), .long (eL ((fl 3 : Nat) : Int))])), ((ad 20), .inr (0, [.long (eL ((fu 4 : Nat) : Int)), .long (eL ((fl 4 : Nat) : Int))])), ((ad 21), .inr (3, [.int (eI (ys 0)), .int (eI (yl 0)), .int (eI (yp 0))])), ((ad 22), .inr (3, [.int (eI (ys 1)), .int (eI (yl 1)), .int (eI (yp 1))])), ((ad 23), .inr (3, [.int (eI (ys 2)), .int (eI (yl 2)), .int (eI (yp 2))]))] eh_IA := by
  refine eh_T.ofW (cc := c_E_count) (maxL := 2) (ret := (some .int)) hl0 (by decide) ?_
  intro p e s m args below meth c s₁ B hml hex htr hv
  obtain ⟨hargs, hP, hK, hN, hst⟩ := hv
  have hx := B.exec
  have hb := B.bytes
  have hrt := B.returns
  have hts := atoms_spec (ws := k_E_count :: ew_t) B.pre
  have htb : ∀ w ∈ ew_t, w.before args s = true := fun w h => hts w (List.mem_cons_of_mem _ h)
  have hown : s.vm.findClass "EarthHauls" = some m.cls := findClass_of_methodNamed B.named
  have hlocks := B.notSynchronized
  have hE9 : entryFrame m args 2 = entryFrame m ([.ref (ad 0), .int (eI y)] : List Value).toArray 2 := by rw [hargs]
  rw [hE9]
  clear hE9 hts B hargs
  generalize hRe : (headSpec _ _).room = R
  have hR1 : R.frames = 6 := by rw [← hRe]; rfl
  have hR2 : R.locals = 89 := by rw [← hRe]; rfl
  have hR3 : R.cells = 1 := by rw [← hRe]; rfl
  have hR4 : R.slots = 6 := by rw [← hRe]; rfl
  clear hRe
  generalize hQ : eh_TQ below _ s = Q
  have hP : va_P D classes [((ad 0), .inr (4, [.ref (ad 1), .ref (ad 2), .ref (ad 3), .ref (ad 4), .ref (ad 5), .ref (ad 24), .int (eI ((n : Nat) : Int)), .int (eI sh), .int (eI ra), .int (eI plv), .long (eL pco)])), ((ad 1), .inl (cS, 5, .inr (.inr (.inr (.inr (eh_o5 (ad 6) (ad 7) (ad 8) (ad 9) (ad 10))))))), ((ad 2), aI cI 4 ln), ((ad 3), aI cZ 3 cb), ((ad 4), .inl (cY, 3, .inr (.inr (.inr (.inr (eh_o3 (ad 21) (ad 22) (ad 23))))))), ((ad 5), aI cI 30 la), ((ad 6), .inr (2, [.ref (ad 11), .ref (ad 16)])), ((ad 7), .inr (2, [.ref (ad 12), .ref (ad 17)])), ((ad 8), .inr (2, [.ref (ad 13), .ref (ad 18)])), ((ad 9), .inr (2, [.ref (ad 14), .ref (ad 19)])), ((ad 10), .inr (2, [.ref (ad 15), .ref (ad 20)])), ((ad 11), .inr (0, [.long (eL ((cu 0 : Nat) : Int)), .long (eL ((cl 0 : Nat) : Int))])), ((ad 12), .inr (0, [.long (eL ((cu 1 : Nat) : Int)), .long (eL ((cl 1 : Nat) : Int))])), ((ad 13), .inr (0, [.long (eL ((cu 2 : Nat) : Int)), .long (eL ((cl 2 : Nat) : Int))])), ((ad 14), .inr (0, [.long (eL ((cu 3 : Nat) : Int)), .long (eL ((cl 3 : Nat) : Int))])), ((ad 15), .inr (0, [.long (eL ((cu 4 : Nat) : Int)), .long (eL ((cl 4 : Nat) : Int))])), ((ad 16), .inr (0, [.long (eL ((fu 0 : Nat) : Int)), .long (eL ((fl 0 : Nat) : Int))])), ((ad 17), .inr (0, [.long (eL ((fu 1 : Nat) : Int)), .long (eL ((fl 1 : Nat) : Int))])), ((ad 18), .inr (0, [.long (eL ((fu 2 : Nat) : Int)), .long (eL ((fl 2 : Nat) : Int))])), ((ad 19), .inr (0, [.long (eL ((fu 3 : Nat) : Int)), .long (eL ((fl 3 : Nat) : Int))])), ((ad 20), .inr (0, [.long (eL ((fu 4 : Nat) : Int)), .long (eL ((fl 4 : Nat) : Int))])), ((ad 21), .inr (3, [.int (eI (ys 0)), .int (eI (yl 0)), .int (eI (yp 0))])), ((ad 22), .inr (3, [.int (eI (ys 1)), .int (eI (yl 1)), .int (eI (yp 1))])), ((ad 23), .inr (3, [.int (eI (ys 2)), .int (eI (yl 2)), .int (eI (yp 2))]))] s.heap := hP
  have hl := lv_entry ([.ref (ad 0), .int (eI y)]) (n := 2) (Nat.le_of_ble_eq_true rfl)
  rw [lg_entry_eq]
  generalize (lg_sl ([.ref (ad 0), .int (eI y)]) ++ List.replicate (2 - (lg_sl ([.ref (ad 0), .int (eI y)])).length) Slot.unset).toArray = ls at hl ⊢
  have hl : lv_has ls 2 [(0, .ref (ad 0)), (1, .int (eI y))] := hl
  have hn5 := hE.1
  have hy9 : (eI y).toInt < 0 ∨ 4 < (eI y).toInt := by rw [eI_t hy]; omega
  refine lv_iload_n hx hb d_E_count_0 rfl (lv_at hl 1 rfl) ?_
  refine lv_tableOut (tgt := 65) hx hb d_E_count_1 hy9 (by decide) ?_
  subst hQ
  exact eh_throw0 (own := "EarthHauls") (names := eh_up) (ic := 56) (ix := 54) hx hb htr hown (by decide +kernel) (by decide +kernel) (eh_own eh_ow_IA htb hN hst) (htb _ tb_340) (htb _ tb_341) (htb _ tb_11) hex hlocks (hl.1.trans hml.symm) (by rw [hR1]; decide) (by rw [hR2]; decide) (by rw [hR3]; decide) (by rw [hR4]; decide) d_E_count_65 d_E_count_68 d_E_count_69 d_E_count_72
