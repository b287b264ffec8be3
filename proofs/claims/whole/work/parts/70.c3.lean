abbrev c_S_measure : ByteArray := prog_4_method_2_code
def y_S_measure : MethodName := ⟨"EarthHauls$Section", "measure", "(IIIII)V"⟩
abbrev k_S_measure : Cond := .code y_S_measure c_S_measure 6 none
theorem kin_S_measure : k_S_measure ∈ ew_t := tb_421
theorem dv_S_measure : eh_dV y_S_measure "EarthHauls$Section" 5 := ⟨rfl, by decide, by decide, by decide +kernel⟩
theorem d_S_measure_0 : decode c_S_measure 0 = .ok (.aload_n 0, 1) := by decide +kernel
theorem d_S_measure_1 : decode c_S_measure 1 = .ok (.getfield 10, 3) := by decide +kernel
theorem d_S_measure_4 : decode c_S_measure 4 = .ok (.invokevirtual 19, 3) := by decide +kernel
theorem d_S_measure_7 : decode c_S_measure 7 = .ok (.aload_n 0, 1) := by decide +kernel
theorem d_S_measure_8 : decode c_S_measure 8 = .ok (.getfield 10, 3) := by decide +kernel
theorem d_S_measure_11 : decode c_S_measure 11 = .ok (.iload_n 1, 1) := by decide +kernel
theorem d_S_measure_12 : decode c_S_measure 12 = .ok (.iload_n 2, 1) := by decide +kernel
theorem d_S_measure_13 : decode c_S_measure 13 = .ok (.iload 4, 2) := by decide +kernel
theorem d_S_measure_15 : decode c_S_measure 15 = .ok (.invokestatic 22, 3) := by decide +kernel
theorem d_S_measure_18 : decode c_S_measure 18 = .ok (.aload_n 0, 1) := by decide +kernel
theorem d_S_measure_19 : decode c_S_measure 19 = .ok (.getfield 10, 3) := by decide +kernel
theorem d_S_measure_22 : decode c_S_measure 22 = .ok (.iload_n 2, 1) := by decide +kernel
theorem d_S_measure_23 : decode c_S_measure 23 = .ok (.iload_n 3, 1) := by decide +kernel
theorem d_S_measure_24 : decode c_S_measure 24 = .ok (.iload 5, 2) := by decide +kernel
theorem d_S_measure_26 : decode c_S_measure 26 = .ok (.invokestatic 22, 3) := by decide +kernel
theorem d_S_measure_29 : decode c_S_measure 29 = .ok (.aload_n 0, 1) := by decide +kernel
theorem d_S_measure_30 : decode c_S_measure 30 = .ok (.getfield 16, 3) := by decide +kernel
theorem d_S_measure_33 : decode c_S_measure 33 = .ok (.invokevirtual 19, 3) := by decide +kernel
theorem d_S_measure_36 : decode c_S_measure 36 = .ok (.aload_n 0, 1) := by decide +kernel
theorem d_S_measure_37 : decode c_S_measure 37 = .ok (.getfield 16, 3) := by decide +kernel
theorem d_S_measure_40 : decode c_S_measure 40 = .ok (.iload_n 1, 1) := by decide +kernel
theorem d_S_measure_41 : decode c_S_measure 41 = .ok (.ineg, 1) := by decide +kernel
theorem d_S_measure_42 : decode c_S_measure 42 = .ok (.iload_n 2, 1) := by decide +kernel
theorem d_S_measure_43 : decode c_S_measure 43 = .ok (.ineg, 1) := by decide +kernel
theorem d_S_measure_44 : decode c_S_measure 44 = .ok (.iload 4, 2) := by decide +kernel
theorem d_S_measure_46 : decode c_S_measure 46 = .ok (.invokestatic 22, 3) := by decide +kernel
theorem d_S_measure_49 : decode c_S_measure 49 = .ok (.aload_n 0, 1) := by decide +kernel
theorem d_S_measure_50 : decode c_S_measure 50 = .ok (.getfield 16, 3) := by decide +kernel
theorem d_S_measure_53 : decode c_S_measure 53 = .ok (.iload_n 2, 1) := by decide +kernel
theorem d_S_measure_54 : decode c_S_measure 54 = .ok (.ineg, 1) := by decide +kernel
theorem d_S_measure_55 : decode c_S_measure 55 = .ok (.iload_n 3, 1) := by decide +kernel
theorem d_S_measure_56 : decode c_S_measure 56 = .ok (.ineg, 1) := by decide +kernel
theorem d_S_measure_57 : decode c_S_measure 57 = .ok (.iload 5, 2) := by decide +kernel
theorem d_S_measure_59 : decode c_S_measure 59 = .ok (.invokestatic 22, 3) := by decide +kernel
theorem d_S_measure_62 : decode c_S_measure 62 = .ok (.return_, 1) := by decide +kernel
set_option maxHeartbeats 1000000 in
set_option maxRecDepth 100000 in
theorem m_S_measure (l : Launch) (D : va_G) (s0 c0 f0 a1 a2 b1 b2 : Nat) (x1 x2 x3 w1 w2 : Int) (hx1 : -100 ≤ x1 ∧ x1 ≤ 100) (hx2 : -100 ≤ x2 ∧ x2 ≤ 100) (hx3 : -100 ≤ x3 ∧ x3 ≤ 100) (hw1 : 1 ≤ w1 ∧ w1 ≤ 50) (hw2 : 1 ≤ w2 ∧ w2 ≤ 50) : eh_M (S := Nat × Nat × Nat × Nat) l y_S_measure k_S_measure 3 85 D classes [] [.ref s0, .int (eI x1), .int (eI x2), .int (eI x3), .int (eI w1), .int (eI w2)] [(s0, .inr (2, [.ref c0, .ref f0])), (c0, .inr (0, [.long (eL ((a1 : Nat) : Int)), .long (eL ((a2 : Nat) : Int))])), (f0, .inr (0, [.long (eL ((b1 : Nat) : Int)), .long (eL ((b2 : Nat) : Int))]))] (fun u => (eh_fr u.1 u.2.1 (eh_anm x1 x2 x3 w1 w2) (eh_adm x1 x2 x3) ∧ eh_FS u.1 u.2.1) ∧ eh_fr u.2.2.1 u.2.2.2 (eh_anm (-x1) (-x2) (-x3) w1 w2) (eh_adm (-x1) (-x2) (-x3)) ∧ eh_FS u.2.2.1 u.2.2.2) (fun _ => none) (fun u => [(s0, .inr (2, [.ref c0, .ref f0])), (c0, .inr (0, [.long (eL ((u.1 : Nat) : Int)), .long (eL ((u.2.1 : Nat) : Int))])), (f0, .inr (0, [.long (eL ((u.2.2.1 : Nat) : Int)), .long (eL ((u.2.2.2 : Nat) : Int))]))]) := by
  intro sz
  refine Met.ofW (cc := c_S_measure) (maxL := 6) (ret := none) (by decide) rfl ?_
  intro p e s m args below meth c s₁ B hml hv
  obtain ⟨hargs, hsz, hP, hK, hD0, hN⟩ := hv
  have hx := B.exec
  have hb := B.bytes
  have hrt := B.returns
  have hts := atoms_spec (ws := k_S_measure :: ew_t) B.pre
  have htb : ∀ w ∈ ew_t, w.before args s = true := fun w h => hts w (List.mem_cons_of_mem _ h)
  have hown : s.vm.findClass "EarthHauls$Section" = some m.cls := findClass_of_methodNamed B.named
  have hlocks := B.notSynchronized
  have hE : entryFrame m args 6 = entryFrame m ([.ref s0, .int (eI x1), .int (eI x2), .int (eI x3), .int (eI w1), .int (eI w2)] : List Value).toArray 6 := by rw [hargs]
  rw [hE]
  clear hE hts B hargs
  generalize hRe : (headSpec _ _).room = R
  have hR1 : R.frames = 3 := by rw [← hRe]; rfl
  have hR2 : R.locals = 85 := by rw [← hRe]; rfl
  clear hRe
  generalize hQ : MQ below _ _ s 0 0 _ = Q
  subst hsz
  have hD := hD0.self (sz := s.heap.size)
  generalize hAe : va_A [(s0, .inr (2, [.ref c0, .ref f0])), (c0, .inr (0, [.long (eL ((a1 : Nat) : Int)), .long (eL ((a2 : Nat) : Int))])), (f0, .inr (0, [.long (eL ((b1 : Nat) : Int)), .long (eL ((b2 : Nat) : Int))]))] s.heap.size = A at hD hQ
  have hA : ∀ q : Nat, s.heap.size ≤ q → A q := fun q h => by rw [← hAe]; exact Or.inr h
  have hS : va_S A s.heap s.heap [] := va_S.rf
  have hP : va_P D classes [(s0, .inr (2, [.ref c0, .ref f0])), (c0, .inr (0, [.long (eL ((a1 : Nat) : Int)), .long (eL ((a2 : Nat) : Int))])), (f0, .inr (0, [.long (eL ((b1 : Nat) : Int)), .long (eL ((b2 : Nat) : Int))]))] s.heap := hP
  have hl := lv_entry ([.ref s0, .int (eI x1), .int (eI x2), .int (eI x3), .int (eI w1), .int (eI w2)]) (n := 6) (Nat.le_of_ble_eq_true rfl)
  rw [lg_entry_eq]
  generalize (lg_sl ([.ref s0, .int (eI x1), .int (eI x2), .int (eI x3), .int (eI w1), .int (eI w2)]) ++ List.replicate (6 - (lg_sl ([.ref s0, .int (eI x1), .int (eI x2), .int (eI x3), .int (eI w1), .int (eI w2)])).length) Slot.unset).toArray = ls at hl ⊢
  have hl : lv_has ls 6 [(0, .ref s0), (1, .int (eI x1)), (2, .int (eI x2)), (3, .int (eI x3)), (4, .int (eI w1)), (5, .int (eI w2))] := hl
  refine lv_aload_n hx hb d_S_measure_0 rfl (lv_at hl 0 rfl) ?_
  refine va_get (D := D) (ci := 2) (v := .ref c0) (C := R_S) (T := T_S) (N := 2) hx hb htb in_S hown hK hP 0 rfl rfl 0 (by decide) (htb _ tb_81) (fun _ h9 => h9) rfl d_S_measure_1 ?_
  refine eh_cMV (As := []) (rest := []) (q := (R_F, T_F, 2)) (wr := [(s0, .inr (2, [.ref c0, .ref f0])), (f0, .inr (0, [.long (eL ((b1 : Nat) : Int)), .long (eL ((b2 : Nat) : Int))]))]) hx hb hml hown htb hN (m_F_setToZero l D c0 ((a1 : Nat) : Int) ((a2 : Nat) : Int)) 0 ⟨tb_422, tb_423, tb_424, tb_4, kin_F_setToZero⟩ dv_F_setToZero ⟨by rw [hR1]; decide, by rw [hR2]; decide⟩ hK hP hD hS hA 1 rfl rfl [1] [0, 2] rfl rfl (by decide) rfl (by decide) (by decide) [] rfl rfl rfl hl.1 (Nat.le_of_ble_eq_true rfl) d_S_measure_4 ⟨Nat.zero_le _, Nat.zero_le _⟩ (fun u H locs hu hP hD hS => ?_)
  have hP := hP.sub (ws' := [(s0, .inr (2, [.ref c0, .ref f0])), (c0, .inr (0, [.long (eL ((0 : Nat) : Int)), .long (eL ((1 : Nat) : Int))])), (f0, .inr (0, [.long (eL ((b1 : Nat) : Int)), .long (eL ((b2 : Nat) : Int))]))]) [0, 2, 1] rfl
  have hD := hD.sub (ws' := [(s0, .inr (2, [.ref c0, .ref f0])), (c0, .inr (0, [.long (eL ((0 : Nat) : Int)), .long (eL ((1 : Nat) : Int))])), (f0, .inr (0, [.long (eL ((b1 : Nat) : Int)), .long (eL ((b2 : Nat) : Int))]))]) [0, 2, 1] (by decide) rfl
  refine lv_aload_n hx hb d_S_measure_7 rfl (lv_at hl 0 rfl) ?_
  refine va_get (D := D) (ci := 2) (v := .ref c0) (C := R_S) (T := T_S) (N := 2) hx hb htb in_S hown hK hP 0 rfl rfl 0 (by decide) (htb _ tb_81) (fun _ h9 => h9) rfl d_S_measure_8 ?_
  refine lv_iload_n hx hb d_S_measure_11 rfl (lv_at hl 1 rfl) ?_
  refine lv_iload_n hx hb d_S_measure_12 rfl (lv_at hl 2 rfl) ?_
  refine lv_iload hx hb d_S_measure_13 (lv_at hl 4 rfl) ?_
  refine eh_cMS (As := [.ref c0, .int (eI x1), .int (eI x2), .int (eI w1)]) (rest := []) (wr := [(s0, .inr (2, [.ref c0, .ref f0])), (f0, .inr (0, [.long (eL ((b1 : Nat) : Int)), .long (eL ((b2 : Nat) : Int))]))]) hx hb hml hown htb hN (m_S_addHigher l D c0 0 1 x1 x2 w1 (by omega) (by omega) (by omega) (by omega) (by decide) (by omega) (by omega)) 4 ⟨tb_426, tb_427, tb_3, kin_S_addHigher⟩ dv_S_addHigher ⟨by rw [hR1]; decide, by rw [hR2]; decide⟩ hK hP hD hS hA [1] [0, 2] rfl rfl (by decide) rfl (by decide) (by decide) [] rfl rfl rfl hl.1 (Nat.le_of_ble_eq_true rfl) d_S_measure_15 ⟨Nat.zero_le _, Nat.zero_le _⟩ (fun u H locs hu hP hD hS => ?_)
  obtain ⟨q1, r1⟩ := u
  obtain ⟨hg1, hu1, hv1⟩ := hu
  have hg1 : eh_fr q1 r1 ((((0 : Nat) : Int) : Int) * eh_hd2 x1 x2 + eh_hn x1 x2 w1 * ((1 : Nat) : Int)) (((1 : Nat) : Int) * eh_hd2 x1 x2) := hg1
  have hu1 : (q1 : Int) ≤ (((0 : Nat) : Int) : Int) * eh_hd2 x1 x2 + eh_hn x1 x2 w1 * ((1 : Nat) : Int) := hu1
  have hv1 : (r1 : Int) ≤ ((1 : Nat) : Int) * eh_hd2 x1 x2 := hv1
  have hb1 := eh_h_b (y := x1) (z := x2) (w := w1) (by omega) (by omega) (by omega)
  have hq1 : (q1 : Int) ≤ 500000 := by
    have z9 : ((0 : Nat) : Int) * eh_hd2 x1 x2 + eh_hn x1 x2 w1 * ((1 : Nat) : Int) = eh_hn x1 x2 w1 := by simp
    rw [z9] at hu1
    omega
  have hr1 : (r1 : Int) ≤ 200 := by
    have z9 : ((1 : Nat) : Int) * eh_hd2 x1 x2 = eh_hd2 x1 x2 := by simp
    rw [z9] at hv1
    omega
  have hP := hP.sub (ws' := [(s0, .inr (2, [.ref c0, .ref f0])), (c0, .inr (0, [.long (eL ((q1 : Nat) : Int)), .long (eL ((r1 : Nat) : Int))])), (f0, .inr (0, [.long (eL ((b1 : Nat) : Int)), .long (eL ((b2 : Nat) : Int))]))]) [0, 2, 1] rfl
  have hD := hD.sub (ws' := [(s0, .inr (2, [.ref c0, .ref f0])), (c0, .inr (0, [.long (eL ((q1 : Nat) : Int)), .long (eL ((r1 : Nat) : Int))])), (f0, .inr (0, [.long (eL ((b1 : Nat) : Int)), .long (eL ((b2 : Nat) : Int))]))]) [0, 2, 1] (by decide) rfl
  refine lv_aload_n hx hb d_S_measure_18 rfl (lv_at hl 0 rfl) ?_
  refine va_get (D := D) (ci := 2) (v := .ref c0) (C := R_S) (T := T_S) (N := 2) hx hb htb in_S hown hK hP 0 rfl rfl 0 (by decide) (htb _ tb_81) (fun _ h9 => h9) rfl d_S_measure_19 ?_
  refine lv_iload_n hx hb d_S_measure_22 rfl (lv_at hl 2 rfl) ?_
  refine lv_iload_n hx hb d_S_measure_23 rfl (lv_at hl 3 rfl) ?_
  refine lv_iload hx hb d_S_measure_24 (lv_at hl 5 rfl) ?_
  refine eh_cMS (As := [.ref c0, .int (eI x2), .int (eI x3), .int (eI w2)]) (rest := []) (wr := [(s0, .inr (2, [.ref c0, .ref f0])), (f0, .inr (0, [.long (eL ((b1 : Nat) : Int)), .long (eL ((b2 : Nat) : Int))]))]) hx hb hml hown htb hN (m_S_addHigher l D c0 q1 r1 x2 x3 w2 (by omega) (by omega) (by omega) hg1.1 hg1.2.1 (by omega) (by omega)) 4 ⟨tb_426, tb_427, tb_3, kin_S_addHigher⟩ dv_S_addHigher ⟨by rw [hR1]; decide, by rw [hR2]; decide⟩ hK hP hD hS hA [1] [0, 2] rfl rfl (by decide) rfl (by decide) (by decide) [] rfl rfl rfl hl.1 (Nat.le_of_ble_eq_true rfl) d_S_measure_26 ⟨Nat.zero_le _, Nat.zero_le _⟩ (fun u H locs hu hP hD hS => ?_)
  obtain ⟨q2, r2⟩ := u
  obtain ⟨hg2, hu2, hv2⟩ := hu
  have hg2 : eh_fr q2 r2 ((((q1 : Nat) : Int) : Int) * eh_hd2 x2 x3 + eh_hn x2 x3 w2 * ((r1 : Nat) : Int)) (((r1 : Nat) : Int) * eh_hd2 x2 x3) := hg2
  have hu2 : (q2 : Int) ≤ (((q1 : Nat) : Int) : Int) * eh_hd2 x2 x3 + eh_hn x2 x3 w2 * ((r1 : Nat) : Int) := hu2
  have hv2 : (r2 : Int) ≤ ((r1 : Nat) : Int) * eh_hd2 x2 x3 := hv2
  have hP := hP.sub (ws' := [(s0, .inr (2, [.ref c0, .ref f0])), (c0, .inr (0, [.long (eL ((q2 : Nat) : Int)), .long (eL ((r2 : Nat) : Int))])), (f0, .inr (0, [.long (eL ((b1 : Nat) : Int)), .long (eL ((b2 : Nat) : Int))]))]) [0, 2, 1] rfl
  have hD := hD.sub (ws' := [(s0, .inr (2, [.ref c0, .ref f0])), (c0, .inr (0, [.long (eL ((q2 : Nat) : Int)), .long (eL ((r2 : Nat) : Int))])), (f0, .inr (0, [.long (eL ((b1 : Nat) : Int)), .long (eL ((b2 : Nat) : Int))]))]) [0, 2, 1] (by decide) rfl
  refine lv_aload_n hx hb d_S_measure_29 rfl (lv_at hl 0 rfl) ?_
  refine va_get (D := D) (ci := 2) (v := .ref f0) (C := R_S) (T := T_S) (N := 2) hx hb htb in_S hown hK hP 0 rfl rfl 1 (by decide) (htb _ tb_83) (fun _ h9 => h9) rfl d_S_measure_30 ?_
  refine eh_cMV (As := []) (rest := []) (q := (R_F, T_F, 2)) (wr := [(s0, .inr (2, [.ref c0, .ref f0])), (c0, .inr (0, [.long (eL ((q2 : Nat) : Int)), .long (eL ((r2 : Nat) : Int))]))]) hx hb hml hown htb hN (m_F_setToZero l D f0 ((b1 : Nat) : Int) ((b2 : Nat) : Int)) 0 ⟨tb_422, tb_423, tb_424, tb_4, kin_F_setToZero⟩ dv_F_setToZero ⟨by rw [hR1]; decide, by rw [hR2]; decide⟩ hK hP hD hS hA 2 rfl rfl [2] [0, 1] rfl rfl (by decide) rfl (by decide) (by decide) [] rfl rfl rfl hl.1 (Nat.le_of_ble_eq_true rfl) d_S_measure_33 ⟨Nat.zero_le _, Nat.zero_le _⟩ (fun u H locs hu hP hD hS => ?_)
  have hP := hP.sub (ws' := [(s0, .inr (2, [.ref c0, .ref f0])), (c0, .inr (0, [.long (eL ((q2 : Nat) : Int)), .long (eL ((r2 : Nat) : Int))])), (f0, .inr (0, [.long (eL ((0 : Nat) : Int)), .long (eL ((1 : Nat) : Int))]))]) [0, 1, 2] rfl
  have hD := hD.sub (ws' := [(s0, .inr (2, [.ref c0, .ref f0])), (c0, .inr (0, [.long (eL ((q2 : Nat) : Int)), .long (eL ((r2 : Nat) : Int))])), (f0, .inr (0, [.long (eL ((0 : Nat) : Int)), .long (eL ((1 : Nat) : Int))]))]) [0, 1, 2] (by decide) rfl
  refine lv_aload_n hx hb d_S_measure_36 rfl (lv_at hl 0 rfl) ?_
  refine va_get (D := D) (ci := 2) (v := .ref f0) (C := R_S) (T := T_S) (N := 2) hx hb htb in_S hown hK hP 0 rfl rfl 1 (by decide) (htb _ tb_83) (fun _ h9 => h9) rfl d_S_measure_37 ?_
  refine lv_iload_n hx hb d_S_measure_40 rfl (lv_at hl 1 rfl) ?_
  refine we_ineg hx hb d_S_measure_41 ?_
  refine lv_iload_n hx hb d_S_measure_42 rfl (lv_at hl 2 rfl) ?_
  refine we_ineg hx hb d_S_measure_43 ?_
  refine lv_iload hx hb d_S_measure_44 (lv_at hl 4 rfl) ?_
  refine eh_cMS (As := [.ref f0, .int (eI (-x1)), .int (eI (-x2)), .int (eI w1)]) (rest := []) (wr := [(s0, .inr (2, [.ref c0, .ref f0])), (c0, .inr (0, [.long (eL ((q2 : Nat) : Int)), .long (eL ((r2 : Nat) : Int))]))]) hx hb hml hown htb hN (m_S_addHigher l D f0 0 1 (-x1) (-x2) w1 (by omega) (by omega) (by omega) (by omega) (by decide) (by omega) (by omega)) 4 ⟨tb_426, tb_427, tb_3, kin_S_addHigher⟩ dv_S_addHigher ⟨by rw [hR1]; decide, by rw [hR2]; decide⟩ hK hP hD hS hA [2] [0, 1] rfl rfl (by decide) rfl (by decide) (by decide) [] rfl rfl rfl hl.1 (Nat.le_of_ble_eq_true rfl) d_S_measure_46 ⟨Nat.zero_le _, Nat.zero_le _⟩ (fun u H locs hu hP hD hS => ?_)
  obtain ⟨q3, r3⟩ := u
  obtain ⟨hg3, hu3, hv3⟩ := hu
  have hg3 : eh_fr q3 r3 ((((0 : Nat) : Int) : Int) * eh_hd2 (-x1) (-x2) + eh_hn (-x1) (-x2) w1 * ((1 : Nat) : Int)) (((1 : Nat) : Int) * eh_hd2 (-x1) (-x2)) := hg3
  have hu3 : (q3 : Int) ≤ (((0 : Nat) : Int) : Int) * eh_hd2 (-x1) (-x2) + eh_hn (-x1) (-x2) w1 * ((1 : Nat) : Int) := hu3
  have hv3 : (r3 : Int) ≤ ((1 : Nat) : Int) * eh_hd2 (-x1) (-x2) := hv3
  have hb3 := eh_h_b (y := (-x1)) (z := (-x2)) (w := w1) (by omega) (by omega) (by omega)
  have hq3 : (q3 : Int) ≤ 500000 := by
    have z9 : ((0 : Nat) : Int) * eh_hd2 (-x1) (-x2) + eh_hn (-x1) (-x2) w1 * ((1 : Nat) : Int) = eh_hn (-x1) (-x2) w1 := by simp
    rw [z9] at hu3
    omega
  have hr3 : (r3 : Int) ≤ 200 := by
    have z9 : ((1 : Nat) : Int) * eh_hd2 (-x1) (-x2) = eh_hd2 (-x1) (-x2) := by simp
    rw [z9] at hv3
    omega
  have hP := hP.sub (ws' := [(s0, .inr (2, [.ref c0, .ref f0])), (c0, .inr (0, [.long (eL ((q2 : Nat) : Int)), .long (eL ((r2 : Nat) : Int))])), (f0, .inr (0, [.long (eL ((q3 : Nat) : Int)), .long (eL ((r3 : Nat) : Int))]))]) [0, 1, 2] rfl
  have hD := hD.sub (ws' := [(s0, .inr (2, [.ref c0, .ref f0])), (c0, .inr (0, [.long (eL ((q2 : Nat) : Int)), .long (eL ((r2 : Nat) : Int))])), (f0, .inr (0, [.long (eL ((q3 : Nat) : Int)), .long (eL ((r3 : Nat) : Int))]))]) [0, 1, 2] (by decide) rfl
  refine lv_aload_n hx hb d_S_measure_49 rfl (lv_at hl 0 rfl) ?_
  refine va_get (D := D) (ci := 2) (v := .ref f0) (C := R_S) (T := T_S) (N := 2) hx hb htb in_S hown hK hP 0 rfl rfl 1 (by decide) (htb _ tb_83) (fun _ h9 => h9) rfl d_S_measure_50 ?_
  refine lv_iload_n hx hb d_S_measure_53 rfl (lv_at hl 2 rfl) ?_
  refine we_ineg hx hb d_S_measure_54 ?_
  refine lv_iload_n hx hb d_S_measure_55 rfl (lv_at hl 3 rfl) ?_
  refine we_ineg hx hb d_S_measure_56 ?_
  refine lv_iload hx hb d_S_measure_57 (lv_at hl 5 rfl) ?_
  refine eh_cMS (As := [.ref f0, .int (eI (-x2)), .int (eI (-x3)), .int (eI w2)]) (rest := []) (wr := [(s0, .inr (2, [.ref c0, .ref f0])), (c0, .inr (0, [.long (eL ((q2 : Nat) : Int)), .long (eL ((r2 : Nat) : Int))]))]) hx hb hml hown htb hN (m_S_addHigher l D f0 q3 r3 (-x2) (-x3) w2 (by omega) (by omega) (by omega) hg3.1 hg3.2.1 (by omega) (by omega)) 4 ⟨tb_426, tb_427, tb_3, kin_S_addHigher⟩ dv_S_addHigher ⟨by rw [hR1]; decide, by rw [hR2]; decide⟩ hK hP hD hS hA [2] [0, 1] rfl rfl (by decide) rfl (by decide) (by decide) [] rfl rfl rfl hl.1 (Nat.le_of_ble_eq_true rfl) d_S_measure_59 ⟨Nat.zero_le _, Nat.zero_le _⟩ (fun u H locs hu hP hD hS => ?_)
  obtain ⟨q4, r4⟩ := u
  obtain ⟨hg4, hu4, hv4⟩ := hu
  have hg4 : eh_fr q4 r4 ((((q3 : Nat) : Int) : Int) * eh_hd2 (-x2) (-x3) + eh_hn (-x2) (-x3) w2 * ((r3 : Nat) : Int)) (((r3 : Nat) : Int) * eh_hd2 (-x2) (-x3)) := hg4
  have hu4 : (q4 : Int) ≤ (((q3 : Nat) : Int) : Int) * eh_hd2 (-x2) (-x3) + eh_hn (-x2) (-x3) w2 * ((r3 : Nat) : Int) := hu4
  have hv4 : (r4 : Int) ≤ ((r3 : Nat) : Int) * eh_hd2 (-x2) (-x3) := hv4
  have hP := hP.sub (ws' := [(s0, .inr (2, [.ref c0, .ref f0])), (c0, .inr (0, [.long (eL ((q2 : Nat) : Int)), .long (eL ((r2 : Nat) : Int))])), (f0, .inr (0, [.long (eL ((q4 : Nat) : Int)), .long (eL ((r4 : Nat) : Int))]))]) [0, 1, 2] rfl
  have hD := hD.sub (ws' := [(s0, .inr (2, [.ref c0, .ref f0])), (c0, .inr (0, [.long (eL ((q2 : Nat) : Int)), .long (eL ((r2 : Nat) : Int))])), (f0, .inr (0, [.long (eL ((q4 : Nat) : Int)), .long (eL ((r4 : Nat) : Int))]))]) [0, 1, 2] (by decide) rfl
  subst hQ
  exact W.vret hx hb hrt (fun t9 ht hW => ⟨⟨(q2, r2, q4, r4), rfl, ⟨eh_meas hx1 hx2 hx3 hw1 hw2 hg1 hv1 hg2 hv2, eh_meas (by omega) (by omega) (by omega) hw1 hw2 hg3 hv3 hg4 hv4⟩, by rw [ht]; exact hP, hD⟩, hS.F ht⟩) hS.2.2 d_S_measure_62
