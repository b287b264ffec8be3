abbrev c_M_plan : ByteArray := prog_7_method_36_code
def y_M_plan : MethodName := ⟨"EarthHaulsModel", "plan", "(II)Z"⟩
abbrev k_M_plan : Cond := .code y_M_plan c_M_plan 5 (some .boolean)
theorem kin_M_plan : k_M_plan ∈ ew_t := tb_764
theorem dv_M_plan : eh_dV y_M_plan "EarthHaulsModel" 2 := ⟨rfl, by decide, by decide, by decide +kernel⟩
theorem d_M_plan_0 : decode c_M_plan 0 = .ok (.aload_n 0, 1) := by decide +kernel
theorem d_M_plan_1 : decode c_M_plan 1 = .ok (.iload_n 1, 1) := by decide +kernel
theorem d_M_plan_2 : decode c_M_plan 2 = .ok (.iload_n 2, 1) := by decide +kernel
theorem d_M_plan_3 : decode c_M_plan 3 = .ok (.invokevirtual 165, 3) := by decide +kernel
theorem d_M_plan_6 : decode c_M_plan 6 = .ok (.aload_n 0, 1) := by decide +kernel
theorem d_M_plan_7 : decode c_M_plan 7 = .ok (.invokevirtual 169, 3) := by decide +kernel
theorem d_M_plan_10 : decode c_M_plan 10 = .ok (.istore_n 3, 1) := by decide +kernel
theorem d_M_plan_11 : decode c_M_plan 11 = .ok (.iload_n 3, 1) := by decide +kernel
theorem d_M_plan_12 : decode c_M_plan 12 = .ok (.ifCond .eq 11, 3) := by decide +kernel
theorem d_M_plan_15 : decode c_M_plan 15 = .ok (.aload_n 0, 1) := by decide +kernel
theorem d_M_plan_16 : decode c_M_plan 16 = .ok (.invokevirtual 169, 3) := by decide +kernel
theorem d_M_plan_19 : decode c_M_plan 19 = .ok (.istore_n 3, 1) := by decide +kernel
theorem d_M_plan_20 : decode c_M_plan 20 = .ok (.goto (-9), 3) := by decide +kernel
theorem d_M_plan_23 : decode c_M_plan 23 = .ok (.iconst 0, 1) := by decide +kernel
theorem d_M_plan_24 : decode c_M_plan 24 = .ok (.istore 4, 2) := by decide +kernel
theorem d_M_plan_26 : decode c_M_plan 26 = .ok (.iload 4, 2) := by decide +kernel
theorem d_M_plan_28 : decode c_M_plan 28 = .ok (.bipush 6, 2) := by decide +kernel
theorem d_M_plan_30 : decode c_M_plan 30 = .ok (.if_icmp .ge 23, 3) := by decide +kernel
theorem d_M_plan_33 : decode c_M_plan 33 = .ok (.aload_n 0, 1) := by decide +kernel
theorem d_M_plan_34 : decode c_M_plan 34 = .ok (.getfield 46, 3) := by decide +kernel
theorem d_M_plan_37 : decode c_M_plan 37 = .ok (.iload 4, 2) := by decide +kernel
theorem d_M_plan_39 : decode c_M_plan 39 = .ok (.laload, 1) := by decide +kernel
theorem d_M_plan_40 : decode c_M_plan 40 = .ok (.lconst 0, 1) := by decide +kernel
theorem d_M_plan_41 : decode c_M_plan 41 = .ok (.lcmp, 1) := by decide +kernel
theorem d_M_plan_42 : decode c_M_plan 42 = .ok (.ifCond .le 5, 3) := by decide +kernel
theorem d_M_plan_45 : decode c_M_plan 45 = .ok (.iconst 0, 1) := by decide +kernel
theorem d_M_plan_46 : decode c_M_plan 46 = .ok (.ireturn, 1) := by decide +kernel
theorem d_M_plan_47 : decode c_M_plan 47 = .ok (.iinc 4 1, 3) := by decide +kernel
theorem d_M_plan_50 : decode c_M_plan 50 = .ok (.goto (-24), 3) := by decide +kernel
theorem d_M_plan_53 : decode c_M_plan 53 = .ok (.aload_n 0, 1) := by decide +kernel
theorem d_M_plan_54 : decode c_M_plan 54 = .ok (.invokevirtual 173, 3) := by decide +kernel
theorem d_M_plan_57 : decode c_M_plan 57 = .ok (.istore_n 3, 1) := by decide +kernel
theorem d_M_plan_58 : decode c_M_plan 58 = .ok (.iload_n 3, 1) := by decide +kernel
theorem d_M_plan_59 : decode c_M_plan 59 = .ok (.ifCond .eq 11, 3) := by decide +kernel
theorem d_M_plan_62 : decode c_M_plan 62 = .ok (.aload_n 0, 1) := by decide +kernel
theorem d_M_plan_63 : decode c_M_plan 63 = .ok (.invokevirtual 173, 3) := by decide +kernel
theorem d_M_plan_66 : decode c_M_plan 66 = .ok (.istore_n 3, 1) := by decide +kernel
theorem d_M_plan_67 : decode c_M_plan 67 = .ok (.goto (-9), 3) := by decide +kernel
theorem d_M_plan_70 : decode c_M_plan 70 = .ok (.iconst 1, 1) := by decide +kernel
theorem d_M_plan_71 : decode c_M_plan 71 = .ok (.ireturn, 1) := by decide +kernel
set_option maxHeartbeats 1000000 in
set_option maxRecDepth 100000 in
theorem m_M_plan (l : Launch) (D : va_G) (cI cL cZ : ClassId) (md : Nat → Nat) (co : Int) (n : Nat) (sh ra up lw kn fo : Int) (sc ln cb th pl lo pr la : Nat → Int) (cu cl fu fl : Nat → Nat) (ys yl yp : Nat → Int) (so si : Int) (hso : -1 ≤ so ∧ so ≤ 3) (hsi : -1 ≤ si ∧ si ≤ 3) (su0 de0 fw0 cs0 G10 G20 BY0 : Nat → Int) (hM : eh_MS n sh ra sc ln cb th pl lo pr la cu cl fu fl ys yl yp) : eh_M (S := Int × Int × Int × (Nat → Int) × (Nat → Int) × (Nat → Int) × (Nat → Int) × (Nat → Int) × (Nat → Int) × (Nat → Int)) l y_M_plan k_M_plan 6 164 D classes [(cI, .int), (cL, .long), (cZ, .boolean)] [.ref (md 0), .int (eI so), .int (eI si)] [((md 0), .inr (5, [.int (eI co), .int (eI ((n : Nat) : Int)), .ref (md 1), .ref (md 2), .ref (md 3), .int (eI sh), .int (eI ra), .ref (md 4), .ref (md 5), .ref (md 6), .ref (md 7), .ref (md 8), .long (eL up), .long (eL lw), .ref (md 9), .ref (md 10), .ref (md 11), .ref (md 12), .ref (md 13), .ref (md 14), .ref (md 15), .int (eI kn), .int (eI fo)])), ((md 1), aI cI 25 sc), ((md 2), aI cI 4 ln), ((md 3), aI cZ 4 cb), ((md 4), aI cZ 3 th), ((md 5), aI cI 3 pl), ((md 6), aI cI 3 lo), ((md 7), aI cI 3 pr), ((md 8), aI cI 30 la), ((md 9), aL cL 7 su0), ((md 10), aL cL 6 de0), ((md 11), aL cL 42 fw0), ((md 12), aI cI 42 cs0), ((md 13), aL cL 13 G10), ((md 14), aL cL 13 G20), ((md 15), aI cI 13 BY0)] (fun u => (∀ y z, y < 7 → z < 6 → u.2.2.2.2.2.2.1 (6 * y + z) = eh_rc (eh_kc n ra ln cb ys yp) y z) ∧ ((u.1 = 1 ∧ eh_feas (eh_kc n ra ln cb ys yp) (eh_pA n sh ln cu cl yl so) (eh_pB n ln fu fl yl si) (fun k => u.2.2.2.2.2.1 (6 * (k / 5) + k % 5)) ∧ eh_cert 1152921504606846976 (eh_kc n ra ln cb ys yp) (eh_pA n sh ln cu cl yl so) (eh_pB n ln fu fl yl si) (fun k => u.2.2.2.2.2.1 (6 * (k / 5) + k % 5)) ∧ (∀ k, k < 42 → 0 ≤ u.2.2.2.2.2.1 k ∧ u.2.2.2.2.2.1 k ≤ 1000000000000)) ∨ (u.1 = 0 ∧ ∀ y, ¬ eh_feas (eh_kc n ra ln cb ys yp) (eh_pA n sh ln cu cl yl so) (eh_pB n ln fu fl yl si) y))) (fun u => some (.int (eI u.1))) (fun u => [((md 0), .inr (5, [.int (eI co), .int (eI ((n : Nat) : Int)), .ref (md 1), .ref (md 2), .ref (md 3), .int (eI sh), .int (eI ra), .ref (md 4), .ref (md 5), .ref (md 6), .ref (md 7), .ref (md 8), .long (eL u.2.1), .long (eL u.2.2.1), .ref (md 9), .ref (md 10), .ref (md 11), .ref (md 12), .ref (md 13), .ref (md 14), .ref (md 15), .int (eI kn), .int (eI fo)])), ((md 1), aI cI 25 sc), ((md 2), aI cI 4 ln), ((md 3), aI cZ 4 cb), ((md 4), aI cZ 3 th), ((md 5), aI cI 3 pl), ((md 6), aI cI 3 lo), ((md 7), aI cI 3 pr), ((md 8), aI cI 30 la), ((md 9), aL cL 7 u.2.2.2.1), ((md 10), aL cL 6 u.2.2.2.2.1), ((md 11), aL cL 42 u.2.2.2.2.2.1), ((md 12), aI cI 42 u.2.2.2.2.2.2.1), ((md 13), aL cL 13 u.2.2.2.2.2.2.2.1), ((md 14), aL cL 13 u.2.2.2.2.2.2.2.2.1), ((md 15), aI cI 13 u.2.2.2.2.2.2.2.2.2)]) := by
  intro sz
  refine Met.ofW (cc := c_M_plan) (maxL := 5) (ret := (some .boolean)) (by decide) rfl ?_
  intro p e s m args below meth c s₁ B hml hv
  obtain ⟨hargs, hsz, hP, hK, hD0, hN⟩ := hv
  have hx := B.exec
  have hb := B.bytes
  have hrt := B.returns
  have hts := atoms_spec (ws := k_M_plan :: ew_t) B.pre
  have htb : ∀ w ∈ ew_t, w.before args s = true := fun w h => hts w (List.mem_cons_of_mem _ h)
  have hown : s.vm.findClass "EarthHaulsModel" = some m.cls := findClass_of_methodNamed B.named
  have hlocks := B.notSynchronized
  have hE : entryFrame m args 5 = entryFrame m ([.ref (md 0), .int (eI so), .int (eI si)] : List Value).toArray 5 := by rw [hargs]
  rw [hE]
  clear hE hts B hargs
  generalize hRe : (headSpec _ _).room = R
  have hR1 : R.frames = 6 := by rw [← hRe]; rfl
  have hR2 : R.locals = 164 := by rw [← hRe]; rfl
  clear hRe
  generalize hQ : MQ below _ _ s 0 0 _ = Q
  subst hsz
  have hD := hD0.self (sz := s.heap.size)
  generalize hAe : va_A [((md 0), .inr (5, [.int (eI co), .int (eI ((n : Nat) : Int)), .ref (md 1), .ref (md 2), .ref (md 3), .int (eI sh), .int (eI ra), .ref (md 4), .ref (md 5), .ref (md 6), .ref (md 7), .ref (md 8), .long (eL up), .long (eL lw), .ref (md 9), .ref (md 10), .ref (md 11), .ref (md 12), .ref (md 13), .ref (md 14), .ref (md 15), .int (eI kn), .int (eI fo)])), ((md 1), aI cI 25 sc), ((md 2), aI cI 4 ln), ((md 3), aI cZ 4 cb), ((md 4), aI cZ 3 th), ((md 5), aI cI 3 pl), ((md 6), aI cI 3 lo), ((md 7), aI cI 3 pr), ((md 8), aI cI 30 la), ((md 9), aL cL 7 su0), ((md 10), aL cL 6 de0), ((md 11), aL cL 42 fw0), ((md 12), aI cI 42 cs0), ((md 13), aL cL 13 G10), ((md 14), aL cL 13 G20), ((md 15), aI cI 13 BY0)] s.heap.size = A at hD hQ
  have hA : ∀ q : Nat, s.heap.size ≤ q → A q := fun q h => by rw [← hAe]; exact Or.inr h
  have hS : va_S A s.heap s.heap [] := va_S.rf
  have hP : va_P D classes [((md 0), .inr (5, [.int (eI co), .int (eI ((n : Nat) : Int)), .ref (md 1), .ref (md 2), .ref (md 3), .int (eI sh), .int (eI ra), .ref (md 4), .ref (md 5), .ref (md 6), .ref (md 7), .ref (md 8), .long (eL up), .long (eL lw), .ref (md 9), .ref (md 10), .ref (md 11), .ref (md 12), .ref (md 13), .ref (md 14), .ref (md 15), .int (eI kn), .int (eI fo)])), ((md 1), aI cI 25 sc), ((md 2), aI cI 4 ln), ((md 3), aI cZ 4 cb), ((md 4), aI cZ 3 th), ((md 5), aI cI 3 pl), ((md 6), aI cI 3 lo), ((md 7), aI cI 3 pr), ((md 8), aI cI 30 la), ((md 9), aL cL 7 su0), ((md 10), aL cL 6 de0), ((md 11), aL cL 42 fw0), ((md 12), aI cI 42 cs0), ((md 13), aL cL 13 G10), ((md 14), aL cL 13 G20), ((md 15), aI cI 13 BY0)] s.heap := hP
  have hl := lv_entry ([.ref (md 0), .int (eI so), .int (eI si)]) (n := 5) (Nat.le_of_ble_eq_true rfl)
  rw [lg_entry_eq]
  generalize (lg_sl ([.ref (md 0), .int (eI so), .int (eI si)]) ++ List.replicate (5 - (lg_sl ([.ref (md 0), .int (eI so), .int (eI si)])).length) Slot.unset).toArray = ls at hl ⊢
  have hl : lv_has ls 5 [(0, .ref (md 0)), (1, .int (eI so)), (2, .int (eI si))] := hl
  have hE := hM.1
  refine lv_aload_n hx hb d_M_plan_0 rfl (lv_at hl 0 rfl) ?_
  refine lv_iload_n hx hb d_M_plan_1 rfl (lv_at hl 1 rfl) ?_
  refine lv_iload_n hx hb d_M_plan_2 rfl (lv_at hl 2 rfl) ?_
  refine eh_cMV (As := [.int (eI so), .int (eI si)]) (rest := []) (q := (R_M, T_M, 23)) (wr := [((md 13), aL cL 13 G10), ((md 14), aL cL 13 G20), ((md 15), aI cI 13 BY0)]) hx hb hml hown htb hN (m_M_prepare l D cI cL cZ md co n sh ra up lw kn fo sc ln cb th pl lo pr la cu cl fu fl ys yl yp so si hso hsi su0 de0 fw0 cs0 hM) 2 ⟨tb_765, tb_767, ts_39, tb_7, kin_M_prepare⟩ dv_M_prepare ⟨by rw [hR1]; decide, by rw [hR2]; decide⟩ hK hP hD hS hA 0 rfl rfl [0, 1, 2, 3, 4, 5, 6, 7, 8, 9, 10, 11, 12] [13, 14, 15] rfl rfl (by decide) rfl (by decide) (by decide) [0, 1, 2] rfl rfl rfl hl.1 (Nat.le_of_ble_eq_true rfl) d_M_plan_3 ⟨Nat.zero_le _, Nat.zero_le _⟩ (fun u H locs hu hP hD hS => ?_)
  obtain ⟨up9, lw9, Sv, Dv, fw1, cs⟩ := u
  obtain ⟨hpr, hf0, hcs⟩ := hu
  have hpr : eh_pr (eh_pA n sh ln cu cl yl so) (eh_pB n ln fu fl yl si) Sv Dv := hpr
  have hf0 : ∀ k, k < 42 → fw1 k = 0 := hf0
  have hcs : ∀ y z, y < 7 → z < 6 → cs (6 * y + z) = eh_rc (eh_kc n ra ln cb ys yp) y z := hcs
  obtain ⟨hSb, hDb, hS6⟩ := eh_pr_b hpr (fun k hk => eh_pA_b hE so hk) (fun k hk => eh_pB_b hE si hk)
  have hrf1 : eh_rf (eh_kc n ra ln cb ys yp) Sv Dv fw1 Sv Dv := eh_rf_0 (fun y hy => (hSb y hy).1) (fun z hz => (hDb z hz).1) hf0
  have hSb2 : ∀ y, y < 7 → Sv y ≤ 1000000000000 := fun y hy => (hSb y hy).2
  have hDb2 : ∀ z, z < 6 → Dv z ≤ 1000000000000 := fun z hz => (hDb z hz).2
  have hSD := eh_pr_sum hpr
  have hcs2 := eh_rc_b (fun k hk => by have := eh_ku_b hE (s := k / 5) (t := k % 5) (by omega) (by omega); exact this) hcs
  have hP := hP.sub (ws' := [((md 0), .inr (5, [.int (eI co), .int (eI ((n : Nat) : Int)), .ref (md 1), .ref (md 2), .ref (md 3), .int (eI sh), .int (eI ra), .ref (md 4), .ref (md 5), .ref (md 6), .ref (md 7), .ref (md 8), .long (eL up9), .long (eL lw9), .ref (md 9), .ref (md 10), .ref (md 11), .ref (md 12), .ref (md 13), .ref (md 14), .ref (md 15), .int (eI kn), .int (eI fo)])), ((md 1), aI cI 25 sc), ((md 2), aI cI 4 ln), ((md 3), aI cZ 4 cb), ((md 4), aI cZ 3 th), ((md 5), aI cI 3 pl), ((md 6), aI cI 3 lo), ((md 7), aI cI 3 pr), ((md 8), aI cI 30 la), ((md 9), aL cL 7 Sv), ((md 10), aL cL 6 Dv), ((md 11), aL cL 42 fw1), ((md 12), aI cI 42 cs), ((md 13), aL cL 13 G10), ((md 14), aL cL 13 G20), ((md 15), aI cI 13 BY0)]) [3, 4, 5, 6, 7, 8, 9, 10, 11, 12, 13, 14, 15, 0, 1, 2] rfl
  have hD := hD.sub (ws' := [((md 0), .inr (5, [.int (eI co), .int (eI ((n : Nat) : Int)), .ref (md 1), .ref (md 2), .ref (md 3), .int (eI sh), .int (eI ra), .ref (md 4), .ref (md 5), .ref (md 6), .ref (md 7), .ref (md 8), .long (eL up9), .long (eL lw9), .ref (md 9), .ref (md 10), .ref (md 11), .ref (md 12), .ref (md 13), .ref (md 14), .ref (md 15), .int (eI kn), .int (eI fo)])), ((md 1), aI cI 25 sc), ((md 2), aI cI 4 ln), ((md 3), aI cZ 4 cb), ((md 4), aI cZ 3 th), ((md 5), aI cI 3 pl), ((md 6), aI cI 3 lo), ((md 7), aI cI 3 pr), ((md 8), aI cI 30 la), ((md 9), aL cL 7 Sv), ((md 10), aL cL 6 Dv), ((md 11), aL cL 42 fw1), ((md 12), aI cI 42 cs), ((md 13), aL cL 13 G10), ((md 14), aL cL 13 G20), ((md 15), aI cI 13 BY0)]) [3, 4, 5, 6, 7, 8, 9, 10, 11, 12, 13, 14, 15, 0, 1, 2] (by decide) rfl
  refine lv_aload_n hx hb d_M_plan_6 rfl (lv_at hl 0 rfl) ?_
  refine eh_cMV (As := []) (rest := []) (q := (R_M, T_M, 23)) (wr := [((md 1), aI cI 25 sc), ((md 2), aI cI 4 ln), ((md 3), aI cZ 4 cb), ((md 4), aI cZ 3 th), ((md 5), aI cI 3 pl), ((md 6), aI cI 3 lo), ((md 7), aI cI 3 pr), ((md 8), aI cI 30 la), ((md 13), aL cL 13 G10), ((md 14), aL cL 13 G20)]) hx hb hml hown htb hN (m_M_push l D cI cL cZ md co n sh ra up9 lw9 kn fo (eh_kc n ra ln cb ys yp) Sv Dv Sv Dv fw1 cs BY0 hrf1 hcs hcs2 hSb2 hDb2) 0 ⟨tb_778, tb_780, ts_42, tb_7, kin_M_push⟩ dv_M_push ⟨by rw [hR1]; decide, by rw [hR2]; decide⟩ hK hP hD hS hA 0 rfl rfl [0, 9, 10, 11, 12, 15] [1, 2, 3, 4, 5, 6, 7, 8, 13, 14] rfl rfl (by decide) rfl (by decide) (by decide) [0, 1, 2] rfl rfl rfl hl.1 (Nat.le_of_ble_eq_true rfl) d_M_plan_7 ⟨Nat.zero_le _, Nat.zero_le _⟩ (fun u H locs hu hP hD hS => ?_)
  obtain ⟨rv1, su1, de1, fz1, BY1⟩ := u
  have hu1 := hu
  have hP := hP.sub (ws' := [((md 0), .inr (5, [.int (eI co), .int (eI ((n : Nat) : Int)), .ref (md 1), .ref (md 2), .ref (md 3), .int (eI sh), .int (eI ra), .ref (md 4), .ref (md 5), .ref (md 6), .ref (md 7), .ref (md 8), .long (eL up9), .long (eL lw9), .ref (md 9), .ref (md 10), .ref (md 11), .ref (md 12), .ref (md 13), .ref (md 14), .ref (md 15), .int (eI kn), .int (eI fo)])), ((md 1), aI cI 25 sc), ((md 2), aI cI 4 ln), ((md 3), aI cZ 4 cb), ((md 4), aI cZ 3 th), ((md 5), aI cI 3 pl), ((md 6), aI cI 3 lo), ((md 7), aI cI 3 pr), ((md 8), aI cI 30 la), ((md 9), aL cL 7 su1), ((md 10), aL cL 6 de1), ((md 11), aL cL 42 fz1), ((md 12), aI cI 42 cs), ((md 13), aL cL 13 G10), ((md 14), aL cL 13 G20), ((md 15), aI cI 13 BY1)]) [10, 0, 1, 2, 3, 4, 5, 6, 7, 11, 12, 13, 14, 8, 9, 15] rfl
  have hD := hD.sub (ws' := [((md 0), .inr (5, [.int (eI co), .int (eI ((n : Nat) : Int)), .ref (md 1), .ref (md 2), .ref (md 3), .int (eI sh), .int (eI ra), .ref (md 4), .ref (md 5), .ref (md 6), .ref (md 7), .ref (md 8), .long (eL up9), .long (eL lw9), .ref (md 9), .ref (md 10), .ref (md 11), .ref (md 12), .ref (md 13), .ref (md 14), .ref (md 15), .int (eI kn), .int (eI fo)])), ((md 1), aI cI 25 sc), ((md 2), aI cI 4 ln), ((md 3), aI cZ 4 cb), ((md 4), aI cZ 3 th), ((md 5), aI cI 3 pl), ((md 6), aI cI 3 lo), ((md 7), aI cI 3 pr), ((md 8), aI cI 30 la), ((md 9), aL cL 7 su1), ((md 10), aL cL 6 de1), ((md 11), aL cL 42 fz1), ((md 12), aI cI 42 cs), ((md 13), aL cL 13 G10), ((md 14), aL cL 13 G20), ((md 15), aI cI 13 BY1)]) [10, 0, 1, 2, 3, 4, 5, 6, 7, 11, 12, 13, 14, 8, 9, 15] (by decide) rfl
  refine lv_istore_n hx hb d_M_plan_10 rfl hl (by decide) rfl (fun ls hl => ?_)
  have hl : lv_has ls 5 [(3, .int (eI rv1)), (0, .ref (md 0)), (1, .int (eI so)), (2, .int (eI si))] := hl
  have lb : ∀ (q : Nat) (su de fw G1 G2 BY : Nat → Int) (rv : Int) (H : Heap) (locs : List Loc) (ls : Array Slot), (2 * eh_Wt cs fw + rv).toNat = q → eh_rf (eh_kc n ra ln cb ys yp) Sv Dv fw (fun _ => 0) (fun _ => 0) → (rv = 1 ∨ rv = 0 ∧ ∃ g9, eh_pot 84 (eh_tl eh_ga eh_gb) (eh_hd eh_ga eh_gb) (eh_gr cs fw) (eh_wt (eh_gw cs)) g9) → lv_has ls 5 [(3, .int (eI rv)), (0, .ref (md 0))] → va_P D classes [((md 0), .inr (5, [.int (eI co), .int (eI ((n : Nat) : Int)), .ref (md 1), .ref (md 2), .ref (md 3), .int (eI sh), .int (eI ra), .ref (md 4), .ref (md 5), .ref (md 6), .ref (md 7), .ref (md 8), .long (eL up9), .long (eL lw9), .ref (md 9), .ref (md 10), .ref (md 11), .ref (md 12), .ref (md 13), .ref (md 14), .ref (md 15), .int (eI kn), .int (eI fo)])), ((md 1), aI cI 25 sc), ((md 2), aI cI 4 ln), ((md 3), aI cZ 4 cb), ((md 4), aI cZ 3 th), ((md 5), aI cI 3 pl), ((md 6), aI cI 3 lo), ((md 7), aI cI 3 pr), ((md 8), aI cI 30 la), ((md 9), aL cL 7 su), ((md 10), aL cL 6 de), ((md 11), aL cL 42 fw), ((md 12), aI cI 42 cs), ((md 13), aL cL 13 G1), ((md 14), aL cL 13 G2), ((md 15), aI cI 13 BY)] H → va_D A [((md 0), .inr (5, [.int (eI co), .int (eI ((n : Nat) : Int)), .ref (md 1), .ref (md 2), .ref (md 3), .int (eI sh), .int (eI ra), .ref (md 4), .ref (md 5), .ref (md 6), .ref (md 7), .ref (md 8), .long (eL up9), .long (eL lw9), .ref (md 9), .ref (md 10), .ref (md 11), .ref (md 12), .ref (md 13), .ref (md 14), .ref (md 15), .int (eI kn), .int (eI fo)])), ((md 1), aI cI 25 sc), ((md 2), aI cI 4 ln), ((md 3), aI cZ 4 cb), ((md 4), aI cZ 3 th), ((md 5), aI cI 3 pl), ((md 6), aI cI 3 lo), ((md 7), aI cI 3 pr), ((md 8), aI cI 30 la), ((md 9), aL cL 7 su), ((md 10), aL cL 6 de), ((md 11), aL cL 42 fw), ((md 12), aI cI 42 cs), ((md 13), aL cL 13 G1), ((md 14), aL cL 13 G2), ((md 15), aI cI 13 BY)] → va_S A s.heap H locs → W p l e R s m args below meth c H locs 0 0 Q (F0 m 58 ls []) := by
    intro q
    induction q using Nat.strongRecOn with
    | ind q ih =>
      intro su de fw G1 G2 BY rv H locs ls hq hrfz hor hl hP hD hS
      have hw0 : 0 ≤ eh_Wt cs fw := eh_Wt_0 (fun v t hv ht => by rw [hcs v t hv ht]; exact hrfz.1 v t hv ht)
      have hrvb : rv = 1 ∨ rv = 0 := by rcases hor with w | w; exact Or.inl w; exact Or.inr w.1
      refine lv_iload_n hx hb d_M_plan_58 rfl (lv_at hl 0 rfl) ?_
      refine we_if_eq (tgt := 70) hx hb (by constructor <;> omega) d_M_plan_59 rfl (fun hc59 => ?_) (fun hc59 => ?_)
      ·
        refine lv_iconst (v := eI 1) hx hb d_M_plan_70 rfl ?_
        have hpost : (∀ y z, y < 7 → z < 6 → cs (6 * y + z) = eh_rc (eh_kc n ra ln cb ys yp) y z) ∧ (((1 : Int) = 1 ∧ eh_feas (eh_kc n ra ln cb ys yp) (eh_pA n sh ln cu cl yl so) (eh_pB n ln fu fl yl si) (fun k => fw (6 * (k / 5) + k % 5)) ∧ eh_cert 1152921504606846976 (eh_kc n ra ln cb ys yp) (eh_pA n sh ln cu cl yl so) (eh_pB n ln fu fl yl si) (fun k => fw (6 * (k / 5) + k % 5)) ∧ (∀ k, k < 42 → 0 ≤ fw k ∧ fw k ≤ 1000000000000)) ∨ ((1 : Int) = 0 ∧ ∀ y, ¬ eh_feas (eh_kc n ra ln cb ys yp) (eh_pA n sh ln cu cl yl so) (eh_pB n ln fu fl yl si) y)) := by
          rcases hor with w | ⟨_, g9, w⟩
          · omega
          · have z := eh_rf_pl hrfz hpr.1 hpr.2.1 hS6 hcs w
            exact ⟨hcs, Or.inl ⟨rfl, z.1, z.2, (eh_rf_bd hrfz hSb2 hDb2).1⟩⟩
        subst hQ
        exact W.zret (v := eI 1) hx hb hrt (by decide) (fun t9 ht hW => ⟨⟨(1, up9, lw9, su, de, fw, cs, G1, G2, BY), rfl, hpost, by rw [ht]; exact hP, hD⟩, hS.F ht⟩) hS.2.2 d_M_plan_71
      ·
        refine lv_aload_n hx hb d_M_plan_62 rfl (lv_at hl 1 rfl) ?_
        refine eh_cMV (As := []) (rest := []) (q := (R_M, T_M, 23)) (wr := [((md 1), aI cI 25 sc), ((md 2), aI cI 4 ln), ((md 3), aI cZ 4 cb), ((md 4), aI cZ 3 th), ((md 5), aI cI 3 pl), ((md 6), aI cI 3 lo), ((md 7), aI cI 3 pr), ((md 8), aI cI 30 la), ((md 9), aL cL 7 su), ((md 10), aL cL 6 de)]) hx hb hml hown htb hN (m_M_better l D cI cL cZ md co n sh ra up9 lw9 kn fo (eh_kc n ra ln cb ys yp) Sv Dv (fun _ => 0) (fun _ => 0) fw cs G1 G2 BY hrfz hcs hcs2 hSb2 hDb2) 0 ⟨tb_790, tb_792, ts_45, tb_7, kin_M_better⟩ dv_M_better ⟨by rw [hR1]; decide, by rw [hR2]; decide⟩ hK hP hD hS hA 0 rfl rfl [0, 11, 12, 13, 14, 15] [1, 2, 3, 4, 5, 6, 7, 8, 9, 10] rfl rfl (by decide) rfl (by decide) (by decide) [0, 1, 2] rfl rfl rfl hl.1 (Nat.le_of_ble_eq_true rfl) d_M_plan_63 ⟨Nat.zero_le _, Nat.zero_le _⟩ (fun u H locs hu hP hD hS => ?_)
        obtain ⟨rv4, fz4, A4, B4, C4⟩ := u
        have hu4 := hu
        have hP := hP.sub (ws' := [((md 0), .inr (5, [.int (eI co), .int (eI ((n : Nat) : Int)), .ref (md 1), .ref (md 2), .ref (md 3), .int (eI sh), .int (eI ra), .ref (md 4), .ref (md 5), .ref (md 6), .ref (md 7), .ref (md 8), .long (eL up9), .long (eL lw9), .ref (md 9), .ref (md 10), .ref (md 11), .ref (md 12), .ref (md 13), .ref (md 14), .ref (md 15), .int (eI kn), .int (eI fo)])), ((md 1), aI cI 25 sc), ((md 2), aI cI 4 ln), ((md 3), aI cZ 4 cb), ((md 4), aI cZ 3 th), ((md 5), aI cI 3 pl), ((md 6), aI cI 3 lo), ((md 7), aI cI 3 pr), ((md 8), aI cI 30 la), ((md 9), aL cL 7 su), ((md 10), aL cL 6 de), ((md 11), aL cL 42 fz4), ((md 12), aI cI 42 cs), ((md 13), aL cL 13 A4), ((md 14), aL cL 13 B4), ((md 15), aI cI 13 C4)]) [10, 0, 1, 2, 3, 4, 5, 6, 7, 8, 9, 11, 12, 13, 14, 15] rfl
        have hD := hD.sub (ws' := [((md 0), .inr (5, [.int (eI co), .int (eI ((n : Nat) : Int)), .ref (md 1), .ref (md 2), .ref (md 3), .int (eI sh), .int (eI ra), .ref (md 4), .ref (md 5), .ref (md 6), .ref (md 7), .ref (md 8), .long (eL up9), .long (eL lw9), .ref (md 9), .ref (md 10), .ref (md 11), .ref (md 12), .ref (md 13), .ref (md 14), .ref (md 15), .int (eI kn), .int (eI fo)])), ((md 1), aI cI 25 sc), ((md 2), aI cI 4 ln), ((md 3), aI cZ 4 cb), ((md 4), aI cZ 3 th), ((md 5), aI cI 3 pl), ((md 6), aI cI 3 lo), ((md 7), aI cI 3 pr), ((md 8), aI cI 30 la), ((md 9), aL cL 7 su), ((md 10), aL cL 6 de), ((md 11), aL cL 42 fz4), ((md 12), aI cI 42 cs), ((md 13), aL cL 13 A4), ((md 14), aL cL 13 B4), ((md 15), aI cI 13 C4)]) [10, 0, 1, 2, 3, 4, 5, 6, 7, 8, 9, 11, 12, 13, 14, 15] (by decide) rfl
        refine lv_istore_n hx hb d_M_plan_66 rfl hl (by decide) rfl (fun ls hl => ?_)
        have hl : lv_has ls 5 [(3, .int (eI rv4)), (0, .ref (md 0))] := hl
        refine lv_goto (tgt := 58) hx hb d_M_plan_67 rfl ?_
        rcases hu4 with ⟨w1, w2, w3⟩ | ⟨w1, w2, w3⟩
        · have w1 : rv4 = 1 := w1
          have w3 : eh_Wt cs fz4 < eh_Wt cs fw := w3
          have hw4 : 0 ≤ eh_Wt cs fz4 := eh_Wt_0 (fun v t hv ht => by rw [hcs v t hv ht]; exact w2.1 v t hv ht)
          exact ih (2 * eh_Wt cs fz4 + rv4).toNat (by omega) su de fz4 A4 B4 C4 rv4 H locs ls rfl w2 (Or.inl w1) (lv_sub hl [0, 1] rfl) hP hD hS
        · have w1 : rv4 = 0 := w1
          have w2 : fz4 = fw := w2
          exact ih (2 * eh_Wt cs fz4 + rv4).toNat (by rw [w2]; omega) su de fz4 A4 B4 C4 rv4 H locs ls rfl (by rw [w2]; exact hrfz) (Or.inr ⟨w1, by rw [w2]; exact w3⟩) (lv_sub hl [0, 1] rfl) hP hD hS
  have lc : ∀ (su de fw G1 G2 BY : Nat → Int), eh_rf (eh_kc n ra ln cb ys yp) Sv Dv fw su de → (∀ v, v < 7 → 0 < su v → 0 ≤ BY v) → (∀ y z, y < 7 → z < 6 → eh_cl cs fw BY y z) → (∀ z, z < 6 → 0 ≤ BY (7 + z) → de z ≤ 0) → ∀ (q i : Nat) (H : Heap) (locs : List Loc) (ls : Array Slot), 6 - i = q → i ≤ 6 → (∀ z, z < i → de z ≤ 0) → lv_has ls 5 [(4, .int (eI ((i : Nat) : Int))), (0, .ref (md 0))] → va_P D classes [((md 0), .inr (5, [.int (eI co), .int (eI ((n : Nat) : Int)), .ref (md 1), .ref (md 2), .ref (md 3), .int (eI sh), .int (eI ra), .ref (md 4), .ref (md 5), .ref (md 6), .ref (md 7), .ref (md 8), .long (eL up9), .long (eL lw9), .ref (md 9), .ref (md 10), .ref (md 11), .ref (md 12), .ref (md 13), .ref (md 14), .ref (md 15), .int (eI kn), .int (eI fo)])), ((md 1), aI cI 25 sc), ((md 2), aI cI 4 ln), ((md 3), aI cZ 4 cb), ((md 4), aI cZ 3 th), ((md 5), aI cI 3 pl), ((md 6), aI cI 3 lo), ((md 7), aI cI 3 pr), ((md 8), aI cI 30 la), ((md 9), aL cL 7 su), ((md 10), aL cL 6 de), ((md 11), aL cL 42 fw), ((md 12), aI cI 42 cs), ((md 13), aL cL 13 G1), ((md 14), aL cL 13 G2), ((md 15), aI cI 13 BY)] H → va_D A [((md 0), .inr (5, [.int (eI co), .int (eI ((n : Nat) : Int)), .ref (md 1), .ref (md 2), .ref (md 3), .int (eI sh), .int (eI ra), .ref (md 4), .ref (md 5), .ref (md 6), .ref (md 7), .ref (md 8), .long (eL up9), .long (eL lw9), .ref (md 9), .ref (md 10), .ref (md 11), .ref (md 12), .ref (md 13), .ref (md 14), .ref (md 15), .int (eI kn), .int (eI fo)])), ((md 1), aI cI 25 sc), ((md 2), aI cI 4 ln), ((md 3), aI cZ 4 cb), ((md 4), aI cZ 3 th), ((md 5), aI cI 3 pl), ((md 6), aI cI 3 lo), ((md 7), aI cI 3 pr), ((md 8), aI cI 30 la), ((md 9), aL cL 7 su), ((md 10), aL cL 6 de), ((md 11), aL cL 42 fw), ((md 12), aI cI 42 cs), ((md 13), aL cL 13 G1), ((md 14), aL cL 13 G2), ((md 15), aI cI 13 BY)] → va_S A s.heap H locs → W p l e R s m args below meth c H locs 0 0 Q (F0 m 26 ls []) := by
    intro su de fw G1 G2 BY hrf k1 k2 k3 q
    induction q with
    | zero =>
      intro i H locs ls hq hi hz0 hl hP hD hS
      have hi6 : i = 6 := by omega
      subst hi6
      have hrfz := eh_rf_z hrf hSD hz0
      refine lv_iload hx hb d_M_plan_26 (lv_at hl 0 rfl) ?_
      refine lv_bipush (v := eI 6) hx hb d_M_plan_28 (by decide) ?_
      refine we_icmp_ge (tgt := 53) hx hb (by constructor <;> omega) (by constructor <;> omega) d_M_plan_30 rfl (fun hc30 => ?_) (fun hc30 => absurd hc30 (by omega))
      refine lv_aload_n hx hb d_M_plan_53 rfl (lv_at hl 1 rfl) ?_
      refine eh_cMV (As := []) (rest := []) (q := (R_M, T_M, 23)) (wr := [((md 1), aI cI 25 sc), ((md 2), aI cI 4 ln), ((md 3), aI cZ 4 cb), ((md 4), aI cZ 3 th), ((md 5), aI cI 3 pl), ((md 6), aI cI 3 lo), ((md 7), aI cI 3 pr), ((md 8), aI cI 30 la), ((md 9), aL cL 7 su), ((md 10), aL cL 6 de)]) hx hb hml hown htb hN (m_M_better l D cI cL cZ md co n sh ra up9 lw9 kn fo (eh_kc n ra ln cb ys yp) Sv Dv (fun _ => 0) (fun _ => 0) fw cs G1 G2 BY hrfz hcs hcs2 hSb2 hDb2) 0 ⟨tb_790, tb_792, ts_45, tb_7, kin_M_better⟩ dv_M_better ⟨by rw [hR1]; decide, by rw [hR2]; decide⟩ hK hP hD hS hA 0 rfl rfl [0, 11, 12, 13, 14, 15] [1, 2, 3, 4, 5, 6, 7, 8, 9, 10] rfl rfl (by decide) rfl (by decide) (by decide) [0, 1, 2] rfl rfl rfl hl.1 (Nat.le_of_ble_eq_true rfl) d_M_plan_54 ⟨Nat.zero_le _, Nat.zero_le _⟩ (fun u H locs hu hP hD hS => ?_)
      obtain ⟨rv5, fz5, A5, B5, C5⟩ := u
      have hu5 := hu
      have hP := hP.sub (ws' := [((md 0), .inr (5, [.int (eI co), .int (eI ((n : Nat) : Int)), .ref (md 1), .ref (md 2), .ref (md 3), .int (eI sh), .int (eI ra), .ref (md 4), .ref (md 5), .ref (md 6), .ref (md 7), .ref (md 8), .long (eL up9), .long (eL lw9), .ref (md 9), .ref (md 10), .ref (md 11), .ref (md 12), .ref (md 13), .ref (md 14), .ref (md 15), .int (eI kn), .int (eI fo)])), ((md 1), aI cI 25 sc), ((md 2), aI cI 4 ln), ((md 3), aI cZ 4 cb), ((md 4), aI cZ 3 th), ((md 5), aI cI 3 pl), ((md 6), aI cI 3 lo), ((md 7), aI cI 3 pr), ((md 8), aI cI 30 la), ((md 9), aL cL 7 su), ((md 10), aL cL 6 de), ((md 11), aL cL 42 fz5), ((md 12), aI cI 42 cs), ((md 13), aL cL 13 A5), ((md 14), aL cL 13 B5), ((md 15), aI cI 13 C5)]) [10, 0, 1, 2, 3, 4, 5, 6, 7, 8, 9, 11, 12, 13, 14, 15] rfl
      have hD := hD.sub (ws' := [((md 0), .inr (5, [.int (eI co), .int (eI ((n : Nat) : Int)), .ref (md 1), .ref (md 2), .ref (md 3), .int (eI sh), .int (eI ra), .ref (md 4), .ref (md 5), .ref (md 6), .ref (md 7), .ref (md 8), .long (eL up9), .long (eL lw9), .ref (md 9), .ref (md 10), .ref (md 11), .ref (md 12), .ref (md 13), .ref (md 14), .ref (md 15), .int (eI kn), .int (eI fo)])), ((md 1), aI cI 25 sc), ((md 2), aI cI 4 ln), ((md 3), aI cZ 4 cb), ((md 4), aI cZ 3 th), ((md 5), aI cI 3 pl), ((md 6), aI cI 3 lo), ((md 7), aI cI 3 pr), ((md 8), aI cI 30 la), ((md 9), aL cL 7 su), ((md 10), aL cL 6 de), ((md 11), aL cL 42 fz5), ((md 12), aI cI 42 cs), ((md 13), aL cL 13 A5), ((md 14), aL cL 13 B5), ((md 15), aI cI 13 C5)]) [10, 0, 1, 2, 3, 4, 5, 6, 7, 8, 9, 11, 12, 13, 14, 15] (by decide) rfl
      refine lv_istore_n hx hb d_M_plan_57 rfl hl (by decide) rfl (fun ls hl => ?_)
      have hl : lv_has ls 5 [(3, .int (eI rv5)), (4, .int (eI ((6 : Nat) : Int))), (0, .ref (md 0))] := hl
      rcases hu5 with ⟨w1, w2, w3⟩ | ⟨w1, w2, w3⟩
      · exact lb _ su de fz5 A5 B5 C5 rv5 H locs ls rfl w2 (Or.inl w1) (lv_sub hl [0, 2] rfl) hP hD hS
      · have w2 : fz5 = fw := w2
        exact lb _ su de fz5 A5 B5 C5 rv5 H locs ls rfl (by rw [w2]; exact hrfz) (Or.inr ⟨w1, by rw [w2]; exact w3⟩) (lv_sub hl [0, 2] rfl) hP hD hS
    | succ q ih =>
      intro i H locs ls hq hi hz0 hl hP hD hS
      have hdi := (eh_rf_bd hrf hSb2 hDb2).2.2 i (by omega)
      refine lv_iload hx hb d_M_plan_26 (lv_at hl 0 rfl) ?_
      refine lv_bipush (v := eI 6) hx hb d_M_plan_28 (by decide) ?_
      refine we_icmp_ge (tgt := 53) hx hb (by constructor <;> omega) (by constructor <;> omega) d_M_plan_30 rfl (fun hc30 => absurd hc30 (by omega)) (fun hc30 => ?_)
      refine lv_aload_n hx hb d_M_plan_33 rfl (lv_at hl 1 rfl) ?_
      refine va_get (D := D) (ci := 5) (v := .ref (md 10)) (C := R_M) (T := T_M) (N := 23) hx hb htb in_M hown hK hP 0 rfl rfl 15 (by decide) (htb _ tb_603) (fun _ h9 => h9) rfl d_M_plan_34 ?_
      refine lv_iload hx hb d_M_plan_37 (lv_at hl 0 rfl) ?_
      refine we_lald hx hb hK hP 10 1 rfl rfl i rfl (by omega) (by decide) d_M_plan_39 ?_
      refine lv_lconst (v := eL 0) hx hb d_M_plan_40 (by decide) ?_
      refine we_lcmp_le (pc2 := 42) (tgt := 47) hx hb (by constructor <;> omega) (by constructor <;> omega) d_M_plan_41 rfl d_M_plan_42 rfl (fun hc41 => ?_) (fun hc41 => ?_)
      ·
        refine lv_iinc (v := eI (((i : Nat) : Int) + 1)) hx hb d_M_plan_47 hl (k := 0) rfl (eI_add _ _) (by decide) rfl (fun ls hl => ?_)
        have hl : lv_has ls 5 [(4, .int (eI (((i : Nat) : Int) + 1))), (0, .ref (md 0))] := hl
        refine lv_goto (tgt := 26) hx hb d_M_plan_50 rfl ?_
        exact ih (i + 1) H locs ls (by omega) (by omega) (fun z hz => by
          by_cases w : z = i
          · subst w; omega
          · exact hz0 z (by omega)) (lv_sub hl [0, 1] rfl) hP hD hS
      ·
        refine lv_iconst (v := eI 0) hx hb d_M_plan_45 rfl ?_
        have hpost : (∀ y z, y < 7 → z < 6 → cs (6 * y + z) = eh_rc (eh_kc n ra ln cb ys yp) y z) ∧ (((0 : Int) = 1 ∧ eh_feas (eh_kc n ra ln cb ys yp) (eh_pA n sh ln cu cl yl so) (eh_pB n ln fu fl yl si) (fun k => fw (6 * (k / 5) + k % 5)) ∧ eh_cert 1152921504606846976 (eh_kc n ra ln cb ys yp) (eh_pA n sh ln cu cl yl so) (eh_pB n ln fu fl yl si) (fun k => fw (6 * (k / 5) + k % 5)) ∧ (∀ k, k < 42 → 0 ≤ fw k ∧ fw k ≤ 1000000000000)) ∨ ((0 : Int) = 0 ∧ ∀ y, ¬ eh_feas (eh_kc n ra ln cb ys yp) (eh_pA n sh ln cu cl yl so) (eh_pB n ln fu fl yl si) y)) := ⟨hcs, Or.inr ⟨rfl, fun y => eh_rf_np hrf hpr.1 hpr.2.1 hSD hS6 hcs k1 k2 k3 (t0 := i) (by omega) (by omega) y⟩⟩
        subst hQ
        exact W.zret (v := eI 0) hx hb hrt (by decide) (fun t9 ht hW => ⟨⟨(0, up9, lw9, su, de, fw, cs, G1, G2, BY), rfl, hpost, by rw [ht]; exact hP, hD⟩, hS.F ht⟩) hS.2.2 d_M_plan_46
  have lp : ∀ (q : Nat) (su de fw G1 G2 BY : Nat → Int) (rv : Int) (H : Heap) (locs : List Loc) (ls : Array Slot), (2 * eh_sm de 6 + rv).toNat = q → eh_rf (eh_kc n ra ln cb ys yp) Sv Dv fw su de → (rv = 1 ∨ rv = 0 ∧ (∀ v, v < 7 → 0 < su v → 0 ≤ BY v) ∧ (∀ y z, y < 7 → z < 6 → eh_cl cs fw BY y z) ∧ (∀ z, z < 6 → 0 ≤ BY (7 + z) → de z ≤ 0)) → lv_has ls 5 [(3, .int (eI rv)), (0, .ref (md 0))] → va_P D classes [((md 0), .inr (5, [.int (eI co), .int (eI ((n : Nat) : Int)), .ref (md 1), .ref (md 2), .ref (md 3), .int (eI sh), .int (eI ra), .ref (md 4), .ref (md 5), .ref (md 6), .ref (md 7), .ref (md 8), .long (eL up9), .long (eL lw9), .ref (md 9), .ref (md 10), .ref (md 11), .ref (md 12), .ref (md 13), .ref (md 14), .ref (md 15), .int (eI kn), .int (eI fo)])), ((md 1), aI cI 25 sc), ((md 2), aI cI 4 ln), ((md 3), aI cZ 4 cb), ((md 4), aI cZ 3 th), ((md 5), aI cI 3 pl), ((md 6), aI cI 3 lo), ((md 7), aI cI 3 pr), ((md 8), aI cI 30 la), ((md 9), aL cL 7 su), ((md 10), aL cL 6 de), ((md 11), aL cL 42 fw), ((md 12), aI cI 42 cs), ((md 13), aL cL 13 G1), ((md 14), aL cL 13 G2), ((md 15), aI cI 13 BY)] H → va_D A [((md 0), .inr (5, [.int (eI co), .int (eI ((n : Nat) : Int)), .ref (md 1), .ref (md 2), .ref (md 3), .int (eI sh), .int (eI ra), .ref (md 4), .ref (md 5), .ref (md 6), .ref (md 7), .ref (md 8), .long (eL up9), .long (eL lw9), .ref (md 9), .ref (md 10), .ref (md 11), .ref (md 12), .ref (md 13), .ref (md 14), .ref (md 15), .int (eI kn), .int (eI fo)])), ((md 1), aI cI 25 sc), ((md 2), aI cI 4 ln), ((md 3), aI cZ 4 cb), ((md 4), aI cZ 3 th), ((md 5), aI cI 3 pl), ((md 6), aI cI 3 lo), ((md 7), aI cI 3 pr), ((md 8), aI cI 30 la), ((md 9), aL cL 7 su), ((md 10), aL cL 6 de), ((md 11), aL cL 42 fw), ((md 12), aI cI 42 cs), ((md 13), aL cL 13 G1), ((md 14), aL cL 13 G2), ((md 15), aI cI 13 BY)] → va_S A s.heap H locs → W p l e R s m args below meth c H locs 0 0 Q (F0 m 11 ls []) := by
    intro q
    induction q using Nat.strongRecOn with
    | ind q ih =>
      intro su de fw G1 G2 BY rv H locs ls hq hrf hor hl hP hD hS
      have hd0 : 0 ≤ eh_sm de 6 := eh_sm_nonneg (fun z hz => (hrf.2.2 z hz).1)
      have hrvb : rv = 1 ∨ rv = 0 := by rcases hor with w | w; exact Or.inl w; exact Or.inr w.1
      refine lv_iload_n hx hb d_M_plan_11 rfl (lv_at hl 0 rfl) ?_
      refine we_if_eq (tgt := 23) hx hb (by constructor <;> omega) d_M_plan_12 rfl (fun hc12 => ?_) (fun hc12 => ?_)
      ·
        refine lv_iconst (v := eI 0) hx hb d_M_plan_23 rfl ?_
        refine lv_istore hx hb d_M_plan_24 hl (by decide) rfl (fun ls hl => ?_)
        have hl : lv_has ls 5 [(4, .int (eI 0)), (3, .int (eI rv)), (0, .ref (md 0))] := hl
        rcases hor with w | ⟨_, w1, w2, w3⟩
        · omega
        · exact lc su de fw G1 G2 BY hrf w1 w2 w3 6 0 H locs ls (by omega) (by omega) (fun z hz => by omega) (lv_sub hl [0, 2] rfl) hP hD hS
      ·
        refine lv_aload_n hx hb d_M_plan_15 rfl (lv_at hl 1 rfl) ?_
        refine eh_cMV (As := []) (rest := []) (q := (R_M, T_M, 23)) (wr := [((md 1), aI cI 25 sc), ((md 2), aI cI 4 ln), ((md 3), aI cZ 4 cb), ((md 4), aI cZ 3 th), ((md 5), aI cI 3 pl), ((md 6), aI cI 3 lo), ((md 7), aI cI 3 pr), ((md 8), aI cI 30 la), ((md 13), aL cL 13 G1), ((md 14), aL cL 13 G2)]) hx hb hml hown htb hN (m_M_push l D cI cL cZ md co n sh ra up9 lw9 kn fo (eh_kc n ra ln cb ys yp) Sv Dv su de fw cs BY hrf hcs hcs2 hSb2 hDb2) 0 ⟨tb_778, tb_780, ts_42, tb_7, kin_M_push⟩ dv_M_push ⟨by rw [hR1]; decide, by rw [hR2]; decide⟩ hK hP hD hS hA 0 rfl rfl [0, 9, 10, 11, 12, 15] [1, 2, 3, 4, 5, 6, 7, 8, 13, 14] rfl rfl (by decide) rfl (by decide) (by decide) [0, 1, 2] rfl rfl rfl hl.1 (Nat.le_of_ble_eq_true rfl) d_M_plan_16 ⟨Nat.zero_le _, Nat.zero_le _⟩ (fun u H locs hu hP hD hS => ?_)
        obtain ⟨rv2, su2, de2, fz2, BY2⟩ := u
        have hu2 := hu
        have hP := hP.sub (ws' := [((md 0), .inr (5, [.int (eI co), .int (eI ((n : Nat) : Int)), .ref (md 1), .ref (md 2), .ref (md 3), .int (eI sh), .int (eI ra), .ref (md 4), .ref (md 5), .ref (md 6), .ref (md 7), .ref (md 8), .long (eL up9), .long (eL lw9), .ref (md 9), .ref (md 10), .ref (md 11), .ref (md 12), .ref (md 13), .ref (md 14), .ref (md 15), .int (eI kn), .int (eI fo)])), ((md 1), aI cI 25 sc), ((md 2), aI cI 4 ln), ((md 3), aI cZ 4 cb), ((md 4), aI cZ 3 th), ((md 5), aI cI 3 pl), ((md 6), aI cI 3 lo), ((md 7), aI cI 3 pr), ((md 8), aI cI 30 la), ((md 9), aL cL 7 su2), ((md 10), aL cL 6 de2), ((md 11), aL cL 42 fz2), ((md 12), aI cI 42 cs), ((md 13), aL cL 13 G1), ((md 14), aL cL 13 G2), ((md 15), aI cI 13 BY2)]) [10, 0, 1, 2, 3, 4, 5, 6, 7, 11, 12, 13, 14, 8, 9, 15] rfl
        have hD := hD.sub (ws' := [((md 0), .inr (5, [.int (eI co), .int (eI ((n : Nat) : Int)), .ref (md 1), .ref (md 2), .ref (md 3), .int (eI sh), .int (eI ra), .ref (md 4), .ref (md 5), .ref (md 6), .ref (md 7), .ref (md 8), .long (eL up9), .long (eL lw9), .ref (md 9), .ref (md 10), .ref (md 11), .ref (md 12), .ref (md 13), .ref (md 14), .ref (md 15), .int (eI kn), .int (eI fo)])), ((md 1), aI cI 25 sc), ((md 2), aI cI 4 ln), ((md 3), aI cZ 4 cb), ((md 4), aI cZ 3 th), ((md 5), aI cI 3 pl), ((md 6), aI cI 3 lo), ((md 7), aI cI 3 pr), ((md 8), aI cI 30 la), ((md 9), aL cL 7 su2), ((md 10), aL cL 6 de2), ((md 11), aL cL 42 fz2), ((md 12), aI cI 42 cs), ((md 13), aL cL 13 G1), ((md 14), aL cL 13 G2), ((md 15), aI cI 13 BY2)]) [10, 0, 1, 2, 3, 4, 5, 6, 7, 11, 12, 13, 14, 8, 9, 15] (by decide) rfl
        refine lv_istore_n hx hb d_M_plan_19 rfl hl (by decide) rfl (fun ls hl => ?_)
        have hl : lv_has ls 5 [(3, .int (eI rv2)), (0, .ref (md 0))] := hl
        refine lv_goto (tgt := 11) hx hb d_M_plan_20 rfl ?_
        rcases hu2 with ⟨w1, w2, w3⟩ | ⟨w1, w2, w3, w4, w5, w6, w7⟩
        · have w1 : rv2 = 1 := w1
          have w3 : eh_sm de2 6 < eh_sm de 6 := w3
          have hd4 : 0 ≤ eh_sm de2 6 := eh_sm_nonneg (fun z hz => (w2.2.2 z hz).1)
          exact ih (2 * eh_sm de2 6 + rv2).toNat (by omega) su2 de2 fz2 _ _ BY2 rv2 H locs ls rfl w2 (Or.inl w1) (lv_sub hl [0, 1] rfl) hP hD hS
        · have w1 : rv2 = 0 := w1
          have w2 : su2 = su := w2
          have w3 : de2 = de := w3
          have w4 : fz2 = fw := w4
          exact ih (2 * eh_sm de2 6 + rv2).toNat (by rw [w3]; omega) su2 de2 fz2 _ _ BY2 rv2 H locs ls rfl (by rw [w2, w3, w4]; exact hrf) (Or.inr ⟨w1, by rw [w2]; exact w5, by rw [w4]; exact w6, by rw [w3]; exact w7⟩) (lv_sub hl [0, 1] rfl) hP hD hS
  rcases hu1 with ⟨w1, w2, w3⟩ | ⟨w1, w2, w3, w4, w5, w6, w7⟩
  · have w1 : rv1 = 1 := w1
    have w3 : eh_sm de1 6 < eh_sm Dv 6 := w3
    have hd4 : 0 ≤ eh_sm de1 6 := eh_sm_nonneg (fun z hz => (w2.2.2 z hz).1)
    exact lp _ su1 de1 fz1 _ _ BY1 rv1 H locs ls rfl w2 (Or.inl w1) (lv_sub hl [0, 1] rfl) hP hD hS
  · have w1 : rv1 = 0 := w1
    have w2 : su1 = Sv := w2
    have w3 : de1 = Dv := w3
    have w4 : fz1 = fw1 := w4
    exact lp _ su1 de1 fz1 _ _ BY1 rv1 H locs ls rfl (by rw [w2, w3, w4]; exact hrf1) (Or.inr ⟨w1, by rw [w2]; exact w5, by rw [w4]; exact w6, by rw [w3]; exact w7⟩) (lv_sub hl [0, 1] rfl) hP hD hS
