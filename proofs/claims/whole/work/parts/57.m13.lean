abbrev c_M_excess : ByteArray := prog_7_method_47_code
def y_M_excess : MethodName := ⟨"EarthHaulsModel", "excess", "()J"⟩
abbrev k_M_excess : Cond := .code y_M_excess c_M_excess 2 (some .long)
theorem kin_M_excess : k_M_excess ∈ ew_t := tb_843
theorem dv_M_excess : eh_dV y_M_excess "EarthHaulsModel" 0 := ⟨rfl, by decide, by decide, by decide +kernel⟩
theorem d_M_excess_0 : decode c_M_excess 0 = .ok (.aload_n 0, 1) := by decide +kernel
theorem d_M_excess_1 : decode c_M_excess 1 = .ok (.iconst 0, 1) := by decide +kernel
theorem d_M_excess_2 : decode c_M_excess 2 = .ok (.putfield 64, 3) := by decide +kernel
theorem d_M_excess_5 : decode c_M_excess 5 = .ok (.aload_n 0, 1) := by decide +kernel
theorem d_M_excess_6 : decode c_M_excess 6 = .ok (.invokevirtual 191, 3) := by decide +kernel
theorem d_M_excess_9 : decode c_M_excess 9 = .ok (.iconst (-1), 1) := by decide +kernel
theorem d_M_excess_10 : decode c_M_excess 10 = .ok (.if_icmp .eq 7, 3) := by decide +kernel
theorem d_M_excess_13 : decode c_M_excess 13 = .ok (.ldc2_w 189, 3) := by decide +kernel
theorem d_M_excess_16 : decode c_M_excess 16 = .ok (.lreturn, 1) := by decide +kernel
theorem d_M_excess_17 : decode c_M_excess 17 = .ok (.aload_n 0, 1) := by decide +kernel
theorem d_M_excess_18 : decode c_M_excess 18 = .ok (.invokevirtual 182, 3) := by decide +kernel
theorem d_M_excess_21 : decode c_M_excess 21 = .ok (.istore_n 1, 1) := by decide +kernel
theorem d_M_excess_22 : decode c_M_excess 22 = .ok (.aload_n 0, 1) := by decide +kernel
theorem d_M_excess_23 : decode c_M_excess 23 = .ok (.invokevirtual 194, 3) := by decide +kernel
theorem d_M_excess_26 : decode c_M_excess 26 = .ok (.aload_n 0, 1) := by decide +kernel
theorem d_M_excess_27 : decode c_M_excess 27 = .ok (.invokevirtual 185, 3) := by decide +kernel
theorem d_M_excess_30 : decode c_M_excess 30 = .ok (.lsub, 1) := by decide +kernel
theorem d_M_excess_31 : decode c_M_excess 31 = .ok (.lreturn, 1) := by decide +kernel
set_option maxHeartbeats 1000000 in
set_option maxRecDepth 100000 in
theorem m_M_excess (l : Launch) (D : va_G) (cI cL cZ : ClassId) (md : Nat → Nat) (co : Int) (n : Nat) (sh ra up lw kn fo : Int) (sc ln cb th pl lo pr la : Nat → Int) (cu cl fu fl : Nat → Nat) (ys yl yp : Nat → Int) (su0 de0 fw0 cs0 G10 G20 BY0 : Nat → Int) (hM : eh_MS n sh ra sc ln cb th pl lo pr la cu cl fu fl ys yl yp) (hkn : kn = 0 ∨ kn = 1 ∧ eh_pf (eh_kc n ra ln cb ys yp) (eh_pA n sh ln cu cl yl (-1)) (eh_pB n ln fu fl yl (-1)) cs0 fw0 fo) : eh_M (S := Int × Int × Int × Int × (Nat → Int) × (Nat → Int) × (Nat → Int) × (Nat → Int) × (Nat → Int) × (Nat → Int) × (Nat → Int)) l y_M_excess k_M_excess 8 208 D classes [(cI, .int), (cL, .long), (cZ, .boolean)] [.ref (md 0)] [((md 0), .inr (5, [.int (eI co), .int (eI ((n : Nat) : Int)), .ref (md 1), .ref (md 2), .ref (md 3), .int (eI sh), .int (eI ra), .ref (md 4), .ref (md 5), .ref (md 6), .ref (md 7), .ref (md 8), .long (eL up), .long (eL lw), .ref (md 9), .ref (md 10), .ref (md 11), .ref (md 12), .ref (md 13), .ref (md 14), .ref (md 15), .int (eI kn), .int (eI fo)])), ((md 1), aI cI 25 sc), ((md 2), aI cI 4 ln), ((md 3), aI cZ 4 cb), ((md 4), aI cZ 3 th), ((md 5), aI cI 3 pl), ((md 6), aI cI 3 lo), ((md 7), aI cI 3 pr), ((md 8), aI cI 30 la), ((md 9), aL cL 7 su0), ((md 10), aL cL 6 de0), ((md 11), aL cL 42 fw0), ((md 12), aI cI 42 cs0), ((md 13), aL cL 13 G10), ((md 14), aL cL 13 G20), ((md 15), aI cI 13 BY0)] (fun u => ((eh_jg n sh ra ln cb la cu cl fu fl ys yl yp) ≠ -1 ∧ u.1 = kn ∧ u.2.1 = fo ∧ (u.2.2.2.2.2.2.1, u.2.2.2.2.2.2.2.1) = (fw0, cs0)) ∨ ((eh_jg n sh ra ln cb la cu cl fu fl ys yl yp) = -1 ∧ u.1 = 1 ∧ eh_pf (eh_kc n ra ln cb ys yp) (eh_pA n sh ln cu cl yl (-1)) (eh_pB n ln fu fl yl (-1)) u.2.2.2.2.2.2.2.1 u.2.2.2.2.2.2.1 u.2.1)) (fun u => some (.long (eL (if (eh_jg n sh ra ln cb la cu cl fu fl ys yl yp) = -1 then (eh_wo (eh_kc n ra ln cb ys yp) la 30) - eh_tot u.2.2.2.2.2.2.1 u.2.2.2.2.2.2.2.1 else -1)))) (fun u => [((md 0), .inr (5, [.int (eI 0), .int (eI ((n : Nat) : Int)), .ref (md 1), .ref (md 2), .ref (md 3), .int (eI sh), .int (eI ra), .ref (md 4), .ref (md 5), .ref (md 6), .ref (md 7), .ref (md 8), .long (eL u.2.2.1), .long (eL u.2.2.2.1), .ref (md 9), .ref (md 10), .ref (md 11), .ref (md 12), .ref (md 13), .ref (md 14), .ref (md 15), .int (eI u.1), .int (eI u.2.1)])), ((md 1), aI cI 25 sc), ((md 2), aI cI 4 ln), ((md 3), aI cZ 4 cb), ((md 4), aI cZ 3 th), ((md 5), aI cI 3 pl), ((md 6), aI cI 3 lo), ((md 7), aI cI 3 pr), ((md 8), aI cI 30 la), ((md 9), aL cL 7 u.2.2.2.2.1), ((md 10), aL cL 6 u.2.2.2.2.2.1), ((md 11), aL cL 42 u.2.2.2.2.2.2.1), ((md 12), aI cI 42 u.2.2.2.2.2.2.2.1), ((md 13), aL cL 13 u.2.2.2.2.2.2.2.2.1), ((md 14), aL cL 13 u.2.2.2.2.2.2.2.2.2.1), ((md 15), aI cI 13 u.2.2.2.2.2.2.2.2.2.2)]) := by
  intro sz
  refine Met.ofW (cc := c_M_excess) (maxL := 2) (ret := (some .long)) (by decide) rfl ?_
  intro p e s m args below meth c s₁ B hml hv
  obtain ⟨hargs, hsz, hP, hK, hD0, hN⟩ := hv
  have hx := B.exec
  have hb := B.bytes
  have hrt := B.returns
  have hts := atoms_spec (ws := k_M_excess :: ew_t) B.pre
  have htb : ∀ w ∈ ew_t, w.before args s = true := fun w h => hts w (List.mem_cons_of_mem _ h)
  have hown : s.vm.findClass "EarthHaulsModel" = some m.cls := findClass_of_methodNamed B.named
  have hlocks := B.notSynchronized
  have hE : entryFrame m args 2 = entryFrame m ([.ref (md 0)] : List Value).toArray 2 := by rw [hargs]
  rw [hE]
  clear hE hts B hargs
  generalize hRe : (headSpec _ _).room = R
  have hR1 : R.frames = 8 := by rw [← hRe]; rfl
  have hR2 : R.locals = 208 := by rw [← hRe]; rfl
  clear hRe
  generalize hQ : MQ below _ _ s 0 0 _ = Q
  subst hsz
  have hD := hD0.self (sz := s.heap.size)
  generalize hAe : va_A [((md 0), .inr (5, [.int (eI co), .int (eI ((n : Nat) : Int)), .ref (md 1), .ref (md 2), .ref (md 3), .int (eI sh), .int (eI ra), .ref (md 4), .ref (md 5), .ref (md 6), .ref (md 7), .ref (md 8), .long (eL up), .long (eL lw), .ref (md 9), .ref (md 10), .ref (md 11), .ref (md 12), .ref (md 13), .ref (md 14), .ref (md 15), .int (eI kn), .int (eI fo)])), ((md 1), aI cI 25 sc), ((md 2), aI cI 4 ln), ((md 3), aI cZ 4 cb), ((md 4), aI cZ 3 th), ((md 5), aI cI 3 pl), ((md 6), aI cI 3 lo), ((md 7), aI cI 3 pr), ((md 8), aI cI 30 la), ((md 9), aL cL 7 su0), ((md 10), aL cL 6 de0), ((md 11), aL cL 42 fw0), ((md 12), aI cI 42 cs0), ((md 13), aL cL 13 G10), ((md 14), aL cL 13 G20), ((md 15), aI cI 13 BY0)] s.heap.size = A at hD hQ
  have hA : ∀ q : Nat, s.heap.size ≤ q → A q := fun q h => by rw [← hAe]; exact Or.inr h
  have hS : va_S A s.heap s.heap [] := va_S.rf
  have hP : va_P D classes [((md 0), .inr (5, [.int (eI co), .int (eI ((n : Nat) : Int)), .ref (md 1), .ref (md 2), .ref (md 3), .int (eI sh), .int (eI ra), .ref (md 4), .ref (md 5), .ref (md 6), .ref (md 7), .ref (md 8), .long (eL up), .long (eL lw), .ref (md 9), .ref (md 10), .ref (md 11), .ref (md 12), .ref (md 13), .ref (md 14), .ref (md 15), .int (eI kn), .int (eI fo)])), ((md 1), aI cI 25 sc), ((md 2), aI cI 4 ln), ((md 3), aI cZ 4 cb), ((md 4), aI cZ 3 th), ((md 5), aI cI 3 pl), ((md 6), aI cI 3 lo), ((md 7), aI cI 3 pr), ((md 8), aI cI 30 la), ((md 9), aL cL 7 su0), ((md 10), aL cL 6 de0), ((md 11), aL cL 42 fw0), ((md 12), aI cI 42 cs0), ((md 13), aL cL 13 G10), ((md 14), aL cL 13 G20), ((md 15), aI cI 13 BY0)] s.heap := hP
  have hl := lv_entry ([.ref (md 0)]) (n := 2) (Nat.le_of_ble_eq_true rfl)
  rw [lg_entry_eq]
  generalize (lg_sl ([.ref (md 0)]) ++ List.replicate (2 - (lg_sl ([.ref (md 0)])).length) Slot.unset).toArray = ls at hl ⊢
  have hl : lv_has ls 2 [(0, .ref (md 0))] := hl
  have hjb : -1 ≤ (eh_jg n sh ra ln cb la cu cl fu fl ys yl yp) ∧ (eh_jg n sh ra ln cb la cu cl fu fl ys yl yp) ≤ 130 := eh_jg_b _ _ _ _ _ _ _ _ _ _ _ _ _
  refine lv_aload_n hx hb d_M_excess_0 rfl (lv_at hl 0 rfl) ?_
  refine lv_iconst (v := eI 0) hx hb d_M_excess_1 rfl ?_
  refine va_put (D := D) (ci := 5) (v := .int (eI 0)) (ty := .int) (C := R_M) (T := T_M) (N := 23) hx hb htb in_M t_M t_M_ok n_M hown hK hP hD hS 0 rfl rfl 0 (by decide) (htb _ tb_588) (fun _ h9 => h9) rfl (by decide +kernel) rfl rfl (Nat.le_of_ble_eq_true rfl) d_M_excess_2 (fun H locs hP hD hS => ?_)
  have hP : va_P D classes [((md 0), .inr (5, [.int (eI 0), .int (eI ((n : Nat) : Int)), .ref (md 1), .ref (md 2), .ref (md 3), .int (eI sh), .int (eI ra), .ref (md 4), .ref (md 5), .ref (md 6), .ref (md 7), .ref (md 8), .long (eL up), .long (eL lw), .ref (md 9), .ref (md 10), .ref (md 11), .ref (md 12), .ref (md 13), .ref (md 14), .ref (md 15), .int (eI kn), .int (eI fo)])), ((md 1), aI cI 25 sc), ((md 2), aI cI 4 ln), ((md 3), aI cZ 4 cb), ((md 4), aI cZ 3 th), ((md 5), aI cI 3 pl), ((md 6), aI cI 3 lo), ((md 7), aI cI 3 pr), ((md 8), aI cI 30 la), ((md 9), aL cL 7 su0), ((md 10), aL cL 6 de0), ((md 11), aL cL 42 fw0), ((md 12), aI cI 42 cs0), ((md 13), aL cL 13 G10), ((md 14), aL cL 13 G20), ((md 15), aI cI 13 BY0)] H := hP
  have hD : va_D A [((md 0), .inr (5, [.int (eI 0), .int (eI ((n : Nat) : Int)), .ref (md 1), .ref (md 2), .ref (md 3), .int (eI sh), .int (eI ra), .ref (md 4), .ref (md 5), .ref (md 6), .ref (md 7), .ref (md 8), .long (eL up), .long (eL lw), .ref (md 9), .ref (md 10), .ref (md 11), .ref (md 12), .ref (md 13), .ref (md 14), .ref (md 15), .int (eI kn), .int (eI fo)])), ((md 1), aI cI 25 sc), ((md 2), aI cI 4 ln), ((md 3), aI cZ 4 cb), ((md 4), aI cZ 3 th), ((md 5), aI cI 3 pl), ((md 6), aI cI 3 lo), ((md 7), aI cI 3 pr), ((md 8), aI cI 30 la), ((md 9), aL cL 7 su0), ((md 10), aL cL 6 de0), ((md 11), aL cL 42 fw0), ((md 12), aI cI 42 cs0), ((md 13), aL cL 13 G10), ((md 14), aL cL 13 G20), ((md 15), aI cI 13 BY0)] := hD
  refine lv_aload_n hx hb d_M_excess_5 rfl (lv_at hl 0 rfl) ?_
  refine eh_cMV (As := []) (rest := []) (q := (R_M, T_M, 23)) (wr := [((md 9), aL cL 7 su0), ((md 10), aL cL 6 de0), ((md 11), aL cL 42 fw0), ((md 12), aI cI 42 cs0), ((md 13), aL cL 13 G10), ((md 14), aL cL 13 G20), ((md 15), aI cI 13 BY0)]) hx hb hml hown htb hN (m_M_fault l D cI cL cZ md 0 n sh ra up lw kn fo sc ln cb th pl lo pr la cu cl fu fl ys yl yp hM) 0 ⟨tb_828, tb_830, ts_50, tb_7, kin_M_fault⟩ dv_M_fault ⟨by rw [hR1]; decide, by rw [hR2]; decide⟩ hK hP hD hS hA 0 rfl rfl [0, 1, 2, 3, 4, 5, 6, 7, 8] [9, 10, 11, 12, 13, 14, 15] rfl rfl (by decide) rfl (by decide) (by decide) [0, 1, 2] rfl rfl rfl hl.1 (Nat.le_of_ble_eq_true rfl) d_M_excess_6 ⟨Nat.zero_le _, Nat.zero_le _⟩ (fun u H locs hu hP hD hS => ?_)
  obtain ⟨up8, lw8⟩ := u
  have hP := hP.sub (ws' := [((md 0), .inr (5, [.int (eI 0), .int (eI ((n : Nat) : Int)), .ref (md 1), .ref (md 2), .ref (md 3), .int (eI sh), .int (eI ra), .ref (md 4), .ref (md 5), .ref (md 6), .ref (md 7), .ref (md 8), .long (eL up8), .long (eL lw8), .ref (md 9), .ref (md 10), .ref (md 11), .ref (md 12), .ref (md 13), .ref (md 14), .ref (md 15), .int (eI kn), .int (eI fo)])), ((md 1), aI cI 25 sc), ((md 2), aI cI 4 ln), ((md 3), aI cZ 4 cb), ((md 4), aI cZ 3 th), ((md 5), aI cI 3 pl), ((md 6), aI cI 3 lo), ((md 7), aI cI 3 pr), ((md 8), aI cI 30 la), ((md 9), aL cL 7 su0), ((md 10), aL cL 6 de0), ((md 11), aL cL 42 fw0), ((md 12), aI cI 42 cs0), ((md 13), aL cL 13 G10), ((md 14), aL cL 13 G20), ((md 15), aI cI 13 BY0)]) [7, 8, 9, 10, 11, 12, 13, 14, 15, 0, 1, 2, 3, 4, 5, 6] rfl
  have hD := hD.sub (ws' := [((md 0), .inr (5, [.int (eI 0), .int (eI ((n : Nat) : Int)), .ref (md 1), .ref (md 2), .ref (md 3), .int (eI sh), .int (eI ra), .ref (md 4), .ref (md 5), .ref (md 6), .ref (md 7), .ref (md 8), .long (eL up8), .long (eL lw8), .ref (md 9), .ref (md 10), .ref (md 11), .ref (md 12), .ref (md 13), .ref (md 14), .ref (md 15), .int (eI kn), .int (eI fo)])), ((md 1), aI cI 25 sc), ((md 2), aI cI 4 ln), ((md 3), aI cZ 4 cb), ((md 4), aI cZ 3 th), ((md 5), aI cI 3 pl), ((md 6), aI cI 3 lo), ((md 7), aI cI 3 pr), ((md 8), aI cI 30 la), ((md 9), aL cL 7 su0), ((md 10), aL cL 6 de0), ((md 11), aL cL 42 fw0), ((md 12), aI cI 42 cs0), ((md 13), aL cL 13 G10), ((md 14), aL cL 13 G20), ((md 15), aI cI 13 BY0)]) [7, 8, 9, 10, 11, 12, 13, 14, 15, 0, 1, 2, 3, 4, 5, 6] (by decide) rfl
  refine lv_iconst (v := eI (-1)) hx hb d_M_excess_9 rfl ?_
  refine we_icmp_eq (tgt := 17) hx hb (by constructor <;> omega) (by constructor <;> omega) d_M_excess_10 rfl (fun hc10 => ?_) (fun hc10 => ?_)
  ·
    refine lv_aload_n hx hb d_M_excess_17 rfl (lv_at hl 0 rfl) ?_
    refine eh_cMV (As := []) (rest := []) (q := (R_M, T_M, 23)) (wr := []) hx hb hml hown htb hN (m_M_planNow l D cI cL cZ md 0 n sh ra up8 lw8 kn fo sc ln cb th pl lo pr la cu cl fu fl ys yl yp su0 de0 fw0 cs0 G10 G20 BY0 hM hkn) 0 ⟨tb_757, tb_759, ts_37, tb_7, kin_M_planNow⟩ dv_M_planNow ⟨by rw [hR1]; decide, by rw [hR2]; decide⟩ hK hP hD hS hA 0 rfl rfl [0, 1, 2, 3, 4, 5, 6, 7, 8, 9, 10, 11, 12, 13, 14, 15] [] rfl rfl (by decide) rfl (by decide) (by decide) [0, 1, 2] rfl rfl rfl hl.1 (Nat.le_of_ble_eq_true rfl) d_M_excess_18 ⟨Nat.zero_le _, Nat.zero_le _⟩ (fun u H locs hu hP hD hS => ?_)
    obtain ⟨rv, up9, lw9, su, de, fw, cs, G1, G2, BY⟩ := u
    have hu : eh_pf (eh_kc n ra ln cb ys yp) (eh_pA n sh ln cu cl yl (-1)) (eh_pB n ln fu fl yl (-1)) cs fw rv := hu
    have hun := hu
    have hrv : rv = 1 ∨ rv = 0 := by rcases hu.2 with w | w; exact Or.inl w.1; exact Or.inr w.1
    have hcs2 := eh_rc_b (fun k hk => by have := eh_ku_b hM.1 (s := k / 5) (t := k % 5) (by omega) (by omega); exact this) hu.1
    have hP := hP.sub (ws' := [((md 0), .inr (5, [.int (eI 0), .int (eI ((n : Nat) : Int)), .ref (md 1), .ref (md 2), .ref (md 3), .int (eI sh), .int (eI ra), .ref (md 4), .ref (md 5), .ref (md 6), .ref (md 7), .ref (md 8), .long (eL up9), .long (eL lw9), .ref (md 9), .ref (md 10), .ref (md 11), .ref (md 12), .ref (md 13), .ref (md 14), .ref (md 15), .int (eI 1), .int (eI rv)])), ((md 1), aI cI 25 sc), ((md 2), aI cI 4 ln), ((md 3), aI cZ 4 cb), ((md 4), aI cZ 3 th), ((md 5), aI cI 3 pl), ((md 6), aI cI 3 lo), ((md 7), aI cI 3 pr), ((md 8), aI cI 30 la), ((md 9), aL cL 7 su), ((md 10), aL cL 6 de), ((md 11), aL cL 42 fw), ((md 12), aI cI 42 cs), ((md 13), aL cL 13 G1), ((md 14), aL cL 13 G2), ((md 15), aI cI 13 BY)]) [0, 1, 2, 3, 4, 5, 6, 7, 8, 9, 10, 11, 12, 13, 14, 15] rfl
    have hD := hD.sub (ws' := [((md 0), .inr (5, [.int (eI 0), .int (eI ((n : Nat) : Int)), .ref (md 1), .ref (md 2), .ref (md 3), .int (eI sh), .int (eI ra), .ref (md 4), .ref (md 5), .ref (md 6), .ref (md 7), .ref (md 8), .long (eL up9), .long (eL lw9), .ref (md 9), .ref (md 10), .ref (md 11), .ref (md 12), .ref (md 13), .ref (md 14), .ref (md 15), .int (eI 1), .int (eI rv)])), ((md 1), aI cI 25 sc), ((md 2), aI cI 4 ln), ((md 3), aI cZ 4 cb), ((md 4), aI cZ 3 th), ((md 5), aI cI 3 pl), ((md 6), aI cI 3 lo), ((md 7), aI cI 3 pr), ((md 8), aI cI 30 la), ((md 9), aL cL 7 su), ((md 10), aL cL 6 de), ((md 11), aL cL 42 fw), ((md 12), aI cI 42 cs), ((md 13), aL cL 13 G1), ((md 14), aL cL 13 G2), ((md 15), aI cI 13 BY)]) [0, 1, 2, 3, 4, 5, 6, 7, 8, 9, 10, 11, 12, 13, 14, 15] (by decide) rfl
    refine lv_istore_n hx hb d_M_excess_21 rfl hl (by decide) rfl (fun ls hl => ?_)
    have hl : lv_has ls 2 [(1, .int (eI rv)), (0, .ref (md 0))] := hl
    refine lv_aload_n hx hb d_M_excess_22 rfl (lv_at hl 1 rfl) ?_
    refine eh_cRV (As := []) (rest := []) (v := .long (eL (eh_wo (eh_kc n ra ln cb ys yp) la 30))) (q := (R_M, T_M, 23)) hx hb hml hown htb hN (r_M_worthOf l D cI cL cZ md 0 n sh ra up9 lw9 1 rv sc ln cb th pl lo pr la cu cl fu fl ys yl yp hM) 0 ⟨tb_836, tb_838, ts_51, tb_7, kin_M_worthOf⟩ dv_M_worthOf ⟨by rw [hR1]; decide, by rw [hR2]; decide⟩ hK hP 0 rfl rfl [0, 1, 2, 3, 4, 5, 6, 7, 8] rfl [0, 1, 2] rfl rfl rfl hl.1 (Nat.le_of_ble_eq_true rfl) d_M_excess_23 ⟨Nat.zero_le _, Nat.zero_le _⟩ ?_
    refine lv_aload_n hx hb d_M_excess_26 rfl (lv_at hl 1 rfl) ?_
    refine eh_cRV (As := []) (rest := [.long (eL (eh_wo (eh_kc n ra ln cb ys yp) la 30))]) (v := .long (eL (eh_tot fw cs))) (q := (R_M, T_M, 23)) hx hb hml hown htb hN (r_M_total l D cI cL cZ md 0 n sh ra up9 lw9 1 rv fw cs hcs2) 0 ⟨tb_807, tb_809, ts_49, tb_7, kin_M_total⟩ dv_M_total ⟨by rw [hR1]; decide, by rw [hR2]; decide⟩ hK hP 0 rfl rfl [0, 11, 12] rfl [0, 1, 2] rfl rfl rfl hl.1 (Nat.le_of_ble_eq_true rfl) d_M_excess_27 ⟨Nat.zero_le _, Nat.zero_le _⟩ ?_
    refine we_lsub hx hb d_M_excess_30 ?_
    have hres : (((eh_wo (eh_kc n ra ln cb ys yp) la 30) - (eh_tot fw cs)) : Int) = (if (eh_jg n sh ra ln cb la cu cl fu fl ys yl yp) = -1 then (eh_wo (eh_kc n ra ln cb ys yp) la 30) - eh_tot fw cs else -1) := by rw [if_pos (by omega)]
    rw [hres]
    subst hQ
    exact W.lret hx hb hrt (fun t9 ht hW => ⟨⟨(1, rv, up9, lw9, su, de, fw, cs, G1, G2, BY), rfl, Or.inr ⟨by omega, rfl, hu⟩, by rw [ht]; exact hP, hD⟩, hS.F ht⟩) hS.2.2 d_M_excess_31
  ·
    refine we_ldc2 (a := (-1)) hx hb hown (htb _ tb_811) (by decide) d_M_excess_13 ?_
    have hres : (-1 : Int) = (if (eh_jg n sh ra ln cb la cu cl fu fl ys yl yp) = -1 then (eh_wo (eh_kc n ra ln cb ys yp) la 30) - eh_tot fw0 cs0 else -1) := by rw [if_neg (by omega)]
    rw [hres]
    subst hQ
    exact W.lret hx hb hrt (fun t9 ht hW => ⟨⟨(kn, fo, up8, lw8, su0, de0, fw0, cs0, G10, G20, BY0), rfl, Or.inl ⟨by omega, rfl, rfl, rfl⟩, by rw [ht]; exact hP, hD⟩, hS.F ht⟩) hS.2.2 d_M_excess_16
abbrev c_M_more : ByteArray := prog_7_method_41_code
def y_M_more : MethodName := ⟨"EarthHaulsModel", "more", "(IZ)J"⟩
abbrev k_M_more : Cond := .code y_M_more c_M_more 5 (some .long)
theorem kin_M_more : k_M_more ∈ ew_t := tb_819
theorem dv_M_more : eh_dV y_M_more "EarthHaulsModel" 2 := ⟨rfl, by decide, by decide, by decide +kernel⟩
theorem d_M_more_0 : decode c_M_more 0 = .ok (.aload_n 0, 1) := by decide +kernel
theorem d_M_more_1 : decode c_M_more 1 = .ok (.aload_n 0, 1) := by decide +kernel
theorem d_M_more_2 : decode c_M_more 2 = .ok (.iload_n 1, 1) := by decide +kernel
theorem d_M_more_3 : decode c_M_more 3 = .ok (.invokevirtual 111, 3) := by decide +kernel
theorem d_M_more_6 : decode c_M_more 6 = .ok (.ifCond .eq 7, 3) := by decide +kernel
theorem d_M_more_9 : decode c_M_more 9 = .ok (.iconst 1, 1) := by decide +kernel
theorem d_M_more_10 : decode c_M_more 10 = .ok (.goto 4, 3) := by decide +kernel
theorem d_M_more_13 : decode c_M_more 13 = .ok (.iconst 0, 1) := by decide +kernel
theorem d_M_more_14 : decode c_M_more 14 = .ok (.putfield 64, 3) := by decide +kernel
theorem d_M_more_17 : decode c_M_more 17 = .ok (.aload_n 0, 1) := by decide +kernel
theorem d_M_more_18 : decode c_M_more 18 = .ok (.getfield 64, 3) := by decide +kernel
theorem d_M_more_21 : decode c_M_more 21 = .ok (.ifCond .le 5, 3) := by decide +kernel
theorem d_M_more_24 : decode c_M_more 24 = .ok (.lconst 0, 1) := by decide +kernel
theorem d_M_more_25 : decode c_M_more 25 = .ok (.lreturn, 1) := by decide +kernel
theorem d_M_more_26 : decode c_M_more 26 = .ok (.aload_n 0, 1) := by decide +kernel
theorem d_M_more_27 : decode c_M_more 27 = .ok (.invokevirtual 182, 3) := by decide +kernel
theorem d_M_more_30 : decode c_M_more 30 = .ok (.ifCond .ne 7, 3) := by decide +kernel
theorem d_M_more_33 : decode c_M_more 33 = .ok (.ldc2_w 189, 3) := by decide +kernel
theorem d_M_more_36 : decode c_M_more 36 = .ok (.lreturn, 1) := by decide +kernel
theorem d_M_more_37 : decode c_M_more 37 = .ok (.aload_n 0, 1) := by decide +kernel
theorem d_M_more_38 : decode c_M_more 38 = .ok (.invokevirtual 185, 3) := by decide +kernel
theorem d_M_more_41 : decode c_M_more 41 = .ok (.lstore_n 3, 1) := by decide +kernel
theorem d_M_more_42 : decode c_M_more 42 = .ok (.aload_n 0, 1) := by decide +kernel
theorem d_M_more_43 : decode c_M_more 43 = .ok (.iconst 0, 1) := by decide +kernel
theorem d_M_more_44 : decode c_M_more 44 = .ok (.putfield 103, 3) := by decide +kernel
theorem d_M_more_47 : decode c_M_more 47 = .ok (.aload_n 0, 1) := by decide +kernel
theorem d_M_more_48 : decode c_M_more 48 = .ok (.iload_n 2, 1) := by decide +kernel
theorem d_M_more_49 : decode c_M_more 49 = .ok (.ifCond .eq 7, 3) := by decide +kernel
theorem d_M_more_52 : decode c_M_more 52 = .ok (.iload_n 1, 1) := by decide +kernel
theorem d_M_more_53 : decode c_M_more 53 = .ok (.goto 4, 3) := by decide +kernel
theorem d_M_more_56 : decode c_M_more 56 = .ok (.iconst (-1), 1) := by decide +kernel
theorem d_M_more_57 : decode c_M_more 57 = .ok (.iload_n 2, 1) := by decide +kernel
theorem d_M_more_58 : decode c_M_more 58 = .ok (.ifCond .eq 7, 3) := by decide +kernel
theorem d_M_more_61 : decode c_M_more 61 = .ok (.iconst (-1), 1) := by decide +kernel
theorem d_M_more_62 : decode c_M_more 62 = .ok (.goto 4, 3) := by decide +kernel
theorem d_M_more_65 : decode c_M_more 65 = .ok (.iload_n 1, 1) := by decide +kernel
theorem d_M_more_66 : decode c_M_more 66 = .ok (.invokevirtual 176, 3) := by decide +kernel
theorem d_M_more_69 : decode c_M_more 69 = .ok (.ifCond .eq 12, 3) := by decide +kernel
theorem d_M_more_72 : decode c_M_more 72 = .ok (.aload_n 0, 1) := by decide +kernel
theorem d_M_more_73 : decode c_M_more 73 = .ok (.invokevirtual 185, 3) := by decide +kernel
theorem d_M_more_76 : decode c_M_more 76 = .ok (.lload_n 3, 1) := by decide +kernel
theorem d_M_more_77 : decode c_M_more 77 = .ok (.lsub, 1) := by decide +kernel
theorem d_M_more_78 : decode c_M_more 78 = .ok (.goto 6, 3) := by decide +kernel
theorem d_M_more_81 : decode c_M_more 81 = .ok (.ldc2_w 189, 3) := by decide +kernel
theorem d_M_more_84 : decode c_M_more 84 = .ok (.lreturn, 1) := by decide +kernel
set_option maxHeartbeats 1000000 in
set_option maxRecDepth 100000 in
theorem m_M_more_1 (l : Launch) (D : va_G) (cI cL cZ : ClassId) (md : Nat → Nat) (co : Int) (n : Nat) (sh ra up lw kn fo : Int) (sc ln cb th pl lo pr la : Nat → Int) (cu cl fu fl : Nat → Nat) (ys yl yp : Nat → Int) (y : Int) (hy : -2147483648 ≤ y ∧ y < 2147483648) (su0 de0 fw0 cs0 G10 G20 BY0 : Nat → Int) (hM : eh_MS n sh ra sc ln cb th pl lo pr la cu cl fu fl ys yl yp) (hkn : kn = 0 ∨ kn = 1 ∧ eh_pf (eh_kc n ra ln cb ys yp) (eh_pA n sh ln cu cl yl (-1)) (eh_pB n ln fu fl yl (-1)) cs0 fw0 fo) : eh_M (S := Int × Int × Int × Int × Int × Int × (Nat → Int) × (Nat → Int) × (Nat → Int) × (Nat → Int) × (Nat → Int) × (Nat → Int) × (Nat → Int)) l y_M_more k_M_more 8 208 D classes [(cI, .int), (cL, .long), (cZ, .boolean)] [.ref (md 0), .int (eI y), .int (eI 1)] [((md 0), .inr (5, [.int (eI co), .int (eI ((n : Nat) : Int)), .ref (md 1), .ref (md 2), .ref (md 3), .int (eI sh), .int (eI ra), .ref (md 4), .ref (md 5), .ref (md 6), .ref (md 7), .ref (md 8), .long (eL up), .long (eL lw), .ref (md 9), .ref (md 10), .ref (md 11), .ref (md 12), .ref (md 13), .ref (md 14), .ref (md 15), .int (eI kn), .int (eI fo)])), ((md 1), aI cI 25 sc), ((md 2), aI cI 4 ln), ((md 3), aI cZ 4 cb), ((md 4), aI cZ 3 th), ((md 5), aI cI 3 pl), ((md 6), aI cI 3 lo), ((md 7), aI cI 3 pr), ((md 8), aI cI 30 la), ((md 9), aL cL 7 su0), ((md 10), aL cL 6 de0), ((md 11), aL cL 42 fw0), ((md 12), aI cI 42 cs0), ((md 13), aL cL 13 G10), ((md 14), aL cL 13 G20), ((md 15), aI cI 13 BY0)] (fun u => ((y < 0 ∨ (n : Int) ≤ y + 1) ∧ u = (0, 1, kn, fo, up, lw, su0, de0, fw0, cs0, G10, G20, BY0)) ∨ (¬ (y < 0 ∨ (n : Int) ≤ y + 1) ∧ u.2.1 = 0 ∧ ((u.1 = -1 ∧ u.2.2.1 = 1 ∧ u.2.2.2.1 = 0 ∧ eh_pf (eh_kc n ra ln cb ys yp) (eh_pA n sh ln cu cl yl (-1)) (eh_pB n ln fu fl yl (-1)) u.2.2.2.2.2.2.2.2.2.1 u.2.2.2.2.2.2.2.2.1 u.2.2.2.1) ∨ (u.2.2.1 = 0 ∧ u.2.2.2.1 = 1 ∧ ∃ (fa ca : Nat → Int), eh_pf (eh_kc n ra ln cb ys yp) (eh_pA n sh ln cu cl yl (-1)) (eh_pB n ln fu fl yl (-1)) ca fa 1 ∧ ∃ rb9 : Int, eh_pf (eh_kc n ra ln cb ys yp) (eh_pA n sh ln cu cl yl y) (eh_pB n ln fu fl yl (-1)) u.2.2.2.2.2.2.2.2.2.1 u.2.2.2.2.2.2.2.2.1 rb9 ∧ u.1 = if rb9 = 1 then eh_tot u.2.2.2.2.2.2.2.2.1 u.2.2.2.2.2.2.2.2.2.1 - eh_tot fa ca else -1)))) (fun u => some (.long (eL u.1))) (fun u => [((md 0), .inr (5, [.int (eI u.2.1), .int (eI ((n : Nat) : Int)), .ref (md 1), .ref (md 2), .ref (md 3), .int (eI sh), .int (eI ra), .ref (md 4), .ref (md 5), .ref (md 6), .ref (md 7), .ref (md 8), .long (eL u.2.2.2.2.1), .long (eL u.2.2.2.2.2.1), .ref (md 9), .ref (md 10), .ref (md 11), .ref (md 12), .ref (md 13), .ref (md 14), .ref (md 15), .int (eI u.2.2.1), .int (eI u.2.2.2.1)])), ((md 1), aI cI 25 sc), ((md 2), aI cI 4 ln), ((md 3), aI cZ 4 cb), ((md 4), aI cZ 3 th), ((md 5), aI cI 3 pl), ((md 6), aI cI 3 lo), ((md 7), aI cI 3 pr), ((md 8), aI cI 30 la), ((md 9), aL cL 7 u.2.2.2.2.2.2.1), ((md 10), aL cL 6 u.2.2.2.2.2.2.2.1), ((md 11), aL cL 42 u.2.2.2.2.2.2.2.2.1), ((md 12), aI cI 42 u.2.2.2.2.2.2.2.2.2.1), ((md 13), aL cL 13 u.2.2.2.2.2.2.2.2.2.2.1), ((md 14), aL cL 13 u.2.2.2.2.2.2.2.2.2.2.2.1), ((md 15), aI cI 13 u.2.2.2.2.2.2.2.2.2.2.2.2)]) := by
  intro sz
  refine Met.ofW (cc := c_M_more) (maxL := 5) (ret := (some .long)) (by decide) rfl ?_
  intro p e s m args below meth c s₁ B hml hv
  obtain ⟨hargs, hsz, hP, hK, hD0, hN⟩ := hv
  have hx := B.exec
  have hb := B.bytes
  have hrt := B.returns
  have hts := atoms_spec (ws := k_M_more :: ew_t) B.pre
  have htb : ∀ w ∈ ew_t, w.before args s = true := fun w h => hts w (List.mem_cons_of_mem _ h)
  have hown : s.vm.findClass "EarthHaulsModel" = some m.cls := findClass_of_methodNamed B.named
  have hlocks := B.notSynchronized
  have hE : entryFrame m args 5 = entryFrame m ([.ref (md 0), .int (eI y), .int (eI 1)] : List Value).toArray 5 := by rw [hargs]
  rw [hE]
  clear hE hts B hargs
  generalize hRe : (headSpec _ _).room = R
  have hR1 : R.frames = 8 := by rw [← hRe]; rfl
  have hR2 : R.locals = 208 := by rw [← hRe]; rfl
  clear hRe
  generalize hQ : MQ below _ _ s 0 0 _ = Q
  subst hsz
  have hD := hD0.self (sz := s.heap.size)
  generalize hAe : va_A [((md 0), .inr (5, [.int (eI co), .int (eI ((n : Nat) : Int)), .ref (md 1), .ref (md 2), .ref (md 3), .int (eI sh), .int (eI ra), .ref (md 4), .ref (md 5), .ref (md 6), .ref (md 7), .ref (md 8), .long (eL up), .long (eL lw), .ref (md 9), .ref (md 10), .ref (md 11), .ref (md 12), .ref (md 13), .ref (md 14), .ref (md 15), .int (eI kn), .int (eI fo)])), ((md 1), aI cI 25 sc), ((md 2), aI cI 4 ln), ((md 3), aI cZ 4 cb), ((md 4), aI cZ 3 th), ((md 5), aI cI 3 pl), ((md 6), aI cI 3 lo), ((md 7), aI cI 3 pr), ((md 8), aI cI 30 la), ((md 9), aL cL 7 su0), ((md 10), aL cL 6 de0), ((md 11), aL cL 42 fw0), ((md 12), aI cI 42 cs0), ((md 13), aL cL 13 G10), ((md 14), aL cL 13 G20), ((md 15), aI cI 13 BY0)] s.heap.size = A at hD hQ
  have hA : ∀ q : Nat, s.heap.size ≤ q → A q := fun q h => by rw [← hAe]; exact Or.inr h
  have hS : va_S A s.heap s.heap [] := va_S.rf
  have hP : va_P D classes [((md 0), .inr (5, [.int (eI co), .int (eI ((n : Nat) : Int)), .ref (md 1), .ref (md 2), .ref (md 3), .int (eI sh), .int (eI ra), .ref (md 4), .ref (md 5), .ref (md 6), .ref (md 7), .ref (md 8), .long (eL up), .long (eL lw), .ref (md 9), .ref (md 10), .ref (md 11), .ref (md 12), .ref (md 13), .ref (md 14), .ref (md 15), .int (eI kn), .int (eI fo)])), ((md 1), aI cI 25 sc), ((md 2), aI cI 4 ln), ((md 3), aI cZ 4 cb), ((md 4), aI cZ 3 th), ((md 5), aI cI 3 pl), ((md 6), aI cI 3 lo), ((md 7), aI cI 3 pr), ((md 8), aI cI 30 la), ((md 9), aL cL 7 su0), ((md 10), aL cL 6 de0), ((md 11), aL cL 42 fw0), ((md 12), aI cI 42 cs0), ((md 13), aL cL 13 G10), ((md 14), aL cL 13 G20), ((md 15), aI cI 13 BY0)] s.heap := hP
  have hl := lv_entry ([.ref (md 0), .int (eI y), .int (eI 1)]) (n := 5) (Nat.le_of_ble_eq_true rfl)
  rw [lg_entry_eq]
  generalize (lg_sl ([.ref (md 0), .int (eI y), .int (eI 1)]) ++ List.replicate (5 - (lg_sl ([.ref (md 0), .int (eI y), .int (eI 1)])).length) Slot.unset).toArray = ls at hl ⊢
  have hl : lv_has ls 5 [(0, .ref (md 0)), (1, .int (eI y)), (2, .int (eI 1))] := hl
  have hn5 := hM.1.1
  by_cases hbad : (y < 0 ∨ (n : Int) ≤ y + 1)
  ·
    refine lv_aload_n hx hb d_M_more_0 rfl (lv_at hl 0 rfl) ?_
    refine lv_aload_n hx hb d_M_more_1 rfl (lv_at hl 0 rfl) ?_
    refine lv_iload_n hx hb d_M_more_2 rfl (lv_at hl 1 rfl) ?_
    refine eh_cRV (As := [.int (eI y)]) (rest := [.ref (md 0)]) (v := .int (eI (if (y < 0 ∨ (n : Int) ≤ y + 1) then 1 else 0))) (q := (R_M, T_M, 23)) hx hb hml hown htb hN (r_M_noSpan l D cI cL cZ md co n sh ra up lw kn fo sc ln cb th pl lo pr la cu cl fu fl ys yl yp y hy hM) 1 ⟨tb_681, tb_683, ts_29, tb_7, kin_M_noSpan⟩ dv_M_noSpan ⟨by rw [hR1]; decide, by rw [hR2]; decide⟩ hK hP 0 rfl rfl [0, 1, 2, 3, 4, 5, 6, 7, 8] rfl [0, 1, 2] rfl rfl rfl hl.1 (Nat.le_of_ble_eq_true rfl) d_M_more_3 ⟨Nat.zero_le _, Nat.zero_le _⟩ ?_
    refine we_if_eq (tgt := 13) hx hb (by rw [if_pos hbad]; constructor <;> omega) d_M_more_6 rfl (fun hc6 => absurd hc6 (by rw [if_pos hbad]; omega)) (fun hc6 => ?_)
    refine lv_iconst (v := eI 1) hx hb d_M_more_9 rfl ?_
    refine lv_goto (tgt := 14) hx hb d_M_more_10 rfl ?_
    refine va_put (D := D) (ci := 5) (v := .int (eI 1)) (ty := .int) (C := R_M) (T := T_M) (N := 23) hx hb htb in_M t_M t_M_ok n_M hown hK hP hD hS 0 rfl rfl 0 (by decide) (htb _ tb_588) (fun _ h9 => h9) rfl (by decide +kernel) rfl rfl (Nat.le_of_ble_eq_true rfl) d_M_more_14 (fun H locs hP hD hS => ?_)
    have hP : va_P D classes [((md 0), .inr (5, [.int (eI 1), .int (eI ((n : Nat) : Int)), .ref (md 1), .ref (md 2), .ref (md 3), .int (eI sh), .int (eI ra), .ref (md 4), .ref (md 5), .ref (md 6), .ref (md 7), .ref (md 8), .long (eL up), .long (eL lw), .ref (md 9), .ref (md 10), .ref (md 11), .ref (md 12), .ref (md 13), .ref (md 14), .ref (md 15), .int (eI kn), .int (eI fo)])), ((md 1), aI cI 25 sc), ((md 2), aI cI 4 ln), ((md 3), aI cZ 4 cb), ((md 4), aI cZ 3 th), ((md 5), aI cI 3 pl), ((md 6), aI cI 3 lo), ((md 7), aI cI 3 pr), ((md 8), aI cI 30 la), ((md 9), aL cL 7 su0), ((md 10), aL cL 6 de0), ((md 11), aL cL 42 fw0), ((md 12), aI cI 42 cs0), ((md 13), aL cL 13 G10), ((md 14), aL cL 13 G20), ((md 15), aI cI 13 BY0)] H := hP
    have hD : va_D A [((md 0), .inr (5, [.int (eI 1), .int (eI ((n : Nat) : Int)), .ref (md 1), .ref (md 2), .ref (md 3), .int (eI sh), .int (eI ra), .ref (md 4), .ref (md 5), .ref (md 6), .ref (md 7), .ref (md 8), .long (eL up), .long (eL lw), .ref (md 9), .ref (md 10), .ref (md 11), .ref (md 12), .ref (md 13), .ref (md 14), .ref (md 15), .int (eI kn), .int (eI fo)])), ((md 1), aI cI 25 sc), ((md 2), aI cI 4 ln), ((md 3), aI cZ 4 cb), ((md 4), aI cZ 3 th), ((md 5), aI cI 3 pl), ((md 6), aI cI 3 lo), ((md 7), aI cI 3 pr), ((md 8), aI cI 30 la), ((md 9), aL cL 7 su0), ((md 10), aL cL 6 de0), ((md 11), aL cL 42 fw0), ((md 12), aI cI 42 cs0), ((md 13), aL cL 13 G10), ((md 14), aL cL 13 G20), ((md 15), aI cI 13 BY0)] := hD
    refine lv_aload_n hx hb d_M_more_17 rfl (lv_at hl 0 rfl) ?_
    refine va_get (D := D) (ci := 5) (v := .int (eI 1)) (C := R_M) (T := T_M) (N := 23) hx hb htb in_M hown hK hP 0 rfl rfl 0 (by decide) (htb _ tb_588) (fun _ h9 => h9) rfl d_M_more_18 ?_
    refine we_if_le (tgt := 26) hx hb (by constructor <;> omega) d_M_more_21 rfl (fun hc21 => absurd hc21 (by omega)) (fun hc21 => ?_)
    refine lv_lconst (v := eL 0) hx hb d_M_more_24 (by decide) ?_
    subst hQ
    exact W.lret hx hb hrt (fun t9 ht hW => ⟨⟨(0, 1, kn, fo, up, lw, su0, de0, fw0, cs0, G10, G20, BY0), rfl, Or.inl ⟨hbad, rfl⟩, by rw [ht]; exact hP, hD⟩, hS.F ht⟩) hS.2.2 d_M_more_25
  ·
    refine lv_aload_n hx hb d_M_more_0 rfl (lv_at hl 0 rfl) ?_
    refine lv_aload_n hx hb d_M_more_1 rfl (lv_at hl 0 rfl) ?_
    refine lv_iload_n hx hb d_M_more_2 rfl (lv_at hl 1 rfl) ?_
    refine eh_cRV (As := [.int (eI y)]) (rest := [.ref (md 0)]) (v := .int (eI (if (y < 0 ∨ (n : Int) ≤ y + 1) then 1 else 0))) (q := (R_M, T_M, 23)) hx hb hml hown htb hN (r_M_noSpan l D cI cL cZ md co n sh ra up lw kn fo sc ln cb th pl lo pr la cu cl fu fl ys yl yp y hy hM) 1 ⟨tb_681, tb_683, ts_29, tb_7, kin_M_noSpan⟩ dv_M_noSpan ⟨by rw [hR1]; decide, by rw [hR2]; decide⟩ hK hP 0 rfl rfl [0, 1, 2, 3, 4, 5, 6, 7, 8] rfl [0, 1, 2] rfl rfl rfl hl.1 (Nat.le_of_ble_eq_true rfl) d_M_more_3 ⟨Nat.zero_le _, Nat.zero_le _⟩ ?_
    refine we_if_eq (tgt := 13) hx hb (by rw [if_neg hbad]; constructor <;> omega) d_M_more_6 rfl (fun hc6 => ?_) (fun hc6 => absurd hc6 (by rw [if_neg hbad]; omega))
    refine lv_iconst (v := eI 0) hx hb d_M_more_13 rfl ?_
    refine va_put (D := D) (ci := 5) (v := .int (eI 0)) (ty := .int) (C := R_M) (T := T_M) (N := 23) hx hb htb in_M t_M t_M_ok n_M hown hK hP hD hS 0 rfl rfl 0 (by decide) (htb _ tb_588) (fun _ h9 => h9) rfl (by decide +kernel) rfl rfl (Nat.le_of_ble_eq_true rfl) d_M_more_14 (fun H locs hP hD hS => ?_)
    have hP : va_P D classes [((md 0), .inr (5, [.int (eI 0), .int (eI ((n : Nat) : Int)), .ref (md 1), .ref (md 2), .ref (md 3), .int (eI sh), .int (eI ra), .ref (md 4), .ref (md 5), .ref (md 6), .ref (md 7), .ref (md 8), .long (eL up), .long (eL lw), .ref (md 9), .ref (md 10), .ref (md 11), .ref (md 12), .ref (md 13), .ref (md 14), .ref (md 15), .int (eI kn), .int (eI fo)])), ((md 1), aI cI 25 sc), ((md 2), aI cI 4 ln), ((md 3), aI cZ 4 cb), ((md 4), aI cZ 3 th), ((md 5), aI cI 3 pl), ((md 6), aI cI 3 lo), ((md 7), aI cI 3 pr), ((md 8), aI cI 30 la), ((md 9), aL cL 7 su0), ((md 10), aL cL 6 de0), ((md 11), aL cL 42 fw0), ((md 12), aI cI 42 cs0), ((md 13), aL cL 13 G10), ((md 14), aL cL 13 G20), ((md 15), aI cI 13 BY0)] H := hP
    have hD : va_D A [((md 0), .inr (5, [.int (eI 0), .int (eI ((n : Nat) : Int)), .ref (md 1), .ref (md 2), .ref (md 3), .int (eI sh), .int (eI ra), .ref (md 4), .ref (md 5), .ref (md 6), .ref (md 7), .ref (md 8), .long (eL up), .long (eL lw), .ref (md 9), .ref (md 10), .ref (md 11), .ref (md 12), .ref (md 13), .ref (md 14), .ref (md 15), .int (eI kn), .int (eI fo)])), ((md 1), aI cI 25 sc), ((md 2), aI cI 4 ln), ((md 3), aI cZ 4 cb), ((md 4), aI cZ 3 th), ((md 5), aI cI 3 pl), ((md 6), aI cI 3 lo), ((md 7), aI cI 3 pr), ((md 8), aI cI 30 la), ((md 9), aL cL 7 su0), ((md 10), aL cL 6 de0), ((md 11), aL cL 42 fw0), ((md 12), aI cI 42 cs0), ((md 13), aL cL 13 G10), ((md 14), aL cL 13 G20), ((md 15), aI cI 13 BY0)] := hD
    refine lv_aload_n hx hb d_M_more_17 rfl (lv_at hl 0 rfl) ?_
    refine va_get (D := D) (ci := 5) (v := .int (eI 0)) (C := R_M) (T := T_M) (N := 23) hx hb htb in_M hown hK hP 0 rfl rfl 0 (by decide) (htb _ tb_588) (fun _ h9 => h9) rfl d_M_more_18 ?_
    refine we_if_le (tgt := 26) hx hb (by constructor <;> omega) d_M_more_21 rfl (fun hc21 => ?_) (fun hc21 => absurd hc21 (by omega))
    refine lv_aload_n hx hb d_M_more_26 rfl (lv_at hl 0 rfl) ?_
    refine eh_cMV (As := []) (rest := []) (q := (R_M, T_M, 23)) (wr := []) hx hb hml hown htb hN (m_M_planNow l D cI cL cZ md 0 n sh ra up lw kn fo sc ln cb th pl lo pr la cu cl fu fl ys yl yp su0 de0 fw0 cs0 G10 G20 BY0 hM hkn) 0 ⟨tb_757, tb_759, ts_37, tb_7, kin_M_planNow⟩ dv_M_planNow ⟨by rw [hR1]; decide, by rw [hR2]; decide⟩ hK hP hD hS hA 0 rfl rfl [0, 1, 2, 3, 4, 5, 6, 7, 8, 9, 10, 11, 12, 13, 14, 15] [] rfl rfl (by decide) rfl (by decide) (by decide) [0, 1, 2] rfl rfl rfl hl.1 (Nat.le_of_ble_eq_true rfl) d_M_more_27 ⟨Nat.zero_le _, Nat.zero_le _⟩ (fun u H locs hu hP hD hS => ?_)
    obtain ⟨rv, up9, lw9, su, de, fw, cs, G1, G2, BY⟩ := u
    have hu : eh_pf (eh_kc n ra ln cb ys yp) (eh_pA n sh ln cu cl yl (-1)) (eh_pB n ln fu fl yl (-1)) cs fw rv := hu
    have hun := hu
    have hrv : rv = 1 ∨ rv = 0 := by rcases hu.2 with w | w; exact Or.inl w.1; exact Or.inr w.1
    have hcs2 := eh_rc_b (fun k hk => by have := eh_ku_b hM.1 (s := k / 5) (t := k % 5) (by omega) (by omega); exact this) hu.1
    have hP := hP.sub (ws' := [((md 0), .inr (5, [.int (eI 0), .int (eI ((n : Nat) : Int)), .ref (md 1), .ref (md 2), .ref (md 3), .int (eI sh), .int (eI ra), .ref (md 4), .ref (md 5), .ref (md 6), .ref (md 7), .ref (md 8), .long (eL up9), .long (eL lw9), .ref (md 9), .ref (md 10), .ref (md 11), .ref (md 12), .ref (md 13), .ref (md 14), .ref (md 15), .int (eI 1), .int (eI rv)])), ((md 1), aI cI 25 sc), ((md 2), aI cI 4 ln), ((md 3), aI cZ 4 cb), ((md 4), aI cZ 3 th), ((md 5), aI cI 3 pl), ((md 6), aI cI 3 lo), ((md 7), aI cI 3 pr), ((md 8), aI cI 30 la), ((md 9), aL cL 7 su), ((md 10), aL cL 6 de), ((md 11), aL cL 42 fw), ((md 12), aI cI 42 cs), ((md 13), aL cL 13 G1), ((md 14), aL cL 13 G2), ((md 15), aI cI 13 BY)]) [0, 1, 2, 3, 4, 5, 6, 7, 8, 9, 10, 11, 12, 13, 14, 15] rfl
    have hD := hD.sub (ws' := [((md 0), .inr (5, [.int (eI 0), .int (eI ((n : Nat) : Int)), .ref (md 1), .ref (md 2), .ref (md 3), .int (eI sh), .int (eI ra), .ref (md 4), .ref (md 5), .ref (md 6), .ref (md 7), .ref (md 8), .long (eL up9), .long (eL lw9), .ref (md 9), .ref (md 10), .ref (md 11), .ref (md 12), .ref (md 13), .ref (md 14), .ref (md 15), .int (eI 1), .int (eI rv)])), ((md 1), aI cI 25 sc), ((md 2), aI cI 4 ln), ((md 3), aI cZ 4 cb), ((md 4), aI cZ 3 th), ((md 5), aI cI 3 pl), ((md 6), aI cI 3 lo), ((md 7), aI cI 3 pr), ((md 8), aI cI 30 la), ((md 9), aL cL 7 su), ((md 10), aL cL 6 de), ((md 11), aL cL 42 fw), ((md 12), aI cI 42 cs), ((md 13), aL cL 13 G1), ((md 14), aL cL 13 G2), ((md 15), aI cI 13 BY)]) [0, 1, 2, 3, 4, 5, 6, 7, 8, 9, 10, 11, 12, 13, 14, 15] (by decide) rfl
    refine we_if_ne (tgt := 37) hx hb (by constructor <;> omega) d_M_more_30 rfl (fun hc30 => ?_) (fun hc30 => ?_)
    ·
      refine lv_aload_n hx hb d_M_more_37 rfl (lv_at hl 0 rfl) ?_
      refine eh_cRV (As := []) (rest := []) (v := .long (eL (eh_tot fw cs))) (q := (R_M, T_M, 23)) hx hb hml hown htb hN (r_M_total l D cI cL cZ md 0 n sh ra up9 lw9 1 rv fw cs hcs2) 0 ⟨tb_807, tb_809, ts_49, tb_7, kin_M_total⟩ dv_M_total ⟨by rw [hR1]; decide, by rw [hR2]; decide⟩ hK hP 0 rfl rfl [0, 11, 12] rfl [0, 1, 2] rfl rfl rfl hl.1 (Nat.le_of_ble_eq_true rfl) d_M_more_38 ⟨Nat.zero_le _, Nat.zero_le _⟩ ?_
      refine lv_lstore_n hx hb d_M_more_41 rfl hl (by decide) rfl (fun ls hl => ?_)
      have hl : lv_has ls 5 [(3, .long (eL (eh_tot fw cs))), (0, .ref (md 0)), (1, .int (eI y)), (2, .int (eI 1))] := hl
      refine lv_aload_n hx hb d_M_more_42 rfl (lv_at hl 1 rfl) ?_
      refine lv_iconst (v := eI 0) hx hb d_M_more_43 rfl ?_
      refine va_put (D := D) (ci := 5) (v := .int (eI 0)) (ty := .boolean) (C := R_M) (T := T_M) (N := 23) hx hb htb in_M t_M t_M_ok n_M hown hK hP hD hS 0 rfl rfl 21 (by decide) (htb _ tb_609) (fun _ h9 => h9) rfl (by decide +kernel) rfl rfl (Nat.le_of_ble_eq_true rfl) d_M_more_44 (fun H locs hP hD hS => ?_)
      have hP : va_P D classes [((md 0), .inr (5, [.int (eI 0), .int (eI ((n : Nat) : Int)), .ref (md 1), .ref (md 2), .ref (md 3), .int (eI sh), .int (eI ra), .ref (md 4), .ref (md 5), .ref (md 6), .ref (md 7), .ref (md 8), .long (eL up9), .long (eL lw9), .ref (md 9), .ref (md 10), .ref (md 11), .ref (md 12), .ref (md 13), .ref (md 14), .ref (md 15), .int (eI 0), .int (eI rv)])), ((md 1), aI cI 25 sc), ((md 2), aI cI 4 ln), ((md 3), aI cZ 4 cb), ((md 4), aI cZ 3 th), ((md 5), aI cI 3 pl), ((md 6), aI cI 3 lo), ((md 7), aI cI 3 pr), ((md 8), aI cI 30 la), ((md 9), aL cL 7 su), ((md 10), aL cL 6 de), ((md 11), aL cL 42 fw), ((md 12), aI cI 42 cs), ((md 13), aL cL 13 G1), ((md 14), aL cL 13 G2), ((md 15), aI cI 13 BY)] H := hP
      have hD : va_D A [((md 0), .inr (5, [.int (eI 0), .int (eI ((n : Nat) : Int)), .ref (md 1), .ref (md 2), .ref (md 3), .int (eI sh), .int (eI ra), .ref (md 4), .ref (md 5), .ref (md 6), .ref (md 7), .ref (md 8), .long (eL up9), .long (eL lw9), .ref (md 9), .ref (md 10), .ref (md 11), .ref (md 12), .ref (md 13), .ref (md 14), .ref (md 15), .int (eI 0), .int (eI rv)])), ((md 1), aI cI 25 sc), ((md 2), aI cI 4 ln), ((md 3), aI cZ 4 cb), ((md 4), aI cZ 3 th), ((md 5), aI cI 3 pl), ((md 6), aI cI 3 lo), ((md 7), aI cI 3 pr), ((md 8), aI cI 30 la), ((md 9), aL cL 7 su), ((md 10), aL cL 6 de), ((md 11), aL cL 42 fw), ((md 12), aI cI 42 cs), ((md 13), aL cL 13 G1), ((md 14), aL cL 13 G2), ((md 15), aI cI 13 BY)] := hD
      refine lv_aload_n hx hb d_M_more_47 rfl (lv_at hl 1 rfl) ?_
      refine lv_iload_n hx hb d_M_more_48 rfl (lv_at hl 3 rfl) ?_
      refine we_if_eq (tgt := 56) hx hb (by constructor <;> omega) d_M_more_49 rfl (fun hc49 => absurd hc49 (by omega)) (fun hc49 => ?_)
      refine lv_iload_n hx hb d_M_more_52 rfl (lv_at hl 2 rfl) ?_
      refine lv_goto (tgt := 57) hx hb d_M_more_53 rfl ?_
      refine lv_iload_n hx hb d_M_more_57 rfl (lv_at hl 3 rfl) ?_
      refine we_if_eq (tgt := 65) hx hb (by constructor <;> omega) d_M_more_58 rfl (fun hc58 => absurd hc58 (by omega)) (fun hc58 => ?_)
      refine lv_iconst (v := eI (-1)) hx hb d_M_more_61 rfl ?_
      refine lv_goto (tgt := 66) hx hb d_M_more_62 rfl ?_
      refine eh_cMV (As := [.int (eI y), .int (eI (-1))]) (rest := []) (q := (R_M, T_M, 23)) (wr := []) hx hb hml hown htb hN (m_M_plan l D cI cL cZ md 0 n sh ra up9 lw9 0 rv sc ln cb th pl lo pr la cu cl fu fl ys yl yp y (-1) (by omega) (by omega) su de fw cs G1 G2 BY hM) 2 ⟨tb_761, tb_763, ts_38, tb_7, kin_M_plan⟩ dv_M_plan ⟨by rw [hR1]; decide, by rw [hR2]; decide⟩ hK hP hD hS hA 0 rfl rfl [0, 1, 2, 3, 4, 5, 6, 7, 8, 9, 10, 11, 12, 13, 14, 15] [] rfl rfl (by decide) rfl (by decide) (by decide) [0, 1, 2] rfl rfl rfl hl.1 (Nat.le_of_ble_eq_true rfl) d_M_more_66 ⟨Nat.zero_le _, Nat.zero_le _⟩ (fun u H locs hu hP hD hS => ?_)
      obtain ⟨rw2, up7, lw7, su7, de7, fw7, cs7, A7, B7, C7⟩ := u
      have hu7 : eh_pf (eh_kc n ra ln cb ys yp) (eh_pA n sh ln cu cl yl y) (eh_pB n ln fu fl yl (-1)) cs7 fw7 rw2 := hu
      have hrv7 : rw2 = 1 ∨ rw2 = 0 := by rcases hu7.2 with w | w; exact Or.inl w.1; exact Or.inr w.1
      have hcs7 := eh_rc_b (fun k hk => by have := eh_ku_b hM.1 (s := k / 5) (t := k % 5) (by omega) (by omega); exact this) hu7.1
      have hP := hP.sub (ws' := [((md 0), .inr (5, [.int (eI 0), .int (eI ((n : Nat) : Int)), .ref (md 1), .ref (md 2), .ref (md 3), .int (eI sh), .int (eI ra), .ref (md 4), .ref (md 5), .ref (md 6), .ref (md 7), .ref (md 8), .long (eL up7), .long (eL lw7), .ref (md 9), .ref (md 10), .ref (md 11), .ref (md 12), .ref (md 13), .ref (md 14), .ref (md 15), .int (eI 0), .int (eI rv)])), ((md 1), aI cI 25 sc), ((md 2), aI cI 4 ln), ((md 3), aI cZ 4 cb), ((md 4), aI cZ 3 th), ((md 5), aI cI 3 pl), ((md 6), aI cI 3 lo), ((md 7), aI cI 3 pr), ((md 8), aI cI 30 la), ((md 9), aL cL 7 su7), ((md 10), aL cL 6 de7), ((md 11), aL cL 42 fw7), ((md 12), aI cI 42 cs7), ((md 13), aL cL 13 A7), ((md 14), aL cL 13 B7), ((md 15), aI cI 13 C7)]) [0, 1, 2, 3, 4, 5, 6, 7, 8, 9, 10, 11, 12, 13, 14, 15] rfl
      have hD := hD.sub (ws' := [((md 0), .inr (5, [.int (eI 0), .int (eI ((n : Nat) : Int)), .ref (md 1), .ref (md 2), .ref (md 3), .int (eI sh), .int (eI ra), .ref (md 4), .ref (md 5), .ref (md 6), .ref (md 7), .ref (md 8), .long (eL up7), .long (eL lw7), .ref (md 9), .ref (md 10), .ref (md 11), .ref (md 12), .ref (md 13), .ref (md 14), .ref (md 15), .int (eI 0), .int (eI rv)])), ((md 1), aI cI 25 sc), ((md 2), aI cI 4 ln), ((md 3), aI cZ 4 cb), ((md 4), aI cZ 3 th), ((md 5), aI cI 3 pl), ((md 6), aI cI 3 lo), ((md 7), aI cI 3 pr), ((md 8), aI cI 30 la), ((md 9), aL cL 7 su7), ((md 10), aL cL 6 de7), ((md 11), aL cL 42 fw7), ((md 12), aI cI 42 cs7), ((md 13), aL cL 13 A7), ((md 14), aL cL 13 B7), ((md 15), aI cI 13 C7)]) [0, 1, 2, 3, 4, 5, 6, 7, 8, 9, 10, 11, 12, 13, 14, 15] (by decide) rfl
      refine we_if_eq (tgt := 81) hx hb (by constructor <;> omega) d_M_more_69 rfl (fun hc69 => ?_) (fun hc69 => ?_)
      ·
        refine we_ldc2 (a := (-1)) hx hb hown (htb _ tb_811) (by decide) d_M_more_81 ?_
        subst hQ
        exact W.lret hx hb hrt (fun t9 ht hW => ⟨⟨((-1), 0, 0, rv, up7, lw7, su7, de7, fw7, cs7, A7, B7, C7), rfl, Or.inr ⟨hbad, rfl, Or.inr ⟨rfl, by show rv = 1; omega, fw, cs, (by have w9 : rv = 1 := (by omega); have w8 := hun; rw [w9] at w8; exact w8), rw2, hu7, by show ((-1) : Int) = _; rw [if_neg (by omega)]⟩⟩, by rw [ht]; exact hP, hD⟩, hS.F ht⟩) hS.2.2 d_M_more_84
      ·
        refine lv_aload_n hx hb d_M_more_72 rfl (lv_at hl 1 rfl) ?_
        refine eh_cRV (As := []) (rest := []) (v := .long (eL (eh_tot fw7 cs7))) (q := (R_M, T_M, 23)) hx hb hml hown htb hN (r_M_total l D cI cL cZ md 0 n sh ra up7 lw7 0 rv fw7 cs7 hcs7) 0 ⟨tb_807, tb_809, ts_49, tb_7, kin_M_total⟩ dv_M_total ⟨by rw [hR1]; decide, by rw [hR2]; decide⟩ hK hP 0 rfl rfl [0, 11, 12] rfl [0, 1, 2] rfl rfl rfl hl.1 (Nat.le_of_ble_eq_true rfl) d_M_more_73 ⟨Nat.zero_le _, Nat.zero_le _⟩ ?_
        refine lv_lload_n hx hb d_M_more_76 rfl (lv_at hl 0 rfl) ?_
        refine we_lsub hx hb d_M_more_77 ?_
        refine lv_goto (tgt := 84) hx hb d_M_more_78 rfl ?_
        subst hQ
        exact W.lret hx hb hrt (fun t9 ht hW => ⟨⟨(((eh_tot fw7 cs7) - (eh_tot fw cs)), 0, 0, rv, up7, lw7, su7, de7, fw7, cs7, A7, B7, C7), rfl, Or.inr ⟨hbad, rfl, Or.inr ⟨rfl, by show rv = 1; omega, fw, cs, (by have w9 : rv = 1 := (by omega); have w8 := hun; rw [w9] at w8; exact w8), rw2, hu7, by show (((eh_tot fw7 cs7) - (eh_tot fw cs)) : Int) = _; rw [if_pos (by omega)]⟩⟩, by rw [ht]; exact hP, hD⟩, hS.F ht⟩) hS.2.2 d_M_more_84
    ·
      refine we_ldc2 (a := (-1)) hx hb hown (htb _ tb_811) (by decide) d_M_more_33 ?_
      subst hQ
      exact W.lret hx hb hrt (fun t9 ht hW => ⟨⟨(-1, 0, 1, rv, up9, lw9, su, de, fw, cs, G1, G2, BY), rfl, Or.inr ⟨hbad, rfl, Or.inl ⟨rfl, rfl, by show rv = 0; omega, hu⟩⟩, by rw [ht]; exact hP, hD⟩, hS.F ht⟩) hS.2.2 d_M_more_36
set_option maxHeartbeats 1000000 in
set_option maxRecDepth 100000 in
theorem m_M_more_0 (l : Launch) (D : va_G) (cI cL cZ : ClassId) (md : Nat → Nat) (co : Int) (n : Nat) (sh ra up lw kn fo : Int) (sc ln cb th pl lo pr la : Nat → Int) (cu cl fu fl : Nat → Nat) (ys yl yp : Nat → Int) (y : Int) (hy : -2147483648 ≤ y ∧ y < 2147483648) (su0 de0 fw0 cs0 G10 G20 BY0 : Nat → Int) (hM : eh_MS n sh ra sc ln cb th pl lo pr la cu cl fu fl ys yl yp) (hkn : kn = 0 ∨ kn = 1 ∧ eh_pf (eh_kc n ra ln cb ys yp) (eh_pA n sh ln cu cl yl (-1)) (eh_pB n ln fu fl yl (-1)) cs0 fw0 fo) : eh_M (S := Int × Int × Int × Int × Int × Int × (Nat → Int) × (Nat → Int) × (Nat → Int) × (Nat → Int) × (Nat → Int) × (Nat → Int) × (Nat → Int)) l y_M_more k_M_more 8 208 D classes [(cI, .int), (cL, .long), (cZ, .boolean)] [.ref (md 0), .int (eI y), .int (eI 0)] [((md 0), .inr (5, [.int (eI co), .int (eI ((n : Nat) : Int)), .ref (md 1), .ref (md 2), .ref (md 3), .int (eI sh), .int (eI ra), .ref (md 4), .ref (md 5), .ref (md 6), .ref (md 7), .ref (md 8), .long (eL up), .long (eL lw), .ref (md 9), .ref (md 10), .ref (md 11), .ref (md 12), .ref (md 13), .ref (md 14), .ref (md 15), .int (eI kn), .int (eI fo)])), ((md 1), aI cI 25 sc), ((md 2), aI cI 4 ln), ((md 3), aI cZ 4 cb), ((md 4), aI cZ 3 th), ((md 5), aI cI 3 pl), ((md 6), aI cI 3 lo), ((md 7), aI cI 3 pr), ((md 8), aI cI 30 la), ((md 9), aL cL 7 su0), ((md 10), aL cL 6 de0), ((md 11), aL cL 42 fw0), ((md 12), aI cI 42 cs0), ((md 13), aL cL 13 G10), ((md 14), aL cL 13 G20), ((md 15), aI cI 13 BY0)] (fun u => ((y < 0 ∨ (n : Int) ≤ y + 1) ∧ u = (0, 1, kn, fo, up, lw, su0, de0, fw0, cs0, G10, G20, BY0)) ∨ (¬ (y < 0 ∨ (n : Int) ≤ y + 1) ∧ u.2.1 = 0 ∧ ((u.1 = -1 ∧ u.2.2.1 = 1 ∧ u.2.2.2.1 = 0 ∧ eh_pf (eh_kc n ra ln cb ys yp) (eh_pA n sh ln cu cl yl (-1)) (eh_pB n ln fu fl yl (-1)) u.2.2.2.2.2.2.2.2.2.1 u.2.2.2.2.2.2.2.2.1 u.2.2.2.1) ∨ (u.2.2.1 = 0 ∧ u.2.2.2.1 = 1 ∧ ∃ (fa ca : Nat → Int), eh_pf (eh_kc n ra ln cb ys yp) (eh_pA n sh ln cu cl yl (-1)) (eh_pB n ln fu fl yl (-1)) ca fa 1 ∧ ∃ rb9 : Int, eh_pf (eh_kc n ra ln cb ys yp) (eh_pA n sh ln cu cl yl (-1)) (eh_pB n ln fu fl yl y) u.2.2.2.2.2.2.2.2.2.1 u.2.2.2.2.2.2.2.2.1 rb9 ∧ u.1 = if rb9 = 1 then eh_tot u.2.2.2.2.2.2.2.2.1 u.2.2.2.2.2.2.2.2.2.1 - eh_tot fa ca else -1)))) (fun u => some (.long (eL u.1))) (fun u => [((md 0), .inr (5, [.int (eI u.2.1), .int (eI ((n : Nat) : Int)), .ref (md 1), .ref (md 2), .ref (md 3), .int (eI sh), .int (eI ra), .ref (md 4), .ref (md 5), .ref (md 6), .ref (md 7), .ref (md 8), .long (eL u.2.2.2.2.1), .long (eL u.2.2.2.2.2.1), .ref (md 9), .ref (md 10), .ref (md 11), .ref (md 12), .ref (md 13), .ref (md 14), .ref (md 15), .int (eI u.2.2.1), .int (eI u.2.2.2.1)])), ((md 1), aI cI 25 sc), ((md 2), aI cI 4 ln), ((md 3), aI cZ 4 cb), ((md 4), aI cZ 3 th), ((md 5), aI cI 3 pl), ((md 6), aI cI 3 lo), ((md 7), aI cI 3 pr), ((md 8), aI cI 30 la), ((md 9), aL cL 7 u.2.2.2.2.2.2.1), ((md 10), aL cL 6 u.2.2.2.2.2.2.2.1), ((md 11), aL cL 42 u.2.2.2.2.2.2.2.2.1), ((md 12), aI cI 42 u.2.2.2.2.2.2.2.2.2.1), ((md 13), aL cL 13 u.2.2.2.2.2.2.2.2.2.2.1), ((md 14), aL cL 13 u.2.2.2.2.2.2.2.2.2.2.2.1), ((md 15), aI cI 13 u.2.2.2.2.2.2.2.2.2.2.2.2)]) := by
  intro sz
  refine Met.ofW (cc := c_M_more) (maxL := 5) (ret := (some .long)) (by decide) rfl ?_
  intro p e s m args below meth c s₁ B hml hv
  obtain ⟨hargs, hsz, hP, hK, hD0, hN⟩ := hv
  have hx := B.exec
  have hb := B.bytes
  have hrt := B.returns
  have hts := atoms_spec (ws := k_M_more :: ew_t) B.pre
  have htb : ∀ w ∈ ew_t, w.before args s = true := fun w h => hts w (List.mem_cons_of_mem _ h)
  have hown : s.vm.findClass "EarthHaulsModel" = some m.cls := findClass_of_methodNamed B.named
  have hlocks := B.notSynchronized
  have hE : entryFrame m args 5 = entryFrame m ([.ref (md 0), .int (eI y), .int (eI 0)] : List Value).toArray 5 := by rw [hargs]
  rw [hE]
  clear hE hts B hargs
  generalize hRe : (headSpec _ _).room = R
  have hR1 : R.frames = 8 := by rw [← hRe]; rfl
  have hR2 : R.locals = 208 := by rw [← hRe]; rfl
  clear hRe
  generalize hQ : MQ below _ _ s 0 0 _ = Q
  subst hsz
  have hD := hD0.self (sz := s.heap.size)
  generalize hAe : va_A [((md 0), .inr (5, [.int (eI co), .int (eI ((n : Nat) : Int)), .ref (md 1), .ref (md 2), .ref (md 3), .int (eI sh), .int (eI ra), .ref (md 4), .ref (md 5), .ref (md 6), .ref (md 7), .ref (md 8), .long (eL up), .long (eL lw), .ref (md 9), .ref (md 10), .ref (md 11), .ref (md 12), .ref (md 13), .ref (md 14), .ref (md 15), .int (eI kn), .int (eI fo)])), ((md 1), aI cI 25 sc), ((md 2), aI cI 4 ln), ((md 3), aI cZ 4 cb), ((md 4), aI cZ 3 th), ((md 5), aI cI 3 pl), ((md 6), aI cI 3 lo), ((md 7), aI cI 3 pr), ((md 8), aI cI 30 la), ((md 9), aL cL 7 su0), ((md 10), aL cL 6 de0), ((md 11), aL cL 42 fw0), ((md 12), aI cI 42 cs0), ((md 13), aL cL 13 G10), ((md 14), aL cL 13 G20), ((md 15), aI cI 13 BY0)] s.heap.size = A at hD hQ
  have hA : ∀ q : Nat, s.heap.size ≤ q → A q := fun q h => by rw [← hAe]; exact Or.inr h
  have hS : va_S A s.heap s.heap [] := va_S.rf
  have hP : va_P D classes [((md 0), .inr (5, [.int (eI co), .int (eI ((n : Nat) : Int)), .ref (md 1), .ref (md 2), .ref (md 3), .int (eI sh), .int (eI ra), .ref (md 4), .ref (md 5), .ref (md 6), .ref (md 7), .ref (md 8), .long (eL up), .long (eL lw), .ref (md 9), .ref (md 10), .ref (md 11), .ref (md 12), .ref (md 13), .ref (md 14), .ref (md 15), .int (eI kn), .int (eI fo)])), ((md 1), aI cI 25 sc), ((md 2), aI cI 4 ln), ((md 3), aI cZ 4 cb), ((md 4), aI cZ 3 th), ((md 5), aI cI 3 pl), ((md 6), aI cI 3 lo), ((md 7), aI cI 3 pr), ((md 8), aI cI 30 la), ((md 9), aL cL 7 su0), ((md 10), aL cL 6 de0), ((md 11), aL cL 42 fw0), ((md 12), aI cI 42 cs0), ((md 13), aL cL 13 G10), ((md 14), aL cL 13 G20), ((md 15), aI cI 13 BY0)] s.heap := hP
  have hl := lv_entry ([.ref (md 0), .int (eI y), .int (eI 0)]) (n := 5) (Nat.le_of_ble_eq_true rfl)
  rw [lg_entry_eq]
  generalize (lg_sl ([.ref (md 0), .int (eI y), .int (eI 0)]) ++ List.replicate (5 - (lg_sl ([.ref (md 0), .int (eI y), .int (eI 0)])).length) Slot.unset).toArray = ls at hl ⊢
  have hl : lv_has ls 5 [(0, .ref (md 0)), (1, .int (eI y)), (2, .int (eI 0))] := hl
  have hn5 := hM.1.1
  by_cases hbad : (y < 0 ∨ (n : Int) ≤ y + 1)
  ·
    refine lv_aload_n hx hb d_M_more_0 rfl (lv_at hl 0 rfl) ?_
    refine lv_aload_n hx hb d_M_more_1 rfl (lv_at hl 0 rfl) ?_
    refine lv_iload_n hx hb d_M_more_2 rfl (lv_at hl 1 rfl) ?_
    refine eh_cRV (As := [.int (eI y)]) (rest := [.ref (md 0)]) (v := .int (eI (if (y < 0 ∨ (n : Int) ≤ y + 1) then 1 else 0))) (q := (R_M, T_M, 23)) hx hb hml hown htb hN (r_M_noSpan l D cI cL cZ md co n sh ra up lw kn fo sc ln cb th pl lo pr la cu cl fu fl ys yl yp y hy hM) 1 ⟨tb_681, tb_683, ts_29, tb_7, kin_M_noSpan⟩ dv_M_noSpan ⟨by rw [hR1]; decide, by rw [hR2]; decide⟩ hK hP 0 rfl rfl [0, 1, 2, 3, 4, 5, 6, 7, 8] rfl [0, 1, 2] rfl rfl rfl hl.1 (Nat.le_of_ble_eq_true rfl) d_M_more_3 ⟨Nat.zero_le _, Nat.zero_le _⟩ ?_
    refine we_if_eq (tgt := 13) hx hb (by rw [if_pos hbad]; constructor <;> omega) d_M_more_6 rfl (fun hc6 => absurd hc6 (by rw [if_pos hbad]; omega)) (fun hc6 => ?_)
    refine lv_iconst (v := eI 1) hx hb d_M_more_9 rfl ?_
    refine lv_goto (tgt := 14) hx hb d_M_more_10 rfl ?_
    refine va_put (D := D) (ci := 5) (v := .int (eI 1)) (ty := .int) (C := R_M) (T := T_M) (N := 23) hx hb htb in_M t_M t_M_ok n_M hown hK hP hD hS 0 rfl rfl 0 (by decide) (htb _ tb_588) (fun _ h9 => h9) rfl (by decide +kernel) rfl rfl (Nat.le_of_ble_eq_true rfl) d_M_more_14 (fun H locs hP hD hS => ?_)
    have hP : va_P D classes [((md 0), .inr (5, [.int (eI 1), .int (eI ((n : Nat) : Int)), .ref (md 1), .ref (md 2), .ref (md 3), .int (eI sh), .int (eI ra), .ref (md 4), .ref (md 5), .ref (md 6), .ref (md 7), .ref (md 8), .long (eL up), .long (eL lw), .ref (md 9), .ref (md 10), .ref (md 11), .ref (md 12), .ref (md 13), .ref (md 14), .ref (md 15), .int (eI kn), .int (eI fo)])), ((md 1), aI cI 25 sc), ((md 2), aI cI 4 ln), ((md 3), aI cZ 4 cb), ((md 4), aI cZ 3 th), ((md 5), aI cI 3 pl), ((md 6), aI cI 3 lo), ((md 7), aI cI 3 pr), ((md 8), aI cI 30 la), ((md 9), aL cL 7 su0), ((md 10), aL cL 6 de0), ((md 11), aL cL 42 fw0), ((md 12), aI cI 42 cs0), ((md 13), aL cL 13 G10), ((md 14), aL cL 13 G20), ((md 15), aI cI 13 BY0)] H := hP
    have hD : va_D A [((md 0), .inr (5, [.int (eI 1), .int (eI ((n : Nat) : Int)), .ref (md 1), .ref (md 2), .ref (md 3), .int (eI sh), .int (eI ra), .ref (md 4), .ref (md 5), .ref (md 6), .ref (md 7), .ref (md 8), .long (eL up), .long (eL lw), .ref (md 9), .ref (md 10), .ref (md 11), .ref (md 12), .ref (md 13), .ref (md 14), .ref (md 15), .int (eI kn), .int (eI fo)])), ((md 1), aI cI 25 sc), ((md 2), aI cI 4 ln), ((md 3), aI cZ 4 cb), ((md 4), aI cZ 3 th), ((md 5), aI cI 3 pl), ((md 6), aI cI 3 lo), ((md 7), aI cI 3 pr), ((md 8), aI cI 30 la), ((md 9), aL cL 7 su0), ((md 10), aL cL 6 de0), ((md 11), aL cL 42 fw0), ((md 12), aI cI 42 cs0), ((md 13), aL cL 13 G10), ((md 14), aL cL 13 G20), ((md 15), aI cI 13 BY0)] := hD
    refine lv_aload_n hx hb d_M_more_17 rfl (lv_at hl 0 rfl) ?_
    refine va_get (D := D) (ci := 5) (v := .int (eI 1)) (C := R_M) (T := T_M) (N := 23) hx hb htb in_M hown hK hP 0 rfl rfl 0 (by decide) (htb _ tb_588) (fun _ h9 => h9) rfl d_M_more_18 ?_
    refine we_if_le (tgt := 26) hx hb (by constructor <;> omega) d_M_more_21 rfl (fun hc21 => absurd hc21 (by omega)) (fun hc21 => ?_)
    refine lv_lconst (v := eL 0) hx hb d_M_more_24 (by decide) ?_
    subst hQ
    exact W.lret hx hb hrt (fun t9 ht hW => ⟨⟨(0, 1, kn, fo, up, lw, su0, de0, fw0, cs0, G10, G20, BY0), rfl, Or.inl ⟨hbad, rfl⟩, by rw [ht]; exact hP, hD⟩, hS.F ht⟩) hS.2.2 d_M_more_25
  ·
    refine lv_aload_n hx hb d_M_more_0 rfl (lv_at hl 0 rfl) ?_
    refine lv_aload_n hx hb d_M_more_1 rfl (lv_at hl 0 rfl) ?_
    refine lv_iload_n hx hb d_M_more_2 rfl (lv_at hl 1 rfl) ?_
    refine eh_cRV (As := [.int (eI y)]) (rest := [.ref (md 0)]) (v := .int (eI (if (y < 0 ∨ (n : Int) ≤ y + 1) then 1 else 0))) (q := (R_M, T_M, 23)) hx hb hml hown htb hN (r_M_noSpan l D cI cL cZ md co n sh ra up lw kn fo sc ln cb th pl lo pr la cu cl fu fl ys yl yp y hy hM) 1 ⟨tb_681, tb_683, ts_29, tb_7, kin_M_noSpan⟩ dv_M_noSpan ⟨by rw [hR1]; decide, by rw [hR2]; decide⟩ hK hP 0 rfl rfl [0, 1, 2, 3, 4, 5, 6, 7, 8] rfl [0, 1, 2] rfl rfl rfl hl.1 (Nat.le_of_ble_eq_true rfl) d_M_more_3 ⟨Nat.zero_le _, Nat.zero_le _⟩ ?_
    refine we_if_eq (tgt := 13) hx hb (by rw [if_neg hbad]; constructor <;> omega) d_M_more_6 rfl (fun hc6 => ?_) (fun hc6 => absurd hc6 (by rw [if_neg hbad]; omega))
    refine lv_iconst (v := eI 0) hx hb d_M_more_13 rfl ?_
    refine va_put (D := D) (ci := 5) (v := .int (eI 0)) (ty := .int) (C := R_M) (T := T_M) (N := 23) hx hb htb in_M t_M t_M_ok n_M hown hK hP hD hS 0 rfl rfl 0 (by decide) (htb _ tb_588) (fun _ h9 => h9) rfl (by decide +kernel) rfl rfl (Nat.le_of_ble_eq_true rfl) d_M_more_14 (fun H locs hP hD hS => ?_)
    have hP : va_P D classes [((md 0), .inr (5, [.int (eI 0), .int (eI ((n : Nat) : Int)), .ref (md 1), .ref (md 2), .ref (md 3), .int (eI sh), .int (eI ra), .ref (md 4), .ref (md 5), .ref (md 6), .ref (md 7), .ref (md 8), .long (eL up), .long (eL lw), .ref (md 9), .ref (md 10), .ref (md 11), .ref (md 12), .ref (md 13), .ref (md 14), .ref (md 15), .int (eI kn), .int (eI fo)])), ((md 1), aI cI 25 sc), ((md 2), aI cI 4 ln), ((md 3), aI cZ 4 cb), ((md 4), aI cZ 3 th), ((md 5), aI cI 3 pl), ((md 6), aI cI 3 lo), ((md 7), aI cI 3 pr), ((md 8), aI cI 30 la), ((md 9), aL cL 7 su0), ((md 10), aL cL 6 de0), ((md 11), aL cL 42 fw0), ((md 12), aI cI 42 cs0), ((md 13), aL cL 13 G10), ((md 14), aL cL 13 G20), ((md 15), aI cI 13 BY0)] H := hP
    have hD : va_D A [((md 0), .inr (5, [.int (eI 0), .int (eI ((n : Nat) : Int)), .ref (md 1), .ref (md 2), .ref (md 3), .int (eI sh), .int (eI ra), .ref (md 4), .ref (md 5), .ref (md 6), .ref (md 7), .ref (md 8), .long (eL up), .long (eL lw), .ref (md 9), .ref (md 10), .ref (md 11), .ref (md 12), .ref (md 13), .ref (md 14), .ref (md 15), .int (eI kn), .int (eI fo)])), ((md 1), aI cI 25 sc), ((md 2), aI cI 4 ln), ((md 3), aI cZ 4 cb), ((md 4), aI cZ 3 th), ((md 5), aI cI 3 pl), ((md 6), aI cI 3 lo), ((md 7), aI cI 3 pr), ((md 8), aI cI 30 la), ((md 9), aL cL 7 su0), ((md 10), aL cL 6 de0), ((md 11), aL cL 42 fw0), ((md 12), aI cI 42 cs0), ((md 13), aL cL 13 G10), ((md 14), aL cL 13 G20), ((md 15), aI cI 13 BY0)] := hD
    refine lv_aload_n hx hb d_M_more_17 rfl (lv_at hl 0 rfl) ?_
    refine va_get (D := D) (ci := 5) (v := .int (eI 0)) (C := R_M) (T := T_M) (N := 23) hx hb htb in_M hown hK hP 0 rfl rfl 0 (by decide) (htb _ tb_588) (fun _ h9 => h9) rfl d_M_more_18 ?_
    refine we_if_le (tgt := 26) hx hb (by constructor <;> omega) d_M_more_21 rfl (fun hc21 => ?_) (fun hc21 => absurd hc21 (by omega))
    refine lv_aload_n hx hb d_M_more_26 rfl (lv_at hl 0 rfl) ?_
    refine eh_cMV (As := []) (rest := []) (q := (R_M, T_M, 23)) (wr := []) hx hb hml hown htb hN (m_M_planNow l D cI cL cZ md 0 n sh ra up lw kn fo sc ln cb th pl lo pr la cu cl fu fl ys yl yp su0 de0 fw0 cs0 G10 G20 BY0 hM hkn) 0 ⟨tb_757, tb_759, ts_37, tb_7, kin_M_planNow⟩ dv_M_planNow ⟨by rw [hR1]; decide, by rw [hR2]; decide⟩ hK hP hD hS hA 0 rfl rfl [0, 1, 2, 3, 4, 5, 6, 7, 8, 9, 10, 11, 12, 13, 14, 15] [] rfl rfl (by decide) rfl (by decide) (by decide) [0, 1, 2] rfl rfl rfl hl.1 (Nat.le_of_ble_eq_true rfl) d_M_more_27 ⟨Nat.zero_le _, Nat.zero_le _⟩ (fun u H locs hu hP hD hS => ?_)
    obtain ⟨rv, up9, lw9, su, de, fw, cs, G1, G2, BY⟩ := u
    have hu : eh_pf (eh_kc n ra ln cb ys yp) (eh_pA n sh ln cu cl yl (-1)) (eh_pB n ln fu fl yl (-1)) cs fw rv := hu
    have hun := hu
    have hrv : rv = 1 ∨ rv = 0 := by rcases hu.2 with w | w; exact Or.inl w.1; exact Or.inr w.1
    have hcs2 := eh_rc_b (fun k hk => by have := eh_ku_b hM.1 (s := k / 5) (t := k % 5) (by omega) (by omega); exact this) hu.1
    have hP := hP.sub (ws' := [((md 0), .inr (5, [.int (eI 0), .int (eI ((n : Nat) : Int)), .ref (md 1), .ref (md 2), .ref (md 3), .int (eI sh), .int (eI ra), .ref (md 4), .ref (md 5), .ref (md 6), .ref (md 7), .ref (md 8), .long (eL up9), .long (eL lw9), .ref (md 9), .ref (md 10), .ref (md 11), .ref (md 12), .ref (md 13), .ref (md 14), .ref (md 15), .int (eI 1), .int (eI rv)])), ((md 1), aI cI 25 sc), ((md 2), aI cI 4 ln), ((md 3), aI cZ 4 cb), ((md 4), aI cZ 3 th), ((md 5), aI cI 3 pl), ((md 6), aI cI 3 lo), ((md 7), aI cI 3 pr), ((md 8), aI cI 30 la), ((md 9), aL cL 7 su), ((md 10), aL cL 6 de), ((md 11), aL cL 42 fw), ((md 12), aI cI 42 cs), ((md 13), aL cL 13 G1), ((md 14), aL cL 13 G2), ((md 15), aI cI 13 BY)]) [0, 1, 2, 3, 4, 5, 6, 7, 8, 9, 10, 11, 12, 13, 14, 15] rfl
    have hD := hD.sub (ws' := [((md 0), .inr (5, [.int (eI 0), .int (eI ((n : Nat) : Int)), .ref (md 1), .ref (md 2), .ref (md 3), .int (eI sh), .int (eI ra), .ref (md 4), .ref (md 5), .ref (md 6), .ref (md 7), .ref (md 8), .long (eL up9), .long (eL lw9), .ref (md 9), .ref (md 10), .ref (md 11), .ref (md 12), .ref (md 13), .ref (md 14), .ref (md 15), .int (eI 1), .int (eI rv)])), ((md 1), aI cI 25 sc), ((md 2), aI cI 4 ln), ((md 3), aI cZ 4 cb), ((md 4), aI cZ 3 th), ((md 5), aI cI 3 pl), ((md 6), aI cI 3 lo), ((md 7), aI cI 3 pr), ((md 8), aI cI 30 la), ((md 9), aL cL 7 su), ((md 10), aL cL 6 de), ((md 11), aL cL 42 fw), ((md 12), aI cI 42 cs), ((md 13), aL cL 13 G1), ((md 14), aL cL 13 G2), ((md 15), aI cI 13 BY)]) [0, 1, 2, 3, 4, 5, 6, 7, 8, 9, 10, 11, 12, 13, 14, 15] (by decide) rfl
    refine we_if_ne (tgt := 37) hx hb (by constructor <;> omega) d_M_more_30 rfl (fun hc30 => ?_) (fun hc30 => ?_)
    ·
      refine lv_aload_n hx hb d_M_more_37 rfl (lv_at hl 0 rfl) ?_
      refine eh_cRV (As := []) (rest := []) (v := .long (eL (eh_tot fw cs))) (q := (R_M, T_M, 23)) hx hb hml hown htb hN (r_M_total l D cI cL cZ md 0 n sh ra up9 lw9 1 rv fw cs hcs2) 0 ⟨tb_807, tb_809, ts_49, tb_7, kin_M_total⟩ dv_M_total ⟨by rw [hR1]; decide, by rw [hR2]; decide⟩ hK hP 0 rfl rfl [0, 11, 12] rfl [0, 1, 2] rfl rfl rfl hl.1 (Nat.le_of_ble_eq_true rfl) d_M_more_38 ⟨Nat.zero_le _, Nat.zero_le _⟩ ?_
      refine lv_lstore_n hx hb d_M_more_41 rfl hl (by decide) rfl (fun ls hl => ?_)
      have hl : lv_has ls 5 [(3, .long (eL (eh_tot fw cs))), (0, .ref (md 0)), (1, .int (eI y)), (2, .int (eI 0))] := hl
      refine lv_aload_n hx hb d_M_more_42 rfl (lv_at hl 1 rfl) ?_
      refine lv_iconst (v := eI 0) hx hb d_M_more_43 rfl ?_
      refine va_put (D := D) (ci := 5) (v := .int (eI 0)) (ty := .boolean) (C := R_M) (T := T_M) (N := 23) hx hb htb in_M t_M t_M_ok n_M hown hK hP hD hS 0 rfl rfl 21 (by decide) (htb _ tb_609) (fun _ h9 => h9) rfl (by decide +kernel) rfl rfl (Nat.le_of_ble_eq_true rfl) d_M_more_44 (fun H locs hP hD hS => ?_)
      have hP : va_P D classes [((md 0), .inr (5, [.int (eI 0), .int (eI ((n : Nat) : Int)), .ref (md 1), .ref (md 2), .ref (md 3), .int (eI sh), .int (eI ra), .ref (md 4), .ref (md 5), .ref (md 6), .ref (md 7), .ref (md 8), .long (eL up9), .long (eL lw9), .ref (md 9), .ref (md 10), .ref (md 11), .ref (md 12), .ref (md 13), .ref (md 14), .ref (md 15), .int (eI 0), .int (eI rv)])), ((md 1), aI cI 25 sc), ((md 2), aI cI 4 ln), ((md 3), aI cZ 4 cb), ((md 4), aI cZ 3 th), ((md 5), aI cI 3 pl), ((md 6), aI cI 3 lo), ((md 7), aI cI 3 pr), ((md 8), aI cI 30 la), ((md 9), aL cL 7 su), ((md 10), aL cL 6 de), ((md 11), aL cL 42 fw), ((md 12), aI cI 42 cs), ((md 13), aL cL 13 G1), ((md 14), aL cL 13 G2), ((md 15), aI cI 13 BY)] H := hP
      have hD : va_D A [((md 0), .inr (5, [.int (eI 0), .int (eI ((n : Nat) : Int)), .ref (md 1), .ref (md 2), .ref (md 3), .int (eI sh), .int (eI ra), .ref (md 4), .ref (md 5), .ref (md 6), .ref (md 7), .ref (md 8), .long (eL up9), .long (eL lw9), .ref (md 9), .ref (md 10), .ref (md 11), .ref (md 12), .ref (md 13), .ref (md 14), .ref (md 15), .int (eI 0), .int (eI rv)])), ((md 1), aI cI 25 sc), ((md 2), aI cI 4 ln), ((md 3), aI cZ 4 cb), ((md 4), aI cZ 3 th), ((md 5), aI cI 3 pl), ((md 6), aI cI 3 lo), ((md 7), aI cI 3 pr), ((md 8), aI cI 30 la), ((md 9), aL cL 7 su), ((md 10), aL cL 6 de), ((md 11), aL cL 42 fw), ((md 12), aI cI 42 cs), ((md 13), aL cL 13 G1), ((md 14), aL cL 13 G2), ((md 15), aI cI 13 BY)] := hD
      refine lv_aload_n hx hb d_M_more_47 rfl (lv_at hl 1 rfl) ?_
      refine lv_iload_n hx hb d_M_more_48 rfl (lv_at hl 3 rfl) ?_
      refine we_if_eq (tgt := 56) hx hb (by constructor <;> omega) d_M_more_49 rfl (fun hc49 => ?_) (fun hc49 => absurd hc49 (by omega))
      refine lv_iconst (v := eI (-1)) hx hb d_M_more_56 rfl ?_
      refine lv_iload_n hx hb d_M_more_57 rfl (lv_at hl 3 rfl) ?_
      refine we_if_eq (tgt := 65) hx hb (by constructor <;> omega) d_M_more_58 rfl (fun hc58 => ?_) (fun hc58 => absurd hc58 (by omega))
      refine lv_iload_n hx hb d_M_more_65 rfl (lv_at hl 2 rfl) ?_
      refine eh_cMV (As := [.int (eI (-1)), .int (eI y)]) (rest := []) (q := (R_M, T_M, 23)) (wr := []) hx hb hml hown htb hN (m_M_plan l D cI cL cZ md 0 n sh ra up9 lw9 0 rv sc ln cb th pl lo pr la cu cl fu fl ys yl yp (-1) y (by omega) (by omega) su de fw cs G1 G2 BY hM) 2 ⟨tb_761, tb_763, ts_38, tb_7, kin_M_plan⟩ dv_M_plan ⟨by rw [hR1]; decide, by rw [hR2]; decide⟩ hK hP hD hS hA 0 rfl rfl [0, 1, 2, 3, 4, 5, 6, 7, 8, 9, 10, 11, 12, 13, 14, 15] [] rfl rfl (by decide) rfl (by decide) (by decide) [0, 1, 2] rfl rfl rfl hl.1 (Nat.le_of_ble_eq_true rfl) d_M_more_66 ⟨Nat.zero_le _, Nat.zero_le _⟩ (fun u H locs hu hP hD hS => ?_)
      obtain ⟨rw2, up7, lw7, su7, de7, fw7, cs7, A7, B7, C7⟩ := u
      have hu7 : eh_pf (eh_kc n ra ln cb ys yp) (eh_pA n sh ln cu cl yl (-1)) (eh_pB n ln fu fl yl y) cs7 fw7 rw2 := hu
      have hrv7 : rw2 = 1 ∨ rw2 = 0 := by rcases hu7.2 with w | w; exact Or.inl w.1; exact Or.inr w.1
      have hcs7 := eh_rc_b (fun k hk => by have := eh_ku_b hM.1 (s := k / 5) (t := k % 5) (by omega) (by omega); exact this) hu7.1
      have hP := hP.sub (ws' := [((md 0), .inr (5, [.int (eI 0), .int (eI ((n : Nat) : Int)), .ref (md 1), .ref (md 2), .ref (md 3), .int (eI sh), .int (eI ra), .ref (md 4), .ref (md 5), .ref (md 6), .ref (md 7), .ref (md 8), .long (eL up7), .long (eL lw7), .ref (md 9), .ref (md 10), .ref (md 11), .ref (md 12), .ref (md 13), .ref (md 14), .ref (md 15), .int (eI 0), .int (eI rv)])), ((md 1), aI cI 25 sc), ((md 2), aI cI 4 ln), ((md 3), aI cZ 4 cb), ((md 4), aI cZ 3 th), ((md 5), aI cI 3 pl), ((md 6), aI cI 3 lo), ((md 7), aI cI 3 pr), ((md 8), aI cI 30 la), ((md 9), aL cL 7 su7), ((md 10), aL cL 6 de7), ((md 11), aL cL 42 fw7), ((md 12), aI cI 42 cs7), ((md 13), aL cL 13 A7), ((md 14), aL cL 13 B7), ((md 15), aI cI 13 C7)]) [0, 1, 2, 3, 4, 5, 6, 7, 8, 9, 10, 11, 12, 13, 14, 15] rfl
      have hD := hD.sub (ws' := [((md 0), .inr (5, [.int (eI 0), .int (eI ((n : Nat) : Int)), .ref (md 1), .ref (md 2), .ref (md 3), .int (eI sh), .int (eI ra), .ref (md 4), .ref (md 5), .ref (md 6), .ref (md 7), .ref (md 8), .long (eL up7), .long (eL lw7), .ref (md 9), .ref (md 10), .ref (md 11), .ref (md 12), .ref (md 13), .ref (md 14), .ref (md 15), .int (eI 0), .int (eI rv)])), ((md 1), aI cI 25 sc), ((md 2), aI cI 4 ln), ((md 3), aI cZ 4 cb), ((md 4), aI cZ 3 th), ((md 5), aI cI 3 pl), ((md 6), aI cI 3 lo), ((md 7), aI cI 3 pr), ((md 8), aI cI 30 la), ((md 9), aL cL 7 su7), ((md 10), aL cL 6 de7), ((md 11), aL cL 42 fw7), ((md 12), aI cI 42 cs7), ((md 13), aL cL 13 A7), ((md 14), aL cL 13 B7), ((md 15), aI cI 13 C7)]) [0, 1, 2, 3, 4, 5, 6, 7, 8, 9, 10, 11, 12, 13, 14, 15] (by decide) rfl
      refine we_if_eq (tgt := 81) hx hb (by constructor <;> omega) d_M_more_69 rfl (fun hc69 => ?_) (fun hc69 => ?_)
      ·
        refine we_ldc2 (a := (-1)) hx hb hown (htb _ tb_811) (by decide) d_M_more_81 ?_
        subst hQ
        exact W.lret hx hb hrt (fun t9 ht hW => ⟨⟨((-1), 0, 0, rv, up7, lw7, su7, de7, fw7, cs7, A7, B7, C7), rfl, Or.inr ⟨hbad, rfl, Or.inr ⟨rfl, by show rv = 1; omega, fw, cs, (by have w9 : rv = 1 := (by omega); have w8 := hun; rw [w9] at w8; exact w8), rw2, hu7, by show ((-1) : Int) = _; rw [if_neg (by omega)]⟩⟩, by rw [ht]; exact hP, hD⟩, hS.F ht⟩) hS.2.2 d_M_more_84
      ·
        refine lv_aload_n hx hb d_M_more_72 rfl (lv_at hl 1 rfl) ?_
        refine eh_cRV (As := []) (rest := []) (v := .long (eL (eh_tot fw7 cs7))) (q := (R_M, T_M, 23)) hx hb hml hown htb hN (r_M_total l D cI cL cZ md 0 n sh ra up7 lw7 0 rv fw7 cs7 hcs7) 0 ⟨tb_807, tb_809, ts_49, tb_7, kin_M_total⟩ dv_M_total ⟨by rw [hR1]; decide, by rw [hR2]; decide⟩ hK hP 0 rfl rfl [0, 11, 12] rfl [0, 1, 2] rfl rfl rfl hl.1 (Nat.le_of_ble_eq_true rfl) d_M_more_73 ⟨Nat.zero_le _, Nat.zero_le _⟩ ?_
        refine lv_lload_n hx hb d_M_more_76 rfl (lv_at hl 0 rfl) ?_
        refine we_lsub hx hb d_M_more_77 ?_
        refine lv_goto (tgt := 84) hx hb d_M_more_78 rfl ?_
        subst hQ
        exact W.lret hx hb hrt (fun t9 ht hW => ⟨⟨(((eh_tot fw7 cs7) - (eh_tot fw cs)), 0, 0, rv, up7, lw7, su7, de7, fw7, cs7, A7, B7, C7), rfl, Or.inr ⟨hbad, rfl, Or.inr ⟨rfl, by show rv = 1; omega, fw, cs, (by have w9 : rv = 1 := (by omega); have w8 := hun; rw [w9] at w8; exact w8), rw2, hu7, by show (((eh_tot fw7 cs7) - (eh_tot fw cs)) : Int) = _; rw [if_pos (by omega)]⟩⟩, by rw [ht]; exact hP, hD⟩, hS.F ht⟩) hS.2.2 d_M_more_84
    ·
      refine we_ldc2 (a := (-1)) hx hb hown (htb _ tb_811) (by decide) d_M_more_33 ?_
      subst hQ
      exact W.lret hx hb hrt (fun t9 ht hW => ⟨⟨(-1, 0, 1, rv, up9, lw9, su, de, fw, cs, G1, G2, BY), rfl, Or.inr ⟨hbad, rfl, Or.inl ⟨rfl, rfl, by show rv = 0; omega, hu⟩⟩, by rw [ht]; exact hP, hD⟩, hS.F ht⟩) hS.2.2 d_M_more_36
