abbrev c_M_hauled : ByteArray := prog_7_method_40_code
def y_M_hauled : MethodName := ⟨"EarthHaulsModel", "hauled", "(II)I"⟩
abbrev k_M_hauled : Cond := .code y_M_hauled c_M_hauled 3 (some .int)
theorem kin_M_hauled : k_M_hauled ∈ ew_t := tb_815
theorem dv_M_hauled : eh_dV y_M_hauled "EarthHaulsModel" 2 := ⟨rfl, by decide, by decide, by decide +kernel⟩
theorem d_M_hauled_0 : decode c_M_hauled 0 = .ok (.aload_n 0, 1) := by decide +kernel
theorem d_M_hauled_1 : decode c_M_hauled 1 = .ok (.iload_n 1, 1) := by decide +kernel
theorem d_M_hauled_2 : decode c_M_hauled 2 = .ok (.iload_n 2, 1) := by decide +kernel
theorem d_M_hauled_3 : decode c_M_hauled 3 = .ok (.invokestatic 129, 3) := by decide +kernel
theorem d_M_hauled_6 : decode c_M_hauled 6 = .ok (.ifCond .eq 7, 3) := by decide +kernel
theorem d_M_hauled_9 : decode c_M_hauled 9 = .ok (.iconst 1, 1) := by decide +kernel
theorem d_M_hauled_10 : decode c_M_hauled 10 = .ok (.goto 4, 3) := by decide +kernel
theorem d_M_hauled_13 : decode c_M_hauled 13 = .ok (.iconst 0, 1) := by decide +kernel
theorem d_M_hauled_14 : decode c_M_hauled 14 = .ok (.putfield 64, 3) := by decide +kernel
theorem d_M_hauled_17 : decode c_M_hauled 17 = .ok (.aload_n 0, 1) := by decide +kernel
theorem d_M_hauled_18 : decode c_M_hauled 18 = .ok (.getfield 64, 3) := by decide +kernel
theorem d_M_hauled_21 : decode c_M_hauled 21 = .ok (.ifCond .le 5, 3) := by decide +kernel
theorem d_M_hauled_24 : decode c_M_hauled 24 = .ok (.iconst 0, 1) := by decide +kernel
theorem d_M_hauled_25 : decode c_M_hauled 25 = .ok (.ireturn, 1) := by decide +kernel
theorem d_M_hauled_26 : decode c_M_hauled 26 = .ok (.aload_n 0, 1) := by decide +kernel
theorem d_M_hauled_27 : decode c_M_hauled 27 = .ok (.invokevirtual 182, 3) := by decide +kernel
theorem d_M_hauled_30 : decode c_M_hauled 30 = .ok (.ifCond .eq 18, 3) := by decide +kernel
theorem d_M_hauled_33 : decode c_M_hauled 33 = .ok (.aload_n 0, 1) := by decide +kernel
theorem d_M_hauled_34 : decode c_M_hauled 34 = .ok (.getfield 49, 3) := by decide +kernel
theorem d_M_hauled_37 : decode c_M_hauled 37 = .ok (.bipush 6, 2) := by decide +kernel
theorem d_M_hauled_39 : decode c_M_hauled 39 = .ok (.iload_n 1, 1) := by decide +kernel
theorem d_M_hauled_40 : decode c_M_hauled 40 = .ok (.imul, 1) := by decide +kernel
theorem d_M_hauled_41 : decode c_M_hauled 41 = .ok (.iload_n 2, 1) := by decide +kernel
theorem d_M_hauled_42 : decode c_M_hauled 42 = .ok (.iadd, 1) := by decide +kernel
theorem d_M_hauled_43 : decode c_M_hauled 43 = .ok (.laload, 1) := by decide +kernel
theorem d_M_hauled_44 : decode c_M_hauled 44 = .ok (.l2i, 1) := by decide +kernel
theorem d_M_hauled_45 : decode c_M_hauled 45 = .ok (.goto 4, 3) := by decide +kernel
theorem d_M_hauled_48 : decode c_M_hauled 48 = .ok (.iconst 0, 1) := by decide +kernel
theorem d_M_hauled_49 : decode c_M_hauled 49 = .ok (.ireturn, 1) := by decide +kernel
set_option maxHeartbeats 1000000 in
set_option maxRecDepth 100000 in
theorem m_M_hauled (l : Launch) (D : va_G) (cI cL cZ : ClassId) (md : Nat → Nat) (co : Int) (n : Nat) (sh ra up lw kn fo : Int) (sc ln cb th pl lo pr la : Nat → Int) (cu cl fu fl : Nat → Nat) (ys yl yp : Nat → Int) (y z : Int) (hy : -2147483648 ≤ y ∧ y < 2147483648) (hz : -2147483648 ≤ z ∧ z < 2147483648) (su0 de0 fw0 cs0 G10 G20 BY0 : Nat → Int) (hM : eh_MS n sh ra sc ln cb th pl lo pr la cu cl fu fl ys yl yp) (hkn : kn = 0 ∨ kn = 1 ∧ eh_pf (eh_kc n ra ln cb ys yp) (eh_pA n sh ln cu cl yl (-1)) (eh_pB n ln fu fl yl (-1)) cs0 fw0 fo) : eh_M (S := Int × Int × Int × Int × Int × (Nat → Int) × (Nat → Int) × (Nat → Int) × (Nat → Int) × (Nat → Int) × (Nat → Int) × (Nat → Int)) l y_M_hauled k_M_hauled 8 208 D classes [(cI, .int), (cL, .long), (cZ, .boolean)] [.ref (md 0), .int (eI y), .int (eI z)] [((md 0), .inr (5, [.int (eI co), .int (eI ((n : Nat) : Int)), .ref (md 1), .ref (md 2), .ref (md 3), .int (eI sh), .int (eI ra), .ref (md 4), .ref (md 5), .ref (md 6), .ref (md 7), .ref (md 8), .long (eL up), .long (eL lw), .ref (md 9), .ref (md 10), .ref (md 11), .ref (md 12), .ref (md 13), .ref (md 14), .ref (md 15), .int (eI kn), .int (eI fo)])), ((md 1), aI cI 25 sc), ((md 2), aI cI 4 ln), ((md 3), aI cZ 4 cb), ((md 4), aI cZ 3 th), ((md 5), aI cI 3 pl), ((md 6), aI cI 3 lo), ((md 7), aI cI 3 pr), ((md 8), aI cI 30 la), ((md 9), aL cL 7 su0), ((md 10), aL cL 6 de0), ((md 11), aL cL 42 fw0), ((md 12), aI cI 42 cs0), ((md 13), aL cL 13 G10), ((md 14), aL cL 13 G20), ((md 15), aI cI 13 BY0)] (fun u => ((y < 0 ∨ 5 < y ∨ z < 0 ∨ 4 < z) ∧ u = (1, kn, fo, up, lw, su0, de0, fw0, cs0, G10, G20, BY0)) ∨ (¬ (y < 0 ∨ 5 < y ∨ z < 0 ∨ 4 < z) ∧ u.1 = 0 ∧ u.2.1 = 1 ∧ eh_pf (eh_kc n ra ln cb ys yp) (eh_pA n sh ln cu cl yl (-1)) (eh_pB n ln fu fl yl (-1)) u.2.2.2.2.2.2.2.2.1 u.2.2.2.2.2.2.2.1 u.2.2.1)) (fun u => some (.int (eI (if (y < 0 ∨ 5 < y ∨ z < 0 ∨ 4 < z) then 0 else if u.2.2.1 = 1 then u.2.2.2.2.2.2.2.1 (6 * y.toNat + z.toNat) else 0)))) (fun u => [((md 0), .inr (5, [.int (eI u.1), .int (eI ((n : Nat) : Int)), .ref (md 1), .ref (md 2), .ref (md 3), .int (eI sh), .int (eI ra), .ref (md 4), .ref (md 5), .ref (md 6), .ref (md 7), .ref (md 8), .long (eL u.2.2.2.1), .long (eL u.2.2.2.2.1), .ref (md 9), .ref (md 10), .ref (md 11), .ref (md 12), .ref (md 13), .ref (md 14), .ref (md 15), .int (eI u.2.1), .int (eI u.2.2.1)])), ((md 1), aI cI 25 sc), ((md 2), aI cI 4 ln), ((md 3), aI cZ 4 cb), ((md 4), aI cZ 3 th), ((md 5), aI cI 3 pl), ((md 6), aI cI 3 lo), ((md 7), aI cI 3 pr), ((md 8), aI cI 30 la), ((md 9), aL cL 7 u.2.2.2.2.2.1), ((md 10), aL cL 6 u.2.2.2.2.2.2.1), ((md 11), aL cL 42 u.2.2.2.2.2.2.2.1), ((md 12), aI cI 42 u.2.2.2.2.2.2.2.2.1), ((md 13), aL cL 13 u.2.2.2.2.2.2.2.2.2.1), ((md 14), aL cL 13 u.2.2.2.2.2.2.2.2.2.2.1), ((md 15), aI cI 13 u.2.2.2.2.2.2.2.2.2.2.2)]) := by
  intro sz
  refine Met.ofW (cc := c_M_hauled) (maxL := 3) (ret := (some .int)) (by decide) rfl ?_
  intro p e s m args below meth c s₁ B hml hv
  obtain ⟨hargs, hsz, hP, hK, hD0, hN⟩ := hv
  have hx := B.exec
  have hb := B.bytes
  have hrt := B.returns
  have hts := atoms_spec (ws := k_M_hauled :: ew_t) B.pre
  have htb : ∀ w ∈ ew_t, w.before args s = true := fun w h => hts w (List.mem_cons_of_mem _ h)
  have hown : s.vm.findClass "EarthHaulsModel" = some m.cls := findClass_of_methodNamed B.named
  have hlocks := B.notSynchronized
  have hE : entryFrame m args 3 = entryFrame m ([.ref (md 0), .int (eI y), .int (eI z)] : List Value).toArray 3 := by rw [hargs]
  rw [hE]
  clear hE hts B hargs
  generalize hRe : (headSpec _ _).room = R
  have hR1 : R.frames = 8 := by rw [← hRe]; rfl
  have hR2 : R.locals = 208 := by rw [← hRe]; rfl
  clear hRe
  generalize hQ : MQ below _ _ s 0 0 _ = Q
  subst hsz
  have hD := hD0.self (sz := s.heap.size)
  generalize hAe : va_A [((md 0), .inr (5, [.int (eI co), .int (eI ((n : Nat) : Int)), .ref (md 1), .ref (md 2), .ref (md 3), .int (eI sh), .int (eI ra), .ref (md 4), .ref (md 5), .ref (md 6), .ref (md 7), .ref (md 8), .long (eL up), .long (eL lw), .ref (md 9), .ref (md 10), .ref (md 11), .ref (md 12), .ref (md 13), .ref (md 14), .ref (md 15), .int (eI kn), .int (eI fo)])), ((md 1), aI cI 25 sc), ((md 2), aI cI 4 ln), ((md 3), aI cZ 4 cb), ((md 4), aI cZ 3 th), ((md 5), aI cI 3 pl), ((md 6), aI cI 3 lo), ((md 7), aI cI 3 pr), ((md 8), aI cI 30 la), ((md 9), aL cL 7 su0), ((md 10), aL cL 6 de0), ((md 11), aL cL 42 fw0), ((md 12), aI cI 42 cs0), ((md 13), aL cL 13 G10), ((md 14), aL cL 13 G20), ((md 15), aI cI 13 BY0)] s.heap.size = A at hD hQ
  have hA : ∀ q : Nat, s.heap.size ≤ q → A q := fun q h => by rw [← hAe]; exact Or.inr h
  have hS : va_S A s.heap s.heap [] := va_S.rf
  have hP : va_P D classes [((md 0), .inr (5, [.int (eI co), .int (eI ((n : Nat) : Int)), .ref (md 1), .ref (md 2), .ref (md 3), .int (eI sh), .int (eI ra), .ref (md 4), .ref (md 5), .ref (md 6), .ref (md 7), .ref (md 8), .long (eL up), .long (eL lw), .ref (md 9), .ref (md 10), .ref (md 11), .ref (md 12), .ref (md 13), .ref (md 14), .ref (md 15), .int (eI kn), .int (eI fo)])), ((md 1), aI cI 25 sc), ((md 2), aI cI 4 ln), ((md 3), aI cZ 4 cb), ((md 4), aI cZ 3 th), ((md 5), aI cI 3 pl), ((md 6), aI cI 3 lo), ((md 7), aI cI 3 pr), ((md 8), aI cI 30 la), ((md 9), aL cL 7 su0), ((md 10), aL cL 6 de0), ((md 11), aL cL 42 fw0), ((md 12), aI cI 42 cs0), ((md 13), aL cL 13 G10), ((md 14), aL cL 13 G20), ((md 15), aI cI 13 BY0)] s.heap := hP
  have hl := lv_entry ([.ref (md 0), .int (eI y), .int (eI z)]) (n := 3) (Nat.le_of_ble_eq_true rfl)
  rw [lg_entry_eq]
  generalize (lg_sl ([.ref (md 0), .int (eI y), .int (eI z)]) ++ List.replicate (3 - (lg_sl ([.ref (md 0), .int (eI y), .int (eI z)])).length) Slot.unset).toArray = ls at hl ⊢
  have hl : lv_has ls 3 [(0, .ref (md 0)), (1, .int (eI y)), (2, .int (eI z))] := hl
  by_cases hbad : (y < 0 ∨ 5 < y ∨ z < 0 ∨ 4 < z)
  ·
    refine lv_aload_n hx hb d_M_hauled_0 rfl (lv_at hl 0 rfl) ?_
    refine lv_iload_n hx hb d_M_hauled_1 rfl (lv_at hl 1 rfl) ?_
    refine lv_iload_n hx hb d_M_hauled_2 rfl (lv_at hl 2 rfl) ?_
    refine eh_cRS (As := [.int (eI y), .int (eI z)]) (rest := [.ref (md 0)]) (v := .int (eI (if (y < 0 ∨ 5 < y ∨ z < 0 ∨ 4 < z) then 1 else 0))) hx hb hml hown htb hN (r_M_noHaul l D y z hy hz) 2 ⟨tb_738, tb_739, tb_7, kin_M_noHaul⟩ dv_M_noHaul ⟨by rw [hR1]; decide, by rw [hR2]; decide⟩ hK hP [] rfl [] rfl rfl rfl hl.1 (Nat.le_of_ble_eq_true rfl) d_M_hauled_3 ⟨Nat.zero_le _, Nat.zero_le _⟩ ?_
    refine we_if_eq (tgt := 13) hx hb (by rw [if_pos hbad]; constructor <;> omega) d_M_hauled_6 rfl (fun hc6 => absurd hc6 (by rw [if_pos hbad]; omega)) (fun hc6 => ?_)
    refine lv_iconst (v := eI 1) hx hb d_M_hauled_9 rfl ?_
    refine lv_goto (tgt := 14) hx hb d_M_hauled_10 rfl ?_
    refine va_put (D := D) (ci := 5) (v := .int (eI 1)) (ty := .int) (C := R_M) (T := T_M) (N := 23) hx hb htb in_M t_M t_M_ok n_M hown hK hP hD hS 0 rfl rfl 0 (by decide) (htb _ tb_588) (fun _ h9 => h9) rfl (by decide +kernel) rfl rfl (Nat.le_of_ble_eq_true rfl) d_M_hauled_14 (fun H locs hP hD hS => ?_)
    have hP : va_P D classes [((md 0), .inr (5, [.int (eI 1), .int (eI ((n : Nat) : Int)), .ref (md 1), .ref (md 2), .ref (md 3), .int (eI sh), .int (eI ra), .ref (md 4), .ref (md 5), .ref (md 6), .ref (md 7), .ref (md 8), .long (eL up), .long (eL lw), .ref (md 9), .ref (md 10), .ref (md 11), .ref (md 12), .ref (md 13), .ref (md 14), .ref (md 15), .int (eI kn), .int (eI fo)])), ((md 1), aI cI 25 sc), ((md 2), aI cI 4 ln), ((md 3), aI cZ 4 cb), ((md 4), aI cZ 3 th), ((md 5), aI cI 3 pl), ((md 6), aI cI 3 lo), ((md 7), aI cI 3 pr), ((md 8), aI cI 30 la), ((md 9), aL cL 7 su0), ((md 10), aL cL 6 de0), ((md 11), aL cL 42 fw0), ((md 12), aI cI 42 cs0), ((md 13), aL cL 13 G10), ((md 14), aL cL 13 G20), ((md 15), aI cI 13 BY0)] H := hP
    have hD : va_D A [((md 0), .inr (5, [.int (eI 1), .int (eI ((n : Nat) : Int)), .ref (md 1), .ref (md 2), .ref (md 3), .int (eI sh), .int (eI ra), .ref (md 4), .ref (md 5), .ref (md 6), .ref (md 7), .ref (md 8), .long (eL up), .long (eL lw), .ref (md 9), .ref (md 10), .ref (md 11), .ref (md 12), .ref (md 13), .ref (md 14), .ref (md 15), .int (eI kn), .int (eI fo)])), ((md 1), aI cI 25 sc), ((md 2), aI cI 4 ln), ((md 3), aI cZ 4 cb), ((md 4), aI cZ 3 th), ((md 5), aI cI 3 pl), ((md 6), aI cI 3 lo), ((md 7), aI cI 3 pr), ((md 8), aI cI 30 la), ((md 9), aL cL 7 su0), ((md 10), aL cL 6 de0), ((md 11), aL cL 42 fw0), ((md 12), aI cI 42 cs0), ((md 13), aL cL 13 G10), ((md 14), aL cL 13 G20), ((md 15), aI cI 13 BY0)] := hD
    refine lv_aload_n hx hb d_M_hauled_17 rfl (lv_at hl 0 rfl) ?_
    refine va_get (D := D) (ci := 5) (v := .int (eI 1)) (C := R_M) (T := T_M) (N := 23) hx hb htb in_M hown hK hP 0 rfl rfl 0 (by decide) (htb _ tb_588) (fun _ h9 => h9) rfl d_M_hauled_18 ?_
    refine we_if_le (tgt := 26) hx hb (by constructor <;> omega) d_M_hauled_21 rfl (fun hc21 => absurd hc21 (by omega)) (fun hc21 => ?_)
    refine lv_iconst (v := eI 0) hx hb d_M_hauled_24 rfl ?_
    have hres : (0 : Int) = (if (y < 0 ∨ 5 < y ∨ z < 0 ∨ 4 < z) then 0 else if fo = 1 then fw0 (6 * y.toNat + z.toNat) else 0) := by rw [if_pos hbad]
    rw [hres]
    subst hQ
    exact W.iret hx hb hrt (fun t9 ht hW => ⟨⟨(1, kn, fo, up, lw, su0, de0, fw0, cs0, G10, G20, BY0), rfl, Or.inl ⟨hbad, rfl⟩, by rw [ht]; exact hP, hD⟩, hS.F ht⟩) hS.2.2 d_M_hauled_25
  ·
    refine lv_aload_n hx hb d_M_hauled_0 rfl (lv_at hl 0 rfl) ?_
    refine lv_iload_n hx hb d_M_hauled_1 rfl (lv_at hl 1 rfl) ?_
    refine lv_iload_n hx hb d_M_hauled_2 rfl (lv_at hl 2 rfl) ?_
    refine eh_cRS (As := [.int (eI y), .int (eI z)]) (rest := [.ref (md 0)]) (v := .int (eI (if (y < 0 ∨ 5 < y ∨ z < 0 ∨ 4 < z) then 1 else 0))) hx hb hml hown htb hN (r_M_noHaul l D y z hy hz) 2 ⟨tb_738, tb_739, tb_7, kin_M_noHaul⟩ dv_M_noHaul ⟨by rw [hR1]; decide, by rw [hR2]; decide⟩ hK hP [] rfl [] rfl rfl rfl hl.1 (Nat.le_of_ble_eq_true rfl) d_M_hauled_3 ⟨Nat.zero_le _, Nat.zero_le _⟩ ?_
    refine we_if_eq (tgt := 13) hx hb (by rw [if_neg hbad]; constructor <;> omega) d_M_hauled_6 rfl (fun hc6 => ?_) (fun hc6 => absurd hc6 (by rw [if_neg hbad]; omega))
    refine lv_iconst (v := eI 0) hx hb d_M_hauled_13 rfl ?_
    refine va_put (D := D) (ci := 5) (v := .int (eI 0)) (ty := .int) (C := R_M) (T := T_M) (N := 23) hx hb htb in_M t_M t_M_ok n_M hown hK hP hD hS 0 rfl rfl 0 (by decide) (htb _ tb_588) (fun _ h9 => h9) rfl (by decide +kernel) rfl rfl (Nat.le_of_ble_eq_true rfl) d_M_hauled_14 (fun H locs hP hD hS => ?_)
    have hP : va_P D classes [((md 0), .inr (5, [.int (eI 0), .int (eI ((n : Nat) : Int)), .ref (md 1), .ref (md 2), .ref (md 3), .int (eI sh), .int (eI ra), .ref (md 4), .ref (md 5), .ref (md 6), .ref (md 7), .ref (md 8), .long (eL up), .long (eL lw), .ref (md 9), .ref (md 10), .ref (md 11), .ref (md 12), .ref (md 13), .ref (md 14), .ref (md 15), .int (eI kn), .int (eI fo)])), ((md 1), aI cI 25 sc), ((md 2), aI cI 4 ln), ((md 3), aI cZ 4 cb), ((md 4), aI cZ 3 th), ((md 5), aI cI 3 pl), ((md 6), aI cI 3 lo), ((md 7), aI cI 3 pr), ((md 8), aI cI 30 la), ((md 9), aL cL 7 su0), ((md 10), aL cL 6 de0), ((md 11), aL cL 42 fw0), ((md 12), aI cI 42 cs0), ((md 13), aL cL 13 G10), ((md 14), aL cL 13 G20), ((md 15), aI cI 13 BY0)] H := hP
    have hD : va_D A [((md 0), .inr (5, [.int (eI 0), .int (eI ((n : Nat) : Int)), .ref (md 1), .ref (md 2), .ref (md 3), .int (eI sh), .int (eI ra), .ref (md 4), .ref (md 5), .ref (md 6), .ref (md 7), .ref (md 8), .long (eL up), .long (eL lw), .ref (md 9), .ref (md 10), .ref (md 11), .ref (md 12), .ref (md 13), .ref (md 14), .ref (md 15), .int (eI kn), .int (eI fo)])), ((md 1), aI cI 25 sc), ((md 2), aI cI 4 ln), ((md 3), aI cZ 4 cb), ((md 4), aI cZ 3 th), ((md 5), aI cI 3 pl), ((md 6), aI cI 3 lo), ((md 7), aI cI 3 pr), ((md 8), aI cI 30 la), ((md 9), aL cL 7 su0), ((md 10), aL cL 6 de0), ((md 11), aL cL 42 fw0), ((md 12), aI cI 42 cs0), ((md 13), aL cL 13 G10), ((md 14), aL cL 13 G20), ((md 15), aI cI 13 BY0)] := hD
    refine lv_aload_n hx hb d_M_hauled_17 rfl (lv_at hl 0 rfl) ?_
    refine va_get (D := D) (ci := 5) (v := .int (eI 0)) (C := R_M) (T := T_M) (N := 23) hx hb htb in_M hown hK hP 0 rfl rfl 0 (by decide) (htb _ tb_588) (fun _ h9 => h9) rfl d_M_hauled_18 ?_
    refine we_if_le (tgt := 26) hx hb (by constructor <;> omega) d_M_hauled_21 rfl (fun hc21 => ?_) (fun hc21 => absurd hc21 (by omega))
    refine lv_aload_n hx hb d_M_hauled_26 rfl (lv_at hl 0 rfl) ?_
    refine eh_cMV (As := []) (rest := []) (q := (R_M, T_M, 23)) (wr := []) hx hb hml hown htb hN (m_M_planNow l D cI cL cZ md 0 n sh ra up lw kn fo sc ln cb th pl lo pr la cu cl fu fl ys yl yp su0 de0 fw0 cs0 G10 G20 BY0 hM hkn) 0 ⟨tb_757, tb_759, ts_37, tb_7, kin_M_planNow⟩ dv_M_planNow ⟨by rw [hR1]; decide, by rw [hR2]; decide⟩ hK hP hD hS hA 0 rfl rfl [0, 1, 2, 3, 4, 5, 6, 7, 8, 9, 10, 11, 12, 13, 14, 15] [] rfl rfl (by decide) rfl (by decide) (by decide) [0, 1, 2] rfl rfl rfl hl.1 (Nat.le_of_ble_eq_true rfl) d_M_hauled_27 ⟨Nat.zero_le _, Nat.zero_le _⟩ (fun u H locs hu hP hD hS => ?_)
    obtain ⟨rv, up9, lw9, su, de, fw, cs, G1, G2, BY⟩ := u
    have hu : eh_pf (eh_kc n ra ln cb ys yp) (eh_pA n sh ln cu cl yl (-1)) (eh_pB n ln fu fl yl (-1)) cs fw rv := hu
    have hrv : rv = 1 ∨ rv = 0 := by rcases hu.2 with w | w; exact Or.inl w.1; exact Or.inr w.1
    have hP := hP.sub (ws' := [((md 0), .inr (5, [.int (eI 0), .int (eI ((n : Nat) : Int)), .ref (md 1), .ref (md 2), .ref (md 3), .int (eI sh), .int (eI ra), .ref (md 4), .ref (md 5), .ref (md 6), .ref (md 7), .ref (md 8), .long (eL up9), .long (eL lw9), .ref (md 9), .ref (md 10), .ref (md 11), .ref (md 12), .ref (md 13), .ref (md 14), .ref (md 15), .int (eI 1), .int (eI rv)])), ((md 1), aI cI 25 sc), ((md 2), aI cI 4 ln), ((md 3), aI cZ 4 cb), ((md 4), aI cZ 3 th), ((md 5), aI cI 3 pl), ((md 6), aI cI 3 lo), ((md 7), aI cI 3 pr), ((md 8), aI cI 30 la), ((md 9), aL cL 7 su), ((md 10), aL cL 6 de), ((md 11), aL cL 42 fw), ((md 12), aI cI 42 cs), ((md 13), aL cL 13 G1), ((md 14), aL cL 13 G2), ((md 15), aI cI 13 BY)]) [0, 1, 2, 3, 4, 5, 6, 7, 8, 9, 10, 11, 12, 13, 14, 15] rfl
    have hD := hD.sub (ws' := [((md 0), .inr (5, [.int (eI 0), .int (eI ((n : Nat) : Int)), .ref (md 1), .ref (md 2), .ref (md 3), .int (eI sh), .int (eI ra), .ref (md 4), .ref (md 5), .ref (md 6), .ref (md 7), .ref (md 8), .long (eL up9), .long (eL lw9), .ref (md 9), .ref (md 10), .ref (md 11), .ref (md 12), .ref (md 13), .ref (md 14), .ref (md 15), .int (eI 1), .int (eI rv)])), ((md 1), aI cI 25 sc), ((md 2), aI cI 4 ln), ((md 3), aI cZ 4 cb), ((md 4), aI cZ 3 th), ((md 5), aI cI 3 pl), ((md 6), aI cI 3 lo), ((md 7), aI cI 3 pr), ((md 8), aI cI 30 la), ((md 9), aL cL 7 su), ((md 10), aL cL 6 de), ((md 11), aL cL 42 fw), ((md 12), aI cI 42 cs), ((md 13), aL cL 13 G1), ((md 14), aL cL 13 G2), ((md 15), aI cI 13 BY)]) [0, 1, 2, 3, 4, 5, 6, 7, 8, 9, 10, 11, 12, 13, 14, 15] (by decide) rfl
    refine we_if_eq (tgt := 48) hx hb (by constructor <;> omega) d_M_hauled_30 rfl (fun hc30 => ?_) (fun hc30 => ?_)
    ·
      refine lv_iconst (v := eI 0) hx hb d_M_hauled_48 rfl ?_
      have hres : (0 : Int) = (if (y < 0 ∨ 5 < y ∨ z < 0 ∨ 4 < z) then 0 else if rv = 1 then fw (6 * y.toNat + z.toNat) else 0) := by rw [if_neg hbad, if_neg (by omega)]
      rw [hres]
      subst hQ
      exact W.iret hx hb hrt (fun t9 ht hW => ⟨⟨(0, 1, rv, up9, lw9, su, de, fw, cs, G1, G2, BY), rfl, Or.inr ⟨hbad, rfl, rfl, hu⟩, by rw [ht]; exact hP, hD⟩, hS.F ht⟩) hS.2.2 d_M_hauled_49
    ·
      refine lv_aload_n hx hb d_M_hauled_33 rfl (lv_at hl 0 rfl) ?_
      refine va_get (D := D) (ci := 5) (v := .ref (md 11)) (C := R_M) (T := T_M) (N := 23) hx hb htb in_M hown hK hP 0 rfl rfl 16 (by decide) (htb _ tb_604) (fun _ h9 => h9) rfl d_M_hauled_34 ?_
      refine lv_bipush (v := eI 6) hx hb d_M_hauled_37 (by decide) ?_
      refine lv_iload_n hx hb d_M_hauled_39 rfl (lv_at hl 1 rfl) ?_
      refine we_imul hx hb d_M_hauled_40 ?_
      refine lv_iload_n hx hb d_M_hauled_41 rfl (lv_at hl 2 rfl) ?_
      refine we_iadd hx hb d_M_hauled_42 ?_
      refine we_lald hx hb hK hP 11 1 rfl rfl (6 * y.toNat + z.toNat) (by omega) (by omega) (by decide) d_M_hauled_43 ?_
      refine we_l2i hx hb d_M_hauled_44 ?_
      refine lv_goto (tgt := 49) hx hb d_M_hauled_45 rfl ?_
      have hres : ((fw (6 * y.toNat + z.toNat)) : Int) = (if (y < 0 ∨ 5 < y ∨ z < 0 ∨ 4 < z) then 0 else if rv = 1 then fw (6 * y.toNat + z.toNat) else 0) := by rw [if_neg hbad, if_pos (by omega)]
      rw [hres]
      subst hQ
      exact W.iret hx hb hrt (fun t9 ht hW => ⟨⟨(0, 1, rv, up9, lw9, su, de, fw, cs, G1, G2, BY), rfl, Or.inr ⟨hbad, rfl, rfl, hu⟩, by rw [ht]; exact hP, hD⟩, hS.F ht⟩) hS.2.2 d_M_hauled_49
abbrev c_M_lay : ByteArray := prog_7_method_42_code
def y_M_lay : MethodName := ⟨"EarthHaulsModel", "lay", "(III)V"⟩
abbrev k_M_lay : Cond := .code y_M_lay c_M_lay 4 none
theorem kin_M_lay : k_M_lay ∈ ew_t := tb_823
theorem dv_M_lay : eh_dV y_M_lay "EarthHaulsModel" 3 := ⟨rfl, by decide, by decide, by decide +kernel⟩
theorem d_M_lay_0 : decode c_M_lay 0 = .ok (.aload_n 0, 1) := by decide +kernel
theorem d_M_lay_1 : decode c_M_lay 1 = .ok (.iload_n 1, 1) := by decide +kernel
theorem d_M_lay_2 : decode c_M_lay 2 = .ok (.iload_n 2, 1) := by decide +kernel
theorem d_M_lay_3 : decode c_M_lay 3 = .ok (.invokestatic 129, 3) := by decide +kernel
theorem d_M_lay_6 : decode c_M_lay 6 = .ok (.ifCond .eq 7, 3) := by decide +kernel
theorem d_M_lay_9 : decode c_M_lay 9 = .ok (.iconst 1, 1) := by decide +kernel
theorem d_M_lay_10 : decode c_M_lay 10 = .ok (.goto 18, 3) := by decide +kernel
theorem d_M_lay_13 : decode c_M_lay 13 = .ok (.iload_n 3, 1) := by decide +kernel
theorem d_M_lay_14 : decode c_M_lay 14 = .ok (.iconst 0, 1) := by decide +kernel
theorem d_M_lay_15 : decode c_M_lay 15 = .ok (.ldc 115, 2) := by decide +kernel
theorem d_M_lay_17 : decode c_M_lay 17 = .ok (.invokestatic 107, 3) := by decide +kernel
theorem d_M_lay_20 : decode c_M_lay 20 = .ok (.ifCond .ne 7, 3) := by decide +kernel
theorem d_M_lay_23 : decode c_M_lay 23 = .ok (.iconst 2, 1) := by decide +kernel
theorem d_M_lay_24 : decode c_M_lay 24 = .ok (.goto 4, 3) := by decide +kernel
theorem d_M_lay_27 : decode c_M_lay 27 = .ok (.iconst 0, 1) := by decide +kernel
theorem d_M_lay_28 : decode c_M_lay 28 = .ok (.putfield 64, 3) := by decide +kernel
theorem d_M_lay_31 : decode c_M_lay 31 = .ok (.aload_n 0, 1) := by decide +kernel
theorem d_M_lay_32 : decode c_M_lay 32 = .ok (.getfield 64, 3) := by decide +kernel
theorem d_M_lay_35 : decode c_M_lay 35 = .ok (.ifCond .ne 14, 3) := by decide +kernel
theorem d_M_lay_38 : decode c_M_lay 38 = .ok (.aload_n 0, 1) := by decide +kernel
theorem d_M_lay_39 : decode c_M_lay 39 = .ok (.getfield 39, 3) := by decide +kernel
theorem d_M_lay_42 : decode c_M_lay 42 = .ok (.iconst 5, 1) := by decide +kernel
theorem d_M_lay_43 : decode c_M_lay 43 = .ok (.iload_n 1, 1) := by decide +kernel
theorem d_M_lay_44 : decode c_M_lay 44 = .ok (.imul, 1) := by decide +kernel
theorem d_M_lay_45 : decode c_M_lay 45 = .ok (.iload_n 2, 1) := by decide +kernel
theorem d_M_lay_46 : decode c_M_lay 46 = .ok (.iadd, 1) := by decide +kernel
theorem d_M_lay_47 : decode c_M_lay 47 = .ok (.iload_n 3, 1) := by decide +kernel
theorem d_M_lay_48 : decode c_M_lay 48 = .ok (.iastore, 1) := by decide +kernel
theorem d_M_lay_49 : decode c_M_lay 49 = .ok (.return_, 1) := by decide +kernel
set_option maxHeartbeats 1000000 in
set_option maxRecDepth 100000 in
theorem m_M_lay (l : Launch) (D : va_G) (cI cL cZ : ClassId) (md : Nat → Nat) (co : Int) (n : Nat) (sh ra up lw kn fo : Int) (sc ln cb th pl lo pr la : Nat → Int) (cu cl fu fl : Nat → Nat) (ys yl yp : Nat → Int) (y z w : Int) (hy : -2147483648 ≤ y ∧ y < 2147483648) (hz : -2147483648 ≤ z ∧ z < 2147483648) (hw : -2147483648 ≤ w ∧ w < 2147483648) (hM : eh_MS n sh ra sc ln cb th pl lo pr la cu cl fu fl ys yl yp) : eh_M (S := Int × (Nat → Int)) l y_M_lay k_M_lay 1 22 D classes [(cI, .int), (cL, .long), (cZ, .boolean)] [.ref (md 0), .int (eI y), .int (eI z), .int (eI w)] [((md 0), .inr (5, [.int (eI co), .int (eI ((n : Nat) : Int)), .ref (md 1), .ref (md 2), .ref (md 3), .int (eI sh), .int (eI ra), .ref (md 4), .ref (md 5), .ref (md 6), .ref (md 7), .ref (md 8), .long (eL up), .long (eL lw), .ref (md 9), .ref (md 10), .ref (md 11), .ref (md 12), .ref (md 13), .ref (md 14), .ref (md 15), .int (eI kn), .int (eI fo)])), ((md 1), aI cI 25 sc), ((md 2), aI cI 4 ln), ((md 3), aI cZ 4 cb), ((md 4), aI cZ 3 th), ((md 5), aI cI 3 pl), ((md 6), aI cI 3 lo), ((md 7), aI cI 3 pr), ((md 8), aI cI 30 la)] (fun u => ((y < 0 ∨ 5 < y ∨ z < 0 ∨ 4 < z) ∧ u = (1, la)) ∨ (¬ (y < 0 ∨ 5 < y ∨ z < 0 ∨ 4 < z) ∧ ¬ (0 ≤ w ∧ w ≤ 100000000) ∧ u = (2, la)) ∨ (¬ (y < 0 ∨ 5 < y ∨ z < 0 ∨ 4 < z) ∧ (0 ≤ w ∧ w ≤ 100000000) ∧ u = (0, (eh_upd la (5 * y.toNat + z.toNat) w)))) (fun _ => none) (fun u => [((md 0), .inr (5, [.int (eI u.1), .int (eI ((n : Nat) : Int)), .ref (md 1), .ref (md 2), .ref (md 3), .int (eI sh), .int (eI ra), .ref (md 4), .ref (md 5), .ref (md 6), .ref (md 7), .ref (md 8), .long (eL up), .long (eL lw), .ref (md 9), .ref (md 10), .ref (md 11), .ref (md 12), .ref (md 13), .ref (md 14), .ref (md 15), .int (eI kn), .int (eI fo)])), ((md 1), aI cI 25 sc), ((md 2), aI cI 4 ln), ((md 3), aI cZ 4 cb), ((md 4), aI cZ 3 th), ((md 5), aI cI 3 pl), ((md 6), aI cI 3 lo), ((md 7), aI cI 3 pr), ((md 8), aI cI 30 u.2)]) := by
  intro sz
  refine Met.ofW (cc := c_M_lay) (maxL := 4) (ret := none) (by decide) rfl ?_
  intro p e s m args below meth c s₁ B hml hv
  obtain ⟨hargs, hsz, hP, hK, hD0, hN⟩ := hv
  have hx := B.exec
  have hb := B.bytes
  have hrt := B.returns
  have hts := atoms_spec (ws := k_M_lay :: ew_t) B.pre
  have htb : ∀ w ∈ ew_t, w.before args s = true := fun w h => hts w (List.mem_cons_of_mem _ h)
  have hown : s.vm.findClass "EarthHaulsModel" = some m.cls := findClass_of_methodNamed B.named
  have hlocks := B.notSynchronized
  have hE : entryFrame m args 4 = entryFrame m ([.ref (md 0), .int (eI y), .int (eI z), .int (eI w)] : List Value).toArray 4 := by rw [hargs]
  rw [hE]
  clear hE hts B hargs
  generalize hRe : (headSpec _ _).room = R
  have hR1 : R.frames = 1 := by rw [← hRe]; rfl
  have hR2 : R.locals = 22 := by rw [← hRe]; rfl
  clear hRe
  generalize hQ : MQ below _ _ s 0 0 _ = Q
  subst hsz
  have hD := hD0.self (sz := s.heap.size)
  generalize hAe : va_A [((md 0), .inr (5, [.int (eI co), .int (eI ((n : Nat) : Int)), .ref (md 1), .ref (md 2), .ref (md 3), .int (eI sh), .int (eI ra), .ref (md 4), .ref (md 5), .ref (md 6), .ref (md 7), .ref (md 8), .long (eL up), .long (eL lw), .ref (md 9), .ref (md 10), .ref (md 11), .ref (md 12), .ref (md 13), .ref (md 14), .ref (md 15), .int (eI kn), .int (eI fo)])), ((md 1), aI cI 25 sc), ((md 2), aI cI 4 ln), ((md 3), aI cZ 4 cb), ((md 4), aI cZ 3 th), ((md 5), aI cI 3 pl), ((md 6), aI cI 3 lo), ((md 7), aI cI 3 pr), ((md 8), aI cI 30 la)] s.heap.size = A at hD hQ
  have hA : ∀ q : Nat, s.heap.size ≤ q → A q := fun q h => by rw [← hAe]; exact Or.inr h
  have hS : va_S A s.heap s.heap [] := va_S.rf
  have hP : va_P D classes [((md 0), .inr (5, [.int (eI co), .int (eI ((n : Nat) : Int)), .ref (md 1), .ref (md 2), .ref (md 3), .int (eI sh), .int (eI ra), .ref (md 4), .ref (md 5), .ref (md 6), .ref (md 7), .ref (md 8), .long (eL up), .long (eL lw), .ref (md 9), .ref (md 10), .ref (md 11), .ref (md 12), .ref (md 13), .ref (md 14), .ref (md 15), .int (eI kn), .int (eI fo)])), ((md 1), aI cI 25 sc), ((md 2), aI cI 4 ln), ((md 3), aI cZ 4 cb), ((md 4), aI cZ 3 th), ((md 5), aI cI 3 pl), ((md 6), aI cI 3 lo), ((md 7), aI cI 3 pr), ((md 8), aI cI 30 la)] s.heap := hP
  have hl := lv_entry ([.ref (md 0), .int (eI y), .int (eI z), .int (eI w)]) (n := 4) (Nat.le_of_ble_eq_true rfl)
  rw [lg_entry_eq]
  generalize (lg_sl ([.ref (md 0), .int (eI y), .int (eI z), .int (eI w)]) ++ List.replicate (4 - (lg_sl ([.ref (md 0), .int (eI y), .int (eI z), .int (eI w)])).length) Slot.unset).toArray = ls at hl ⊢
  have hl : lv_has ls 4 [(0, .ref (md 0)), (1, .int (eI y)), (2, .int (eI z)), (3, .int (eI w))] := hl
  by_cases hbad : (y < 0 ∨ 5 < y ∨ z < 0 ∨ 4 < z)
  ·
    refine lv_aload_n hx hb d_M_lay_0 rfl (lv_at hl 0 rfl) ?_
    refine lv_iload_n hx hb d_M_lay_1 rfl (lv_at hl 1 rfl) ?_
    refine lv_iload_n hx hb d_M_lay_2 rfl (lv_at hl 2 rfl) ?_
    refine eh_cRS (As := [.int (eI y), .int (eI z)]) (rest := [.ref (md 0)]) (v := .int (eI (if (y < 0 ∨ 5 < y ∨ z < 0 ∨ 4 < z) then 1 else 0))) hx hb hml hown htb hN (r_M_noHaul l D y z hy hz) 2 ⟨tb_738, tb_739, tb_7, kin_M_noHaul⟩ dv_M_noHaul ⟨by rw [hR1]; decide, by rw [hR2]; decide⟩ hK hP [] rfl [] rfl rfl rfl hl.1 (Nat.le_of_ble_eq_true rfl) d_M_lay_3 ⟨Nat.zero_le _, Nat.zero_le _⟩ ?_
    refine we_if_eq (tgt := 13) hx hb (by rw [if_pos hbad]; constructor <;> omega) d_M_lay_6 rfl (fun hc6 => absurd hc6 (by rw [if_pos hbad]; omega)) (fun hc6 => ?_)
    refine lv_iconst (v := eI 1) hx hb d_M_lay_9 rfl ?_
    refine lv_goto (tgt := 28) hx hb d_M_lay_10 rfl ?_
    refine va_put (D := D) (ci := 5) (v := .int (eI 1)) (ty := .int) (C := R_M) (T := T_M) (N := 23) hx hb htb in_M t_M t_M_ok n_M hown hK hP hD hS 0 rfl rfl 0 (by decide) (htb _ tb_588) (fun _ h9 => h9) rfl (by decide +kernel) rfl rfl (Nat.le_of_ble_eq_true rfl) d_M_lay_28 (fun H locs hP hD hS => ?_)
    have hP : va_P D classes [((md 0), .inr (5, [.int (eI 1), .int (eI ((n : Nat) : Int)), .ref (md 1), .ref (md 2), .ref (md 3), .int (eI sh), .int (eI ra), .ref (md 4), .ref (md 5), .ref (md 6), .ref (md 7), .ref (md 8), .long (eL up), .long (eL lw), .ref (md 9), .ref (md 10), .ref (md 11), .ref (md 12), .ref (md 13), .ref (md 14), .ref (md 15), .int (eI kn), .int (eI fo)])), ((md 1), aI cI 25 sc), ((md 2), aI cI 4 ln), ((md 3), aI cZ 4 cb), ((md 4), aI cZ 3 th), ((md 5), aI cI 3 pl), ((md 6), aI cI 3 lo), ((md 7), aI cI 3 pr), ((md 8), aI cI 30 la)] H := hP
    have hD : va_D A [((md 0), .inr (5, [.int (eI 1), .int (eI ((n : Nat) : Int)), .ref (md 1), .ref (md 2), .ref (md 3), .int (eI sh), .int (eI ra), .ref (md 4), .ref (md 5), .ref (md 6), .ref (md 7), .ref (md 8), .long (eL up), .long (eL lw), .ref (md 9), .ref (md 10), .ref (md 11), .ref (md 12), .ref (md 13), .ref (md 14), .ref (md 15), .int (eI kn), .int (eI fo)])), ((md 1), aI cI 25 sc), ((md 2), aI cI 4 ln), ((md 3), aI cZ 4 cb), ((md 4), aI cZ 3 th), ((md 5), aI cI 3 pl), ((md 6), aI cI 3 lo), ((md 7), aI cI 3 pr), ((md 8), aI cI 30 la)] := hD
    refine lv_aload_n hx hb d_M_lay_31 rfl (lv_at hl 0 rfl) ?_
    refine va_get (D := D) (ci := 5) (v := .int (eI 1)) (C := R_M) (T := T_M) (N := 23) hx hb htb in_M hown hK hP 0 rfl rfl 0 (by decide) (htb _ tb_588) (fun _ h9 => h9) rfl d_M_lay_32 ?_
    refine we_if_ne (tgt := 49) hx hb (by constructor <;> omega) d_M_lay_35 rfl (fun hc35 => ?_) (fun hc35 => absurd hc35 (by omega))
    subst hQ
    exact W.vret hx hb hrt (fun t9 ht hW => ⟨⟨(1, la), rfl, Or.inl ⟨hbad, rfl⟩, by rw [ht]; exact hP, hD⟩, hS.F ht⟩) hS.2.2 d_M_lay_49
  ·
    by_cases hw9 : (0 ≤ w ∧ w ≤ 100000000)
    ·
      refine lv_aload_n hx hb d_M_lay_0 rfl (lv_at hl 0 rfl) ?_
      refine lv_iload_n hx hb d_M_lay_1 rfl (lv_at hl 1 rfl) ?_
      refine lv_iload_n hx hb d_M_lay_2 rfl (lv_at hl 2 rfl) ?_
      refine eh_cRS (As := [.int (eI y), .int (eI z)]) (rest := [.ref (md 0)]) (v := .int (eI (if (y < 0 ∨ 5 < y ∨ z < 0 ∨ 4 < z) then 1 else 0))) hx hb hml hown htb hN (r_M_noHaul l D y z hy hz) 2 ⟨tb_738, tb_739, tb_7, kin_M_noHaul⟩ dv_M_noHaul ⟨by rw [hR1]; decide, by rw [hR2]; decide⟩ hK hP [] rfl [] rfl rfl rfl hl.1 (Nat.le_of_ble_eq_true rfl) d_M_lay_3 ⟨Nat.zero_le _, Nat.zero_le _⟩ ?_
      refine we_if_eq (tgt := 13) hx hb (by rw [if_neg hbad]; constructor <;> omega) d_M_lay_6 rfl (fun hc6 => ?_) (fun hc6 => absurd hc6 (by rw [if_neg hbad]; omega))
      refine lv_iload_n hx hb d_M_lay_13 rfl (lv_at hl 3 rfl) ?_
      refine lv_iconst (v := eI 0) hx hb d_M_lay_14 rfl ?_
      refine we_ldc (a := 100000000) hx hb hown (htb _ tb_689) (by decide) d_M_lay_15 ?_
      refine eh_cRS (As := [.int (eI w), .int (eI 0), .int (eI 100000000)]) (rest := [.ref (md 0)]) (v := .int (eI (if (0 ≤ w ∧ w ≤ 100000000) then 1 else 0))) hx hb hml hown htb hN (r_M_within l D w 0 100000000 hw (by omega) (by omega)) 3 ⟨tb_670, tb_671, tb_7, kin_M_within⟩ dv_M_within ⟨by rw [hR1]; decide, by rw [hR2]; decide⟩ hK hP [] rfl [] rfl rfl rfl hl.1 (Nat.le_of_ble_eq_true rfl) d_M_lay_17 ⟨Nat.zero_le _, Nat.zero_le _⟩ ?_
      refine we_if_ne (tgt := 27) hx hb (by rw [if_pos hw9]; constructor <;> omega) d_M_lay_20 rfl (fun hc20 => ?_) (fun hc20 => absurd hc20 (by rw [if_pos hw9]; omega))
      refine lv_iconst (v := eI 0) hx hb d_M_lay_27 rfl ?_
      refine va_put (D := D) (ci := 5) (v := .int (eI 0)) (ty := .int) (C := R_M) (T := T_M) (N := 23) hx hb htb in_M t_M t_M_ok n_M hown hK hP hD hS 0 rfl rfl 0 (by decide) (htb _ tb_588) (fun _ h9 => h9) rfl (by decide +kernel) rfl rfl (Nat.le_of_ble_eq_true rfl) d_M_lay_28 (fun H locs hP hD hS => ?_)
      have hP : va_P D classes [((md 0), .inr (5, [.int (eI 0), .int (eI ((n : Nat) : Int)), .ref (md 1), .ref (md 2), .ref (md 3), .int (eI sh), .int (eI ra), .ref (md 4), .ref (md 5), .ref (md 6), .ref (md 7), .ref (md 8), .long (eL up), .long (eL lw), .ref (md 9), .ref (md 10), .ref (md 11), .ref (md 12), .ref (md 13), .ref (md 14), .ref (md 15), .int (eI kn), .int (eI fo)])), ((md 1), aI cI 25 sc), ((md 2), aI cI 4 ln), ((md 3), aI cZ 4 cb), ((md 4), aI cZ 3 th), ((md 5), aI cI 3 pl), ((md 6), aI cI 3 lo), ((md 7), aI cI 3 pr), ((md 8), aI cI 30 la)] H := hP
      have hD : va_D A [((md 0), .inr (5, [.int (eI 0), .int (eI ((n : Nat) : Int)), .ref (md 1), .ref (md 2), .ref (md 3), .int (eI sh), .int (eI ra), .ref (md 4), .ref (md 5), .ref (md 6), .ref (md 7), .ref (md 8), .long (eL up), .long (eL lw), .ref (md 9), .ref (md 10), .ref (md 11), .ref (md 12), .ref (md 13), .ref (md 14), .ref (md 15), .int (eI kn), .int (eI fo)])), ((md 1), aI cI 25 sc), ((md 2), aI cI 4 ln), ((md 3), aI cZ 4 cb), ((md 4), aI cZ 3 th), ((md 5), aI cI 3 pl), ((md 6), aI cI 3 lo), ((md 7), aI cI 3 pr), ((md 8), aI cI 30 la)] := hD
      refine lv_aload_n hx hb d_M_lay_31 rfl (lv_at hl 0 rfl) ?_
      refine va_get (D := D) (ci := 5) (v := .int (eI 0)) (C := R_M) (T := T_M) (N := 23) hx hb htb in_M hown hK hP 0 rfl rfl 0 (by decide) (htb _ tb_588) (fun _ h9 => h9) rfl d_M_lay_32 ?_
      refine we_if_ne (tgt := 49) hx hb (by constructor <;> omega) d_M_lay_35 rfl (fun hc35 => absurd hc35 (by omega)) (fun hc35 => ?_)
      refine lv_aload_n hx hb d_M_lay_38 rfl (lv_at hl 0 rfl) ?_
      refine va_get (D := D) (ci := 5) (v := .ref (md 8)) (C := R_M) (T := T_M) (N := 23) hx hb htb in_M hown hK hP 0 rfl rfl 11 (by decide) (htb _ tb_599) (fun _ h9 => h9) rfl d_M_lay_39 ?_
      refine lv_iconst (v := eI 5) hx hb d_M_lay_42 rfl ?_
      refine lv_iload_n hx hb d_M_lay_43 rfl (lv_at hl 1 rfl) ?_
      refine we_imul hx hb d_M_lay_44 ?_
      refine lv_iload_n hx hb d_M_lay_45 rfl (lv_at hl 2 rfl) ?_
      refine we_iadd hx hb d_M_lay_46 ?_
      refine lv_iload_n hx hb d_M_lay_47 rfl (lv_at hl 3 rfl) ?_
      refine we_iast hx hb hK hP hD hS 8 0 rfl rfl (5 * y.toNat + z.toNat) (by omega) (by omega) (by decide) d_M_lay_48 (fun H locs hP hD hS => ?_)
      have hP : va_P D classes [((md 0), .inr (5, [.int (eI 0), .int (eI ((n : Nat) : Int)), .ref (md 1), .ref (md 2), .ref (md 3), .int (eI sh), .int (eI ra), .ref (md 4), .ref (md 5), .ref (md 6), .ref (md 7), .ref (md 8), .long (eL up), .long (eL lw), .ref (md 9), .ref (md 10), .ref (md 11), .ref (md 12), .ref (md 13), .ref (md 14), .ref (md 15), .int (eI kn), .int (eI fo)])), ((md 1), aI cI 25 sc), ((md 2), aI cI 4 ln), ((md 3), aI cZ 4 cb), ((md 4), aI cZ 3 th), ((md 5), aI cI 3 pl), ((md 6), aI cI 3 lo), ((md 7), aI cI 3 pr), ((md 8), aI cI 30 (eh_upd la (5 * y.toNat + z.toNat) w))] H := hP
      have hD : va_D A [((md 0), .inr (5, [.int (eI 0), .int (eI ((n : Nat) : Int)), .ref (md 1), .ref (md 2), .ref (md 3), .int (eI sh), .int (eI ra), .ref (md 4), .ref (md 5), .ref (md 6), .ref (md 7), .ref (md 8), .long (eL up), .long (eL lw), .ref (md 9), .ref (md 10), .ref (md 11), .ref (md 12), .ref (md 13), .ref (md 14), .ref (md 15), .int (eI kn), .int (eI fo)])), ((md 1), aI cI 25 sc), ((md 2), aI cI 4 ln), ((md 3), aI cZ 4 cb), ((md 4), aI cZ 3 th), ((md 5), aI cI 3 pl), ((md 6), aI cI 3 lo), ((md 7), aI cI 3 pr), ((md 8), aI cI 30 (eh_upd la (5 * y.toNat + z.toNat) w))] := hD
      subst hQ
      exact W.vret hx hb hrt (fun t9 ht hW => ⟨⟨(0, (eh_upd la (5 * y.toNat + z.toNat) w)), rfl, Or.inr (Or.inr ⟨hbad, hw9, rfl⟩), by rw [ht]; exact hP, hD⟩, hS.F ht⟩) hS.2.2 d_M_lay_49
    ·
      refine lv_aload_n hx hb d_M_lay_0 rfl (lv_at hl 0 rfl) ?_
      refine lv_iload_n hx hb d_M_lay_1 rfl (lv_at hl 1 rfl) ?_
      refine lv_iload_n hx hb d_M_lay_2 rfl (lv_at hl 2 rfl) ?_
      refine eh_cRS (As := [.int (eI y), .int (eI z)]) (rest := [.ref (md 0)]) (v := .int (eI (if (y < 0 ∨ 5 < y ∨ z < 0 ∨ 4 < z) then 1 else 0))) hx hb hml hown htb hN (r_M_noHaul l D y z hy hz) 2 ⟨tb_738, tb_739, tb_7, kin_M_noHaul⟩ dv_M_noHaul ⟨by rw [hR1]; decide, by rw [hR2]; decide⟩ hK hP [] rfl [] rfl rfl rfl hl.1 (Nat.le_of_ble_eq_true rfl) d_M_lay_3 ⟨Nat.zero_le _, Nat.zero_le _⟩ ?_
      refine we_if_eq (tgt := 13) hx hb (by rw [if_neg hbad]; constructor <;> omega) d_M_lay_6 rfl (fun hc6 => ?_) (fun hc6 => absurd hc6 (by rw [if_neg hbad]; omega))
      refine lv_iload_n hx hb d_M_lay_13 rfl (lv_at hl 3 rfl) ?_
      refine lv_iconst (v := eI 0) hx hb d_M_lay_14 rfl ?_
      refine we_ldc (a := 100000000) hx hb hown (htb _ tb_689) (by decide) d_M_lay_15 ?_
      refine eh_cRS (As := [.int (eI w), .int (eI 0), .int (eI 100000000)]) (rest := [.ref (md 0)]) (v := .int (eI (if (0 ≤ w ∧ w ≤ 100000000) then 1 else 0))) hx hb hml hown htb hN (r_M_within l D w 0 100000000 hw (by omega) (by omega)) 3 ⟨tb_670, tb_671, tb_7, kin_M_within⟩ dv_M_within ⟨by rw [hR1]; decide, by rw [hR2]; decide⟩ hK hP [] rfl [] rfl rfl rfl hl.1 (Nat.le_of_ble_eq_true rfl) d_M_lay_17 ⟨Nat.zero_le _, Nat.zero_le _⟩ ?_
      refine we_if_ne (tgt := 27) hx hb (by rw [if_neg hw9]; constructor <;> omega) d_M_lay_20 rfl (fun hc20 => absurd hc20 (by rw [if_neg hw9]; omega)) (fun hc20 => ?_)
      refine lv_iconst (v := eI 2) hx hb d_M_lay_23 rfl ?_
      refine lv_goto (tgt := 28) hx hb d_M_lay_24 rfl ?_
      refine va_put (D := D) (ci := 5) (v := .int (eI 2)) (ty := .int) (C := R_M) (T := T_M) (N := 23) hx hb htb in_M t_M t_M_ok n_M hown hK hP hD hS 0 rfl rfl 0 (by decide) (htb _ tb_588) (fun _ h9 => h9) rfl (by decide +kernel) rfl rfl (Nat.le_of_ble_eq_true rfl) d_M_lay_28 (fun H locs hP hD hS => ?_)
      have hP : va_P D classes [((md 0), .inr (5, [.int (eI 2), .int (eI ((n : Nat) : Int)), .ref (md 1), .ref (md 2), .ref (md 3), .int (eI sh), .int (eI ra), .ref (md 4), .ref (md 5), .ref (md 6), .ref (md 7), .ref (md 8), .long (eL up), .long (eL lw), .ref (md 9), .ref (md 10), .ref (md 11), .ref (md 12), .ref (md 13), .ref (md 14), .ref (md 15), .int (eI kn), .int (eI fo)])), ((md 1), aI cI 25 sc), ((md 2), aI cI 4 ln), ((md 3), aI cZ 4 cb), ((md 4), aI cZ 3 th), ((md 5), aI cI 3 pl), ((md 6), aI cI 3 lo), ((md 7), aI cI 3 pr), ((md 8), aI cI 30 la)] H := hP
      have hD : va_D A [((md 0), .inr (5, [.int (eI 2), .int (eI ((n : Nat) : Int)), .ref (md 1), .ref (md 2), .ref (md 3), .int (eI sh), .int (eI ra), .ref (md 4), .ref (md 5), .ref (md 6), .ref (md 7), .ref (md 8), .long (eL up), .long (eL lw), .ref (md 9), .ref (md 10), .ref (md 11), .ref (md 12), .ref (md 13), .ref (md 14), .ref (md 15), .int (eI kn), .int (eI fo)])), ((md 1), aI cI 25 sc), ((md 2), aI cI 4 ln), ((md 3), aI cZ 4 cb), ((md 4), aI cZ 3 th), ((md 5), aI cI 3 pl), ((md 6), aI cI 3 lo), ((md 7), aI cI 3 pr), ((md 8), aI cI 30 la)] := hD
      refine lv_aload_n hx hb d_M_lay_31 rfl (lv_at hl 0 rfl) ?_
      refine va_get (D := D) (ci := 5) (v := .int (eI 2)) (C := R_M) (T := T_M) (N := 23) hx hb htb in_M hown hK hP 0 rfl rfl 0 (by decide) (htb _ tb_588) (fun _ h9 => h9) rfl d_M_lay_32 ?_
      refine we_if_ne (tgt := 49) hx hb (by constructor <;> omega) d_M_lay_35 rfl (fun hc35 => ?_) (fun hc35 => absurd hc35 (by omega))
      subst hQ
      exact W.vret hx hb hrt (fun t9 ht hW => ⟨⟨(2, la), rfl, Or.inr (Or.inl ⟨hbad, hw9, rfl⟩), by rw [ht]; exact hP, hD⟩, hS.F ht⟩) hS.2.2 d_M_lay_49
