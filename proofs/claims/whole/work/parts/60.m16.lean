abbrev c_M_thrown : ByteArray := prog_7_method_2_code
def y_M_thrown : MethodName := ⟨"EarthHaulsModel", "thrown", "()I"⟩
abbrev k_M_thrown : Cond := .code y_M_thrown c_M_thrown 1 (some .int)
theorem kin_M_thrown : k_M_thrown ∈ ew_t := tb_661
theorem dv_M_thrown : eh_dV y_M_thrown "EarthHaulsModel" 0 := ⟨rfl, by decide, by decide, by decide +kernel⟩
theorem d_M_thrown_0 : decode c_M_thrown 0 = .ok (.aload_n 0, 1) := by decide +kernel
theorem d_M_thrown_1 : decode c_M_thrown 1 = .ok (.getfield 64, 3) := by decide +kernel
theorem d_M_thrown_4 : decode c_M_thrown 4 = .ok (.ireturn, 1) := by decide +kernel
set_option maxHeartbeats 1000000 in
set_option maxRecDepth 100000 in
theorem r_M_thrown (l : Launch) (D : va_G) (cI cL cZ : ClassId) (md : Nat → Nat) (co : Int) (n : Nat) (sh ra up lw kn fo : Int) : eh_R l y_M_thrown k_M_thrown 0 0 D classes [(cI, .int), (cL, .long), (cZ, .boolean)] [.ref (md 0)] [((md 0), .inr (5, [.int (eI co), .int (eI ((n : Nat) : Int)), .ref (md 1), .ref (md 2), .ref (md 3), .int (eI sh), .int (eI ra), .ref (md 4), .ref (md 5), .ref (md 6), .ref (md 7), .ref (md 8), .long (eL up), .long (eL lw), .ref (md 9), .ref (md 10), .ref (md 11), .ref (md 12), .ref (md 13), .ref (md 14), .ref (md 15), .int (eI kn), .int (eI fo)]))] (.int (eI co)) := by
  refine Met.ofW (cc := c_M_thrown) (maxL := 1) (ret := (some .int)) (by decide) rfl ?_
  intro p e s m args below meth c s₁ B hml hv
  obtain ⟨hargs, hP, hK, hN⟩ := hv
  have hx := B.exec
  have hb := B.bytes
  have hrt := B.returns
  have hts := atoms_spec (ws := k_M_thrown :: ew_t) B.pre
  have htb : ∀ w ∈ ew_t, w.before args s = true := fun w h => hts w (List.mem_cons_of_mem _ h)
  have hown : s.vm.findClass "EarthHaulsModel" = some m.cls := findClass_of_methodNamed B.named
  have hlocks := B.notSynchronized
  have hE : entryFrame m args 1 = entryFrame m ([.ref (md 0)] : List Value).toArray 1 := by rw [hargs]
  rw [hE]
  clear hE hts B hargs
  generalize hRe : (headSpec _ _).room = R
  have hR1 : R.frames = 0 := by rw [← hRe]; rfl
  have hR2 : R.locals = 0 := by rw [← hRe]; rfl
  clear hRe
  generalize hQ : MQ below _ _ s 0 0 _ = Q
  have hP : va_P D classes [((md 0), .inr (5, [.int (eI co), .int (eI ((n : Nat) : Int)), .ref (md 1), .ref (md 2), .ref (md 3), .int (eI sh), .int (eI ra), .ref (md 4), .ref (md 5), .ref (md 6), .ref (md 7), .ref (md 8), .long (eL up), .long (eL lw), .ref (md 9), .ref (md 10), .ref (md 11), .ref (md 12), .ref (md 13), .ref (md 14), .ref (md 15), .int (eI kn), .int (eI fo)]))] s.heap := hP
  have hl := lv_entry ([.ref (md 0)]) (n := 1) (Nat.le_of_ble_eq_true rfl)
  rw [lg_entry_eq]
  generalize (lg_sl ([.ref (md 0)]) ++ List.replicate (1 - (lg_sl ([.ref (md 0)])).length) Slot.unset).toArray = ls at hl ⊢
  have hl : lv_has ls 1 [(0, .ref (md 0))] := hl
  refine lv_aload_n hx hb d_M_thrown_0 rfl (lv_at hl 0 rfl) ?_
  refine va_get (D := D) (ci := 5) (v := .int (eI co)) (C := R_M) (T := T_M) (N := 23) hx hb htb in_M hown hK hP 0 rfl rfl 0 (by decide) (htb _ tb_588) (fun _ h9 => h9) rfl d_M_thrown_1 ?_
  subst hQ
  exact W.iret hx hb hrt (fun t9 ht hW => ⟨rfl, ht⟩) (fun q h => by cases h) d_M_thrown_4
abbrev c_M_curve : ByteArray := prog_7_method_19_code
def y_M_curve : MethodName := ⟨"EarthHaulsModel", "curve", "(I)I"⟩
abbrev k_M_curve : Cond := .code y_M_curve c_M_curve 2 (some .int)
theorem kin_M_curve : k_M_curve ∈ ew_t := tb_725
theorem dv_M_curve : eh_dV y_M_curve "EarthHaulsModel" 1 := ⟨rfl, by decide, by decide, by decide +kernel⟩
theorem d_M_curve_0 : decode c_M_curve 0 = .ok (.aload_n 0, 1) := by decide +kernel
theorem d_M_curve_1 : decode c_M_curve 1 = .ok (.iload_n 1, 1) := by decide +kernel
theorem d_M_curve_2 : decode c_M_curve 2 = .ok (.ifCond .lt 11, 3) := by decide +kernel
theorem d_M_curve_5 : decode c_M_curve 5 = .ok (.iload_n 1, 1) := by decide +kernel
theorem d_M_curve_6 : decode c_M_curve 6 = .ok (.aload_n 0, 1) := by decide +kernel
theorem d_M_curve_7 : decode c_M_curve 7 = .ok (.getfield 86, 3) := by decide +kernel
theorem d_M_curve_10 : decode c_M_curve 10 = .ok (.if_icmp .lt 7, 3) := by decide +kernel
theorem d_M_curve_13 : decode c_M_curve 13 = .ok (.iconst 1, 1) := by decide +kernel
theorem d_M_curve_14 : decode c_M_curve 14 = .ok (.goto 4, 3) := by decide +kernel
theorem d_M_curve_17 : decode c_M_curve 17 = .ok (.iconst 0, 1) := by decide +kernel
theorem d_M_curve_18 : decode c_M_curve 18 = .ok (.putfield 64, 3) := by decide +kernel
theorem d_M_curve_21 : decode c_M_curve 21 = .ok (.aload_n 0, 1) := by decide +kernel
theorem d_M_curve_22 : decode c_M_curve 22 = .ok (.getfield 64, 3) := by decide +kernel
theorem d_M_curve_25 : decode c_M_curve 25 = .ok (.ifCond .le 7, 3) := by decide +kernel
theorem d_M_curve_28 : decode c_M_curve 28 = .ok (.iconst 0, 1) := by decide +kernel
theorem d_M_curve_29 : decode c_M_curve 29 = .ok (.goto 8, 3) := by decide +kernel
theorem d_M_curve_32 : decode c_M_curve 32 = .ok (.aload_n 0, 1) := by decide +kernel
theorem d_M_curve_33 : decode c_M_curve 33 = .ok (.iload_n 1, 1) := by decide +kernel
theorem d_M_curve_34 : decode c_M_curve 34 = .ok (.invokevirtual 120, 3) := by decide +kernel
theorem d_M_curve_37 : decode c_M_curve 37 = .ok (.ireturn, 1) := by decide +kernel
set_option maxHeartbeats 1000000 in
set_option maxRecDepth 100000 in
theorem m_M_curve (l : Launch) (D : va_G) (cI cL cZ : ClassId) (md : Nat → Nat) (co : Int) (n : Nat) (sh ra up lw kn fo : Int) (sc ln cb th pl lo pr la : Nat → Int) (cu cl fu fl : Nat → Nat) (ys yl yp : Nat → Int) (y : Int) (hy : -2147483648 ≤ y ∧ y < 2147483648) (hM : eh_MS n sh ra sc ln cb th pl lo pr la cu cl fu fl ys yl yp) : eh_M (S := Int × Int × Int) l y_M_curve k_M_curve 5 137 D classes [(cI, .int), (cL, .long), (cZ, .boolean)] [.ref (md 0), .int (eI y)] [((md 0), .inr (5, [.int (eI co), .int (eI ((n : Nat) : Int)), .ref (md 1), .ref (md 2), .ref (md 3), .int (eI sh), .int (eI ra), .ref (md 4), .ref (md 5), .ref (md 6), .ref (md 7), .ref (md 8), .long (eL up), .long (eL lw), .ref (md 9), .ref (md 10), .ref (md 11), .ref (md 12), .ref (md 13), .ref (md 14), .ref (md 15), .int (eI kn), .int (eI fo)])), ((md 1), aI cI 25 sc), ((md 2), aI cI 4 ln), ((md 3), aI cZ 4 cb), ((md 4), aI cZ 3 th), ((md 5), aI cI 3 pl), ((md 6), aI cI 3 lo), ((md 7), aI cI 3 pr), ((md 8), aI cI 30 la)] (fun u => ((y < 0 ∨ (n : Int) ≤ y) ∧ u.1 = 1) ∨ (¬ (y < 0 ∨ (n : Int) ≤ y) ∧ u.1 = 0)) (fun _ => some (.int (eI (if (y < 0 ∨ (n : Int) ≤ y) then 0 else eh_cv cu cl fu fl ln sh y.toNat)))) (fun u => [((md 0), .inr (5, [.int (eI u.1), .int (eI ((n : Nat) : Int)), .ref (md 1), .ref (md 2), .ref (md 3), .int (eI sh), .int (eI ra), .ref (md 4), .ref (md 5), .ref (md 6), .ref (md 7), .ref (md 8), .long (eL u.2.1), .long (eL u.2.2), .ref (md 9), .ref (md 10), .ref (md 11), .ref (md 12), .ref (md 13), .ref (md 14), .ref (md 15), .int (eI kn), .int (eI fo)])), ((md 1), aI cI 25 sc), ((md 2), aI cI 4 ln), ((md 3), aI cZ 4 cb), ((md 4), aI cZ 3 th), ((md 5), aI cI 3 pl), ((md 6), aI cI 3 lo), ((md 7), aI cI 3 pr), ((md 8), aI cI 30 la)]) := by
  intro sz
  refine Met.ofW (cc := c_M_curve) (maxL := 2) (ret := (some .int)) (by decide) rfl ?_
  intro p e s m args below meth c s₁ B hml hv
  obtain ⟨hargs, hsz, hP, hK, hD0, hN⟩ := hv
  have hx := B.exec
  have hb := B.bytes
  have hrt := B.returns
  have hts := atoms_spec (ws := k_M_curve :: ew_t) B.pre
  have htb : ∀ w ∈ ew_t, w.before args s = true := fun w h => hts w (List.mem_cons_of_mem _ h)
  have hown : s.vm.findClass "EarthHaulsModel" = some m.cls := findClass_of_methodNamed B.named
  have hlocks := B.notSynchronized
  have hE : entryFrame m args 2 = entryFrame m ([.ref (md 0), .int (eI y)] : List Value).toArray 2 := by rw [hargs]
  rw [hE]
  clear hE hts B hargs
  generalize hRe : (headSpec _ _).room = R
  have hR1 : R.frames = 5 := by rw [← hRe]; rfl
  have hR2 : R.locals = 137 := by rw [← hRe]; rfl
  clear hRe
  generalize hQ : MQ below _ _ s 0 0 _ = Q
  subst hsz
  have hD := hD0.self (sz := s.heap.size)
  generalize hAe : va_A [((md 0), .inr (5, [.int (eI co), .int (eI ((n : Nat) : Int)), .ref (md 1), .ref (md 2), .ref (md 3), .int (eI sh), .int (eI ra), .ref (md 4), .ref (md 5), .ref (md 6), .ref (md 7), .ref (md 8), .long (eL up), .long (eL lw), .ref (md 9), .ref (md 10), .ref (md 11), .ref (md 12), .ref (md 13), .ref (md 14), .ref (md 15), .int (eI kn), .int (eI fo)])), ((md 1), aI cI 25 sc), ((md 2), aI cI 4 ln), ((md 3), aI cZ 4 cb), ((md 4), aI cZ 3 th), ((md 5), aI cI 3 pl), ((md 6), aI cI 3 lo), ((md 7), aI cI 3 pr), ((md 8), aI cI 30 la)] s.heap.size = A at hD hQ
  have hA : ∀ q : Nat, s.heap.size ≤ q → A q := fun q h => by rw [← hAe]; exact Or.inr h
  have hS : va_S A s.heap s.heap [] := va_S.rf
  have hP : va_P D classes [((md 0), .inr (5, [.int (eI co), .int (eI ((n : Nat) : Int)), .ref (md 1), .ref (md 2), .ref (md 3), .int (eI sh), .int (eI ra), .ref (md 4), .ref (md 5), .ref (md 6), .ref (md 7), .ref (md 8), .long (eL up), .long (eL lw), .ref (md 9), .ref (md 10), .ref (md 11), .ref (md 12), .ref (md 13), .ref (md 14), .ref (md 15), .int (eI kn), .int (eI fo)])), ((md 1), aI cI 25 sc), ((md 2), aI cI 4 ln), ((md 3), aI cZ 4 cb), ((md 4), aI cZ 3 th), ((md 5), aI cI 3 pl), ((md 6), aI cI 3 lo), ((md 7), aI cI 3 pr), ((md 8), aI cI 30 la)] s.heap := hP
  have hl := lv_entry ([.ref (md 0), .int (eI y)]) (n := 2) (Nat.le_of_ble_eq_true rfl)
  rw [lg_entry_eq]
  generalize (lg_sl ([.ref (md 0), .int (eI y)]) ++ List.replicate (2 - (lg_sl ([.ref (md 0), .int (eI y)])).length) Slot.unset).toArray = ls at hl ⊢
  have hl : lv_has ls 2 [(0, .ref (md 0)), (1, .int (eI y))] := hl
  have hn5 := hM.1.1
  rcases (show y < 0 ∨ (0 ≤ y ∧ (n : Int) ≤ y) ∨ (0 ≤ y ∧ y < (n : Int)) by omega) with hcas | hcas | hcas
  ·
    refine lv_aload_n hx hb d_M_curve_0 rfl (lv_at hl 0 rfl) ?_
    refine lv_iload_n hx hb d_M_curve_1 rfl (lv_at hl 1 rfl) ?_
    refine we_if_lt (tgt := 13) hx hb (by constructor <;> omega) d_M_curve_2 rfl (fun hc2 => ?_) (fun hc2 => absurd hc2 (by omega))
    refine lv_iconst (v := eI 1) hx hb d_M_curve_13 rfl ?_
    refine lv_goto (tgt := 18) hx hb d_M_curve_14 rfl ?_
    refine va_put (D := D) (ci := 5) (v := .int (eI 1)) (ty := .int) (C := R_M) (T := T_M) (N := 23) hx hb htb in_M t_M t_M_ok n_M hown hK hP hD hS 0 rfl rfl 0 (by decide) (htb _ tb_588) (fun _ h9 => h9) rfl (by decide +kernel) rfl rfl (Nat.le_of_ble_eq_true rfl) d_M_curve_18 (fun H locs hP hD hS => ?_)
    have hP : va_P D classes [((md 0), .inr (5, [.int (eI 1), .int (eI ((n : Nat) : Int)), .ref (md 1), .ref (md 2), .ref (md 3), .int (eI sh), .int (eI ra), .ref (md 4), .ref (md 5), .ref (md 6), .ref (md 7), .ref (md 8), .long (eL up), .long (eL lw), .ref (md 9), .ref (md 10), .ref (md 11), .ref (md 12), .ref (md 13), .ref (md 14), .ref (md 15), .int (eI kn), .int (eI fo)])), ((md 1), aI cI 25 sc), ((md 2), aI cI 4 ln), ((md 3), aI cZ 4 cb), ((md 4), aI cZ 3 th), ((md 5), aI cI 3 pl), ((md 6), aI cI 3 lo), ((md 7), aI cI 3 pr), ((md 8), aI cI 30 la)] H := hP
    have hD : va_D A [((md 0), .inr (5, [.int (eI 1), .int (eI ((n : Nat) : Int)), .ref (md 1), .ref (md 2), .ref (md 3), .int (eI sh), .int (eI ra), .ref (md 4), .ref (md 5), .ref (md 6), .ref (md 7), .ref (md 8), .long (eL up), .long (eL lw), .ref (md 9), .ref (md 10), .ref (md 11), .ref (md 12), .ref (md 13), .ref (md 14), .ref (md 15), .int (eI kn), .int (eI fo)])), ((md 1), aI cI 25 sc), ((md 2), aI cI 4 ln), ((md 3), aI cZ 4 cb), ((md 4), aI cZ 3 th), ((md 5), aI cI 3 pl), ((md 6), aI cI 3 lo), ((md 7), aI cI 3 pr), ((md 8), aI cI 30 la)] := hD
    refine lv_aload_n hx hb d_M_curve_21 rfl (lv_at hl 0 rfl) ?_
    refine va_get (D := D) (ci := 5) (v := .int (eI 1)) (C := R_M) (T := T_M) (N := 23) hx hb htb in_M hown hK hP 0 rfl rfl 0 (by decide) (htb _ tb_588) (fun _ h9 => h9) rfl d_M_curve_22 ?_
    refine we_if_le (tgt := 32) hx hb (by constructor <;> omega) d_M_curve_25 rfl (fun hc25 => absurd hc25 (by omega)) (fun hc25 => ?_)
    refine lv_iconst (v := eI 0) hx hb d_M_curve_28 rfl ?_
    refine lv_goto (tgt := 37) hx hb d_M_curve_29 rfl ?_
    have hres : (0 : Int) = (if (y < 0 ∨ (n : Int) ≤ y) then 0 else eh_cv cu cl fu fl ln sh y.toNat) := by rw [if_pos (by omega)]
    rw [hres]
    subst hQ
    exact W.iret hx hb hrt (fun t9 ht hW => ⟨⟨(1, up, lw), rfl, Or.inl ⟨by omega, rfl⟩, by rw [ht]; exact hP, hD⟩, hS.F ht⟩) hS.2.2 d_M_curve_37
  ·
    refine lv_aload_n hx hb d_M_curve_0 rfl (lv_at hl 0 rfl) ?_
    refine lv_iload_n hx hb d_M_curve_1 rfl (lv_at hl 1 rfl) ?_
    refine we_if_lt (tgt := 13) hx hb (by constructor <;> omega) d_M_curve_2 rfl (fun hc2 => absurd hc2 (by omega)) (fun hc2 => ?_)
    refine lv_iload_n hx hb d_M_curve_5 rfl (lv_at hl 1 rfl) ?_
    refine lv_aload_n hx hb d_M_curve_6 rfl (lv_at hl 0 rfl) ?_
    refine va_get (D := D) (ci := 5) (v := .int (eI ((n : Nat) : Int))) (C := R_M) (T := T_M) (N := 23) hx hb htb in_M hown hK hP 0 rfl rfl 1 (by decide) (htb _ tb_589) (fun _ h9 => h9) rfl d_M_curve_7 ?_
    refine we_icmp_lt (tgt := 17) hx hb (by constructor <;> omega) (by constructor <;> omega) d_M_curve_10 rfl (fun hc10 => absurd hc10 (by omega)) (fun hc10 => ?_)
    refine lv_iconst (v := eI 1) hx hb d_M_curve_13 rfl ?_
    refine lv_goto (tgt := 18) hx hb d_M_curve_14 rfl ?_
    refine va_put (D := D) (ci := 5) (v := .int (eI 1)) (ty := .int) (C := R_M) (T := T_M) (N := 23) hx hb htb in_M t_M t_M_ok n_M hown hK hP hD hS 0 rfl rfl 0 (by decide) (htb _ tb_588) (fun _ h9 => h9) rfl (by decide +kernel) rfl rfl (Nat.le_of_ble_eq_true rfl) d_M_curve_18 (fun H locs hP hD hS => ?_)
    have hP : va_P D classes [((md 0), .inr (5, [.int (eI 1), .int (eI ((n : Nat) : Int)), .ref (md 1), .ref (md 2), .ref (md 3), .int (eI sh), .int (eI ra), .ref (md 4), .ref (md 5), .ref (md 6), .ref (md 7), .ref (md 8), .long (eL up), .long (eL lw), .ref (md 9), .ref (md 10), .ref (md 11), .ref (md 12), .ref (md 13), .ref (md 14), .ref (md 15), .int (eI kn), .int (eI fo)])), ((md 1), aI cI 25 sc), ((md 2), aI cI 4 ln), ((md 3), aI cZ 4 cb), ((md 4), aI cZ 3 th), ((md 5), aI cI 3 pl), ((md 6), aI cI 3 lo), ((md 7), aI cI 3 pr), ((md 8), aI cI 30 la)] H := hP
    have hD : va_D A [((md 0), .inr (5, [.int (eI 1), .int (eI ((n : Nat) : Int)), .ref (md 1), .ref (md 2), .ref (md 3), .int (eI sh), .int (eI ra), .ref (md 4), .ref (md 5), .ref (md 6), .ref (md 7), .ref (md 8), .long (eL up), .long (eL lw), .ref (md 9), .ref (md 10), .ref (md 11), .ref (md 12), .ref (md 13), .ref (md 14), .ref (md 15), .int (eI kn), .int (eI fo)])), ((md 1), aI cI 25 sc), ((md 2), aI cI 4 ln), ((md 3), aI cZ 4 cb), ((md 4), aI cZ 3 th), ((md 5), aI cI 3 pl), ((md 6), aI cI 3 lo), ((md 7), aI cI 3 pr), ((md 8), aI cI 30 la)] := hD
    refine lv_aload_n hx hb d_M_curve_21 rfl (lv_at hl 0 rfl) ?_
    refine va_get (D := D) (ci := 5) (v := .int (eI 1)) (C := R_M) (T := T_M) (N := 23) hx hb htb in_M hown hK hP 0 rfl rfl 0 (by decide) (htb _ tb_588) (fun _ h9 => h9) rfl d_M_curve_22 ?_
    refine we_if_le (tgt := 32) hx hb (by constructor <;> omega) d_M_curve_25 rfl (fun hc25 => absurd hc25 (by omega)) (fun hc25 => ?_)
    refine lv_iconst (v := eI 0) hx hb d_M_curve_28 rfl ?_
    refine lv_goto (tgt := 37) hx hb d_M_curve_29 rfl ?_
    have hres : (0 : Int) = (if (y < 0 ∨ (n : Int) ≤ y) then 0 else eh_cv cu cl fu fl ln sh y.toNat) := by rw [if_pos (by omega)]
    rw [hres]
    subst hQ
    exact W.iret hx hb hrt (fun t9 ht hW => ⟨⟨(1, up, lw), rfl, Or.inl ⟨by omega, rfl⟩, by rw [ht]; exact hP, hD⟩, hS.F ht⟩) hS.2.2 d_M_curve_37
  ·
    refine lv_aload_n hx hb d_M_curve_0 rfl (lv_at hl 0 rfl) ?_
    refine lv_iload_n hx hb d_M_curve_1 rfl (lv_at hl 1 rfl) ?_
    refine we_if_lt (tgt := 13) hx hb (by constructor <;> omega) d_M_curve_2 rfl (fun hc2 => absurd hc2 (by omega)) (fun hc2 => ?_)
    refine lv_iload_n hx hb d_M_curve_5 rfl (lv_at hl 1 rfl) ?_
    refine lv_aload_n hx hb d_M_curve_6 rfl (lv_at hl 0 rfl) ?_
    refine va_get (D := D) (ci := 5) (v := .int (eI ((n : Nat) : Int))) (C := R_M) (T := T_M) (N := 23) hx hb htb in_M hown hK hP 0 rfl rfl 1 (by decide) (htb _ tb_589) (fun _ h9 => h9) rfl d_M_curve_7 ?_
    refine we_icmp_lt (tgt := 17) hx hb (by constructor <;> omega) (by constructor <;> omega) d_M_curve_10 rfl (fun hc10 => ?_) (fun hc10 => absurd hc10 (by omega))
    refine lv_iconst (v := eI 0) hx hb d_M_curve_17 rfl ?_
    refine va_put (D := D) (ci := 5) (v := .int (eI 0)) (ty := .int) (C := R_M) (T := T_M) (N := 23) hx hb htb in_M t_M t_M_ok n_M hown hK hP hD hS 0 rfl rfl 0 (by decide) (htb _ tb_588) (fun _ h9 => h9) rfl (by decide +kernel) rfl rfl (Nat.le_of_ble_eq_true rfl) d_M_curve_18 (fun H locs hP hD hS => ?_)
    have hP : va_P D classes [((md 0), .inr (5, [.int (eI 0), .int (eI ((n : Nat) : Int)), .ref (md 1), .ref (md 2), .ref (md 3), .int (eI sh), .int (eI ra), .ref (md 4), .ref (md 5), .ref (md 6), .ref (md 7), .ref (md 8), .long (eL up), .long (eL lw), .ref (md 9), .ref (md 10), .ref (md 11), .ref (md 12), .ref (md 13), .ref (md 14), .ref (md 15), .int (eI kn), .int (eI fo)])), ((md 1), aI cI 25 sc), ((md 2), aI cI 4 ln), ((md 3), aI cZ 4 cb), ((md 4), aI cZ 3 th), ((md 5), aI cI 3 pl), ((md 6), aI cI 3 lo), ((md 7), aI cI 3 pr), ((md 8), aI cI 30 la)] H := hP
    have hD : va_D A [((md 0), .inr (5, [.int (eI 0), .int (eI ((n : Nat) : Int)), .ref (md 1), .ref (md 2), .ref (md 3), .int (eI sh), .int (eI ra), .ref (md 4), .ref (md 5), .ref (md 6), .ref (md 7), .ref (md 8), .long (eL up), .long (eL lw), .ref (md 9), .ref (md 10), .ref (md 11), .ref (md 12), .ref (md 13), .ref (md 14), .ref (md 15), .int (eI kn), .int (eI fo)])), ((md 1), aI cI 25 sc), ((md 2), aI cI 4 ln), ((md 3), aI cZ 4 cb), ((md 4), aI cZ 3 th), ((md 5), aI cI 3 pl), ((md 6), aI cI 3 lo), ((md 7), aI cI 3 pr), ((md 8), aI cI 30 la)] := hD
    refine lv_aload_n hx hb d_M_curve_21 rfl (lv_at hl 0 rfl) ?_
    refine va_get (D := D) (ci := 5) (v := .int (eI 0)) (C := R_M) (T := T_M) (N := 23) hx hb htb in_M hown hK hP 0 rfl rfl 0 (by decide) (htb _ tb_588) (fun _ h9 => h9) rfl d_M_curve_22 ?_
    refine we_if_le (tgt := 32) hx hb (by constructor <;> omega) d_M_curve_25 rfl (fun hc25 => ?_) (fun hc25 => absurd hc25 (by omega))
    refine lv_aload_n hx hb d_M_curve_32 rfl (lv_at hl 0 rfl) ?_
    refine lv_iload_n hx hb d_M_curve_33 rfl (lv_at hl 1 rfl) ?_
    refine eh_cMV (As := [.int (eI y)]) (rest := []) (q := (R_M, T_M, 23)) (wr := []) hx hb hml hown htb hN (by have z9 := m_M_curveOf l D cI cL cZ md 0 n sh ra up lw kn fo sc ln cb th pl lo pr la cu cl fu fl ys yl yp y.toNat (by omega) hM; rw [show ((y.toNat : Nat) : Int) = y by omega] at z9; exact z9) 1 ⟨tb_726, tb_728, ts_33, tb_7, kin_M_curveOf⟩ dv_M_curveOf ⟨by rw [hR1]; decide, by rw [hR2]; decide⟩ hK hP hD hS hA 0 rfl rfl [0, 1, 2, 3, 4, 5, 6, 7, 8] [] rfl rfl (by decide) rfl (by decide) (by decide) [0, 1, 2] rfl rfl rfl hl.1 (Nat.le_of_ble_eq_true rfl) d_M_curve_34 ⟨Nat.zero_le _, Nat.zero_le _⟩ (fun u H locs hu hP hD hS => ?_)
    obtain ⟨up1, lw1⟩ := u
    have hP := hP.sub (ws' := [((md 0), .inr (5, [.int (eI 0), .int (eI ((n : Nat) : Int)), .ref (md 1), .ref (md 2), .ref (md 3), .int (eI sh), .int (eI ra), .ref (md 4), .ref (md 5), .ref (md 6), .ref (md 7), .ref (md 8), .long (eL up1), .long (eL lw1), .ref (md 9), .ref (md 10), .ref (md 11), .ref (md 12), .ref (md 13), .ref (md 14), .ref (md 15), .int (eI kn), .int (eI fo)])), ((md 1), aI cI 25 sc), ((md 2), aI cI 4 ln), ((md 3), aI cZ 4 cb), ((md 4), aI cZ 3 th), ((md 5), aI cI 3 pl), ((md 6), aI cI 3 lo), ((md 7), aI cI 3 pr), ((md 8), aI cI 30 la)]) [0, 1, 2, 3, 4, 5, 6, 7, 8] rfl
    have hD := hD.sub (ws' := [((md 0), .inr (5, [.int (eI 0), .int (eI ((n : Nat) : Int)), .ref (md 1), .ref (md 2), .ref (md 3), .int (eI sh), .int (eI ra), .ref (md 4), .ref (md 5), .ref (md 6), .ref (md 7), .ref (md 8), .long (eL up1), .long (eL lw1), .ref (md 9), .ref (md 10), .ref (md 11), .ref (md 12), .ref (md 13), .ref (md 14), .ref (md 15), .int (eI kn), .int (eI fo)])), ((md 1), aI cI 25 sc), ((md 2), aI cI 4 ln), ((md 3), aI cZ 4 cb), ((md 4), aI cZ 3 th), ((md 5), aI cI 3 pl), ((md 6), aI cI 3 lo), ((md 7), aI cI 3 pr), ((md 8), aI cI 30 la)]) [0, 1, 2, 3, 4, 5, 6, 7, 8] (by decide) rfl
    have hres : ((eh_cv cu cl fu fl ln sh y.toNat) : Int) = (if (y < 0 ∨ (n : Int) ≤ y) then 0 else eh_cv cu cl fu fl ln sh y.toNat) := by rw [if_neg (by omega)]
    rw [hres]
    subst hQ
    exact W.iret hx hb hrt (fun t9 ht hW => ⟨⟨(0, up1, lw1), rfl, Or.inr ⟨by omega, rfl⟩, by rw [ht]; exact hP, hD⟩, hS.F ht⟩) hS.2.2 d_M_curve_37
abbrev c_M_litres : ByteArray := prog_7_method_17_code
def y_M_litres : MethodName := ⟨"EarthHaulsModel", "litres", "(II)I"⟩
abbrev k_M_litres : Cond := .code y_M_litres c_M_litres 3 (some .int)
theorem kin_M_litres : k_M_litres ∈ ew_t := tb_710
theorem dv_M_litres : eh_dV y_M_litres "EarthHaulsModel" 2 := ⟨rfl, by decide, by decide, by decide +kernel⟩
theorem d_M_litres_0 : decode c_M_litres 0 = .ok (.aload_n 0, 1) := by decide +kernel
theorem d_M_litres_1 : decode c_M_litres 1 = .ok (.aload_n 0, 1) := by decide +kernel
theorem d_M_litres_2 : decode c_M_litres 2 = .ok (.iload_n 1, 1) := by decide +kernel
theorem d_M_litres_3 : decode c_M_litres 3 = .ok (.invokevirtual 111, 3) := by decide +kernel
theorem d_M_litres_6 : decode c_M_litres 6 = .ok (.ifCond .eq 7, 3) := by decide +kernel
theorem d_M_litres_9 : decode c_M_litres 9 = .ok (.iconst 1, 1) := by decide +kernel
theorem d_M_litres_10 : decode c_M_litres 10 = .ok (.goto 17, 3) := by decide +kernel
theorem d_M_litres_13 : decode c_M_litres 13 = .ok (.iload_n 2, 1) := by decide +kernel
theorem d_M_litres_14 : decode c_M_litres 14 = .ok (.ifCond .lt 8, 3) := by decide +kernel
theorem d_M_litres_17 : decode c_M_litres 17 = .ok (.iload_n 2, 1) := by decide +kernel
theorem d_M_litres_18 : decode c_M_litres 18 = .ok (.iconst 2, 1) := by decide +kernel
theorem d_M_litres_19 : decode c_M_litres 19 = .ok (.if_icmp .le 7, 3) := by decide +kernel
theorem d_M_litres_22 : decode c_M_litres 22 = .ok (.iconst 2, 1) := by decide +kernel
theorem d_M_litres_23 : decode c_M_litres 23 = .ok (.goto 4, 3) := by decide +kernel
theorem d_M_litres_26 : decode c_M_litres 26 = .ok (.iconst 0, 1) := by decide +kernel
theorem d_M_litres_27 : decode c_M_litres 27 = .ok (.putfield 64, 3) := by decide +kernel
theorem d_M_litres_30 : decode c_M_litres 30 = .ok (.aload_n 0, 1) := by decide +kernel
theorem d_M_litres_31 : decode c_M_litres 31 = .ok (.getfield 64, 3) := by decide +kernel
theorem d_M_litres_34 : decode c_M_litres 34 = .ok (.ifCond .le 5, 3) := by decide +kernel
theorem d_M_litres_37 : decode c_M_litres 37 = .ok (.iconst 0, 1) := by decide +kernel
theorem d_M_litres_38 : decode c_M_litres 38 = .ok (.ireturn, 1) := by decide +kernel
theorem d_M_litres_39 : decode c_M_litres 39 = .ok (.iload_n 2, 1) := by decide +kernel
theorem d_M_litres_40 : decode c_M_litres 40 = .ok (.iconst 2, 1) := by decide +kernel
theorem d_M_litres_41 : decode c_M_litres 41 = .ok (.if_icmp .ne 11, 3) := by decide +kernel
theorem d_M_litres_44 : decode c_M_litres 44 = .ok (.aload_n 0, 1) := by decide +kernel
theorem d_M_litres_45 : decode c_M_litres 45 = .ok (.iload_n 1, 1) := by decide +kernel
theorem d_M_litres_46 : decode c_M_litres 46 = .ok (.invokevirtual 116, 3) := by decide +kernel
theorem d_M_litres_49 : decode c_M_litres 49 = .ok (.goto 17, 3) := by decide +kernel
theorem d_M_litres_52 : decode c_M_litres 52 = .ok (.aload_n 0, 1) := by decide +kernel
theorem d_M_litres_53 : decode c_M_litres 53 = .ok (.iload_n 1, 1) := by decide +kernel
theorem d_M_litres_54 : decode c_M_litres 54 = .ok (.iload_n 2, 1) := by decide +kernel
theorem d_M_litres_55 : decode c_M_litres 55 = .ok (.ifCond .ne 7, 3) := by decide +kernel
theorem d_M_litres_58 : decode c_M_litres 58 = .ok (.iconst 1, 1) := by decide +kernel
theorem d_M_litres_59 : decode c_M_litres 59 = .ok (.goto 4, 3) := by decide +kernel
theorem d_M_litres_62 : decode c_M_litres 62 = .ok (.iconst 0, 1) := by decide +kernel
theorem d_M_litres_63 : decode c_M_litres 63 = .ok (.invokevirtual 97, 3) := by decide +kernel
theorem d_M_litres_66 : decode c_M_litres 66 = .ok (.ireturn, 1) := by decide +kernel
set_option maxHeartbeats 1000000 in
set_option maxRecDepth 100000 in
theorem m_M_litres (l : Launch) (D : va_G) (cI cL cZ : ClassId) (md : Nat → Nat) (co : Int) (n : Nat) (sh ra up lw kn fo : Int) (sc ln cb th pl lo pr la : Nat → Int) (cu cl fu fl : Nat → Nat) (ys yl yp : Nat → Int) (y z : Int) (hy : -2147483648 ≤ y ∧ y < 2147483648) (hz : -2147483648 ≤ z ∧ z < 2147483648) (hM : eh_MS n sh ra sc ln cb th pl lo pr la cu cl fu fl ys yl yp) : eh_M (S := Int × Int × Int) l y_M_litres k_M_litres 4 114 D classes [(cI, .int), (cL, .long), (cZ, .boolean)] [.ref (md 0), .int (eI y), .int (eI z)] [((md 0), .inr (5, [.int (eI co), .int (eI ((n : Nat) : Int)), .ref (md 1), .ref (md 2), .ref (md 3), .int (eI sh), .int (eI ra), .ref (md 4), .ref (md 5), .ref (md 6), .ref (md 7), .ref (md 8), .long (eL up), .long (eL lw), .ref (md 9), .ref (md 10), .ref (md 11), .ref (md 12), .ref (md 13), .ref (md 14), .ref (md 15), .int (eI kn), .int (eI fo)])), ((md 1), aI cI 25 sc), ((md 2), aI cI 4 ln), ((md 3), aI cZ 4 cb), ((md 4), aI cZ 3 th), ((md 5), aI cI 3 pl), ((md 6), aI cI 3 lo), ((md 7), aI cI 3 pr), ((md 8), aI cI 30 la)] (fun u => ((y < 0 ∨ (n : Int) ≤ y + 1) ∧ u.1 = 1) ∨ (¬ (y < 0 ∨ (n : Int) ≤ y + 1) ∧ (z < 0 ∨ 2 < z) ∧ u.1 = 2) ∨ (¬ (y < 0 ∨ (n : Int) ≤ y + 1) ∧ ¬ (z < 0 ∨ 2 < z) ∧ u.1 = 0)) (fun _ => some (.int (eI (if (y < 0 ∨ (n : Int) ≤ y + 1) then 0 else if (z < 0 ∨ 2 < z) then 0 else if z = 2 then eh_plc cu cl ln sh y.toNat else if z = 0 then eh_kut cu cl ln y.toNat else eh_kut fu fl ln y.toNat)))) (fun u => [((md 0), .inr (5, [.int (eI u.1), .int (eI ((n : Nat) : Int)), .ref (md 1), .ref (md 2), .ref (md 3), .int (eI sh), .int (eI ra), .ref (md 4), .ref (md 5), .ref (md 6), .ref (md 7), .ref (md 8), .long (eL u.2.1), .long (eL u.2.2), .ref (md 9), .ref (md 10), .ref (md 11), .ref (md 12), .ref (md 13), .ref (md 14), .ref (md 15), .int (eI kn), .int (eI fo)])), ((md 1), aI cI 25 sc), ((md 2), aI cI 4 ln), ((md 3), aI cZ 4 cb), ((md 4), aI cZ 3 th), ((md 5), aI cI 3 pl), ((md 6), aI cI 3 lo), ((md 7), aI cI 3 pr), ((md 8), aI cI 30 la)]) := by
  intro sz
  refine Met.ofW (cc := c_M_litres) (maxL := 3) (ret := (some .int)) (by decide) rfl ?_
  intro p e s m args below meth c s₁ B hml hv
  obtain ⟨hargs, hsz, hP, hK, hD0, hN⟩ := hv
  have hx := B.exec
  have hb := B.bytes
  have hrt := B.returns
  have hts := atoms_spec (ws := k_M_litres :: ew_t) B.pre
  have htb : ∀ w ∈ ew_t, w.before args s = true := fun w h => hts w (List.mem_cons_of_mem _ h)
  have hown : s.vm.findClass "EarthHaulsModel" = some m.cls := findClass_of_methodNamed B.named
  have hlocks := B.notSynchronized
  have hE : entryFrame m args 3 = entryFrame m ([.ref (md 0), .int (eI y), .int (eI z)] : List Value).toArray 3 := by rw [hargs]
  rw [hE]
  clear hE hts B hargs
  generalize hRe : (headSpec _ _).room = R
  have hR1 : R.frames = 4 := by rw [← hRe]; rfl
  have hR2 : R.locals = 114 := by rw [← hRe]; rfl
  clear hRe
  generalize hQ : MQ below _ _ s 0 0 _ = Q
  subst hsz
  have hD := hD0.self (sz := s.heap.size)
  generalize hAe : va_A [((md 0), .inr (5, [.int (eI co), .int (eI ((n : Nat) : Int)), .ref (md 1), .ref (md 2), .ref (md 3), .int (eI sh), .int (eI ra), .ref (md 4), .ref (md 5), .ref (md 6), .ref (md 7), .ref (md 8), .long (eL up), .long (eL lw), .ref (md 9), .ref (md 10), .ref (md 11), .ref (md 12), .ref (md 13), .ref (md 14), .ref (md 15), .int (eI kn), .int (eI fo)])), ((md 1), aI cI 25 sc), ((md 2), aI cI 4 ln), ((md 3), aI cZ 4 cb), ((md 4), aI cZ 3 th), ((md 5), aI cI 3 pl), ((md 6), aI cI 3 lo), ((md 7), aI cI 3 pr), ((md 8), aI cI 30 la)] s.heap.size = A at hD hQ
  have hA : ∀ q : Nat, s.heap.size ≤ q → A q := fun q h => by rw [← hAe]; exact Or.inr h
  have hS : va_S A s.heap s.heap [] := va_S.rf
  have hP : va_P D classes [((md 0), .inr (5, [.int (eI co), .int (eI ((n : Nat) : Int)), .ref (md 1), .ref (md 2), .ref (md 3), .int (eI sh), .int (eI ra), .ref (md 4), .ref (md 5), .ref (md 6), .ref (md 7), .ref (md 8), .long (eL up), .long (eL lw), .ref (md 9), .ref (md 10), .ref (md 11), .ref (md 12), .ref (md 13), .ref (md 14), .ref (md 15), .int (eI kn), .int (eI fo)])), ((md 1), aI cI 25 sc), ((md 2), aI cI 4 ln), ((md 3), aI cZ 4 cb), ((md 4), aI cZ 3 th), ((md 5), aI cI 3 pl), ((md 6), aI cI 3 lo), ((md 7), aI cI 3 pr), ((md 8), aI cI 30 la)] s.heap := hP
  have hl := lv_entry ([.ref (md 0), .int (eI y), .int (eI z)]) (n := 3) (Nat.le_of_ble_eq_true rfl)
  rw [lg_entry_eq]
  generalize (lg_sl ([.ref (md 0), .int (eI y), .int (eI z)]) ++ List.replicate (3 - (lg_sl ([.ref (md 0), .int (eI y), .int (eI z)])).length) Slot.unset).toArray = ls at hl ⊢
  have hl : lv_has ls 3 [(0, .ref (md 0)), (1, .int (eI y)), (2, .int (eI z))] := hl
  have hn5 := hM.1.1
  by_cases hbad : (y < 0 ∨ (n : Int) ≤ y + 1)
  ·
    refine lv_aload_n hx hb d_M_litres_0 rfl (lv_at hl 0 rfl) ?_
    refine lv_aload_n hx hb d_M_litres_1 rfl (lv_at hl 0 rfl) ?_
    refine lv_iload_n hx hb d_M_litres_2 rfl (lv_at hl 1 rfl) ?_
    refine eh_cRV (As := [.int (eI y)]) (rest := [.ref (md 0)]) (v := .int (eI (if (y < 0 ∨ (n : Int) ≤ y + 1) then 1 else 0))) (q := (R_M, T_M, 23)) hx hb hml hown htb hN (r_M_noSpan l D cI cL cZ md co n sh ra up lw kn fo sc ln cb th pl lo pr la cu cl fu fl ys yl yp y hy hM) 1 ⟨tb_681, tb_683, ts_29, tb_7, kin_M_noSpan⟩ dv_M_noSpan ⟨by rw [hR1]; decide, by rw [hR2]; decide⟩ hK hP 0 rfl rfl [0, 1, 2, 3, 4, 5, 6, 7, 8] rfl [0, 1, 2] rfl rfl rfl hl.1 (Nat.le_of_ble_eq_true rfl) d_M_litres_3 ⟨Nat.zero_le _, Nat.zero_le _⟩ ?_
    refine we_if_eq (tgt := 13) hx hb (by rw [if_pos hbad]; constructor <;> omega) d_M_litres_6 rfl (fun hc6 => absurd hc6 (by rw [if_pos hbad]; omega)) (fun hc6 => ?_)
    refine lv_iconst (v := eI 1) hx hb d_M_litres_9 rfl ?_
    refine lv_goto (tgt := 27) hx hb d_M_litres_10 rfl ?_
    refine va_put (D := D) (ci := 5) (v := .int (eI 1)) (ty := .int) (C := R_M) (T := T_M) (N := 23) hx hb htb in_M t_M t_M_ok n_M hown hK hP hD hS 0 rfl rfl 0 (by decide) (htb _ tb_588) (fun _ h9 => h9) rfl (by decide +kernel) rfl rfl (Nat.le_of_ble_eq_true rfl) d_M_litres_27 (fun H locs hP hD hS => ?_)
    have hP : va_P D classes [((md 0), .inr (5, [.int (eI 1), .int (eI ((n : Nat) : Int)), .ref (md 1), .ref (md 2), .ref (md 3), .int (eI sh), .int (eI ra), .ref (md 4), .ref (md 5), .ref (md 6), .ref (md 7), .ref (md 8), .long (eL up), .long (eL lw), .ref (md 9), .ref (md 10), .ref (md 11), .ref (md 12), .ref (md 13), .ref (md 14), .ref (md 15), .int (eI kn), .int (eI fo)])), ((md 1), aI cI 25 sc), ((md 2), aI cI 4 ln), ((md 3), aI cZ 4 cb), ((md 4), aI cZ 3 th), ((md 5), aI cI 3 pl), ((md 6), aI cI 3 lo), ((md 7), aI cI 3 pr), ((md 8), aI cI 30 la)] H := hP
    have hD : va_D A [((md 0), .inr (5, [.int (eI 1), .int (eI ((n : Nat) : Int)), .ref (md 1), .ref (md 2), .ref (md 3), .int (eI sh), .int (eI ra), .ref (md 4), .ref (md 5), .ref (md 6), .ref (md 7), .ref (md 8), .long (eL up), .long (eL lw), .ref (md 9), .ref (md 10), .ref (md 11), .ref (md 12), .ref (md 13), .ref (md 14), .ref (md 15), .int (eI kn), .int (eI fo)])), ((md 1), aI cI 25 sc), ((md 2), aI cI 4 ln), ((md 3), aI cZ 4 cb), ((md 4), aI cZ 3 th), ((md 5), aI cI 3 pl), ((md 6), aI cI 3 lo), ((md 7), aI cI 3 pr), ((md 8), aI cI 30 la)] := hD
    refine lv_aload_n hx hb d_M_litres_30 rfl (lv_at hl 0 rfl) ?_
    refine va_get (D := D) (ci := 5) (v := .int (eI 1)) (C := R_M) (T := T_M) (N := 23) hx hb htb in_M hown hK hP 0 rfl rfl 0 (by decide) (htb _ tb_588) (fun _ h9 => h9) rfl d_M_litres_31 ?_
    refine we_if_le (tgt := 39) hx hb (by constructor <;> omega) d_M_litres_34 rfl (fun hc34 => absurd hc34 (by omega)) (fun hc34 => ?_)
    refine lv_iconst (v := eI 0) hx hb d_M_litres_37 rfl ?_
    have hres : (0 : Int) = (if (y < 0 ∨ (n : Int) ≤ y + 1) then 0 else if (z < 0 ∨ 2 < z) then 0 else if z = 2 then eh_plc cu cl ln sh y.toNat else if z = 0 then eh_kut cu cl ln y.toNat else eh_kut fu fl ln y.toNat) := by rw [if_pos hbad]
    rw [hres]
    subst hQ
    exact W.iret hx hb hrt (fun t9 ht hW => ⟨⟨(1, up, lw), rfl, Or.inl ⟨hbad, rfl⟩, by rw [ht]; exact hP, hD⟩, hS.F ht⟩) hS.2.2 d_M_litres_38
  ·
    rcases (show z < 0 ∨ 2 < z ∨ z = 2 ∨ z = 0 ∨ z = 1 by omega) with hcas | hcas | hcas | hcas | hcas
    ·
      refine lv_aload_n hx hb d_M_litres_0 rfl (lv_at hl 0 rfl) ?_
      refine lv_aload_n hx hb d_M_litres_1 rfl (lv_at hl 0 rfl) ?_
      refine lv_iload_n hx hb d_M_litres_2 rfl (lv_at hl 1 rfl) ?_
      refine eh_cRV (As := [.int (eI y)]) (rest := [.ref (md 0)]) (v := .int (eI (if (y < 0 ∨ (n : Int) ≤ y + 1) then 1 else 0))) (q := (R_M, T_M, 23)) hx hb hml hown htb hN (r_M_noSpan l D cI cL cZ md co n sh ra up lw kn fo sc ln cb th pl lo pr la cu cl fu fl ys yl yp y hy hM) 1 ⟨tb_681, tb_683, ts_29, tb_7, kin_M_noSpan⟩ dv_M_noSpan ⟨by rw [hR1]; decide, by rw [hR2]; decide⟩ hK hP 0 rfl rfl [0, 1, 2, 3, 4, 5, 6, 7, 8] rfl [0, 1, 2] rfl rfl rfl hl.1 (Nat.le_of_ble_eq_true rfl) d_M_litres_3 ⟨Nat.zero_le _, Nat.zero_le _⟩ ?_
      refine we_if_eq (tgt := 13) hx hb (by rw [if_neg hbad]; constructor <;> omega) d_M_litres_6 rfl (fun hc6 => ?_) (fun hc6 => absurd hc6 (by rw [if_neg hbad]; omega))
      refine lv_iload_n hx hb d_M_litres_13 rfl (lv_at hl 2 rfl) ?_
      refine we_if_lt (tgt := 22) hx hb (by constructor <;> omega) d_M_litres_14 rfl (fun hc14 => ?_) (fun hc14 => absurd hc14 (by omega))
      refine lv_iconst (v := eI 2) hx hb d_M_litres_22 rfl ?_
      refine lv_goto (tgt := 27) hx hb d_M_litres_23 rfl ?_
      refine va_put (D := D) (ci := 5) (v := .int (eI 2)) (ty := .int) (C := R_M) (T := T_M) (N := 23) hx hb htb in_M t_M t_M_ok n_M hown hK hP hD hS 0 rfl rfl 0 (by decide) (htb _ tb_588) (fun _ h9 => h9) rfl (by decide +kernel) rfl rfl (Nat.le_of_ble_eq_true rfl) d_M_litres_27 (fun H locs hP hD hS => ?_)
      have hP : va_P D classes [((md 0), .inr (5, [.int (eI 2), .int (eI ((n : Nat) : Int)), .ref (md 1), .ref (md 2), .ref (md 3), .int (eI sh), .int (eI ra), .ref (md 4), .ref (md 5), .ref (md 6), .ref (md 7), .ref (md 8), .long (eL up), .long (eL lw), .ref (md 9), .ref (md 10), .ref (md 11), .ref (md 12), .ref (md 13), .ref (md 14), .ref (md 15), .int (eI kn), .int (eI fo)])), ((md 1), aI cI 25 sc), ((md 2), aI cI 4 ln), ((md 3), aI cZ 4 cb), ((md 4), aI cZ 3 th), ((md 5), aI cI 3 pl), ((md 6), aI cI 3 lo), ((md 7), aI cI 3 pr), ((md 8), aI cI 30 la)] H := hP
      have hD : va_D A [((md 0), .inr (5, [.int (eI 2), .int (eI ((n : Nat) : Int)), .ref (md 1), .ref (md 2), .ref (md 3), .int (eI sh), .int (eI ra), .ref (md 4), .ref (md 5), .ref (md 6), .ref (md 7), .ref (md 8), .long (eL up), .long (eL lw), .ref (md 9), .ref (md 10), .ref (md 11), .ref (md 12), .ref (md 13), .ref (md 14), .ref (md 15), .int (eI kn), .int (eI fo)])), ((md 1), aI cI 25 sc), ((md 2), aI cI 4 ln), ((md 3), aI cZ 4 cb), ((md 4), aI cZ 3 th), ((md 5), aI cI 3 pl), ((md 6), aI cI 3 lo), ((md 7), aI cI 3 pr), ((md 8), aI cI 30 la)] := hD
      refine lv_aload_n hx hb d_M_litres_30 rfl (lv_at hl 0 rfl) ?_
      refine va_get (D := D) (ci := 5) (v := .int (eI 2)) (C := R_M) (T := T_M) (N := 23) hx hb htb in_M hown hK hP 0 rfl rfl 0 (by decide) (htb _ tb_588) (fun _ h9 => h9) rfl d_M_litres_31 ?_
      refine we_if_le (tgt := 39) hx hb (by constructor <;> omega) d_M_litres_34 rfl (fun hc34 => absurd hc34 (by omega)) (fun hc34 => ?_)
      refine lv_iconst (v := eI 0) hx hb d_M_litres_37 rfl ?_
      have hres : (0 : Int) = (if (y < 0 ∨ (n : Int) ≤ y + 1) then 0 else if (z < 0 ∨ 2 < z) then 0 else if z = 2 then eh_plc cu cl ln sh y.toNat else if z = 0 then eh_kut cu cl ln y.toNat else eh_kut fu fl ln y.toNat) := by rw [if_neg hbad, if_pos (by omega)]
      rw [hres]
      subst hQ
      exact W.iret hx hb hrt (fun t9 ht hW => ⟨⟨(2, up, lw), rfl, Or.inr (Or.inl ⟨hbad, by omega, rfl⟩), by rw [ht]; exact hP, hD⟩, hS.F ht⟩) hS.2.2 d_M_litres_38
    ·
      refine lv_aload_n hx hb d_M_litres_0 rfl (lv_at hl 0 rfl) ?_
      refine lv_aload_n hx hb d_M_litres_1 rfl (lv_at hl 0 rfl) ?_
      refine lv_iload_n hx hb d_M_litres_2 rfl (lv_at hl 1 rfl) ?_
      refine eh_cRV (As := [.int (eI y)]) (rest := [.ref (md 0)]) (v := .int (eI (if (y < 0 ∨ (n : Int) ≤ y + 1) then 1 else 0))) (q := (R_M, T_M, 23)) hx hb hml hown htb hN (r_M_noSpan l D cI cL cZ md co n sh ra up lw kn fo sc ln cb th pl lo pr la cu cl fu fl ys yl yp y hy hM) 1 ⟨tb_681, tb_683, ts_29, tb_7, kin_M_noSpan⟩ dv_M_noSpan ⟨by rw [hR1]; decide, by rw [hR2]; decide⟩ hK hP 0 rfl rfl [0, 1, 2, 3, 4, 5, 6, 7, 8] rfl [0, 1, 2] rfl rfl rfl hl.1 (Nat.le_of_ble_eq_true rfl) d_M_litres_3 ⟨Nat.zero_le _, Nat.zero_le _⟩ ?_
      refine we_if_eq (tgt := 13) hx hb (by rw [if_neg hbad]; constructor <;> omega) d_M_litres_6 rfl (fun hc6 => ?_) (fun hc6 => absurd hc6 (by rw [if_neg hbad]; omega))
      refine lv_iload_n hx hb d_M_litres_13 rfl (lv_at hl 2 rfl) ?_
      refine we_if_lt (tgt := 22) hx hb (by constructor <;> omega) d_M_litres_14 rfl (fun hc14 => absurd hc14 (by omega)) (fun hc14 => ?_)
      refine lv_iload_n hx hb d_M_litres_17 rfl (lv_at hl 2 rfl) ?_
      refine lv_iconst (v := eI 2) hx hb d_M_litres_18 rfl ?_
      refine we_icmp_le (tgt := 26) hx hb (by constructor <;> omega) (by constructor <;> omega) d_M_litres_19 rfl (fun hc19 => absurd hc19 (by omega)) (fun hc19 => ?_)
      refine lv_iconst (v := eI 2) hx hb d_M_litres_22 rfl ?_
      refine lv_goto (tgt := 27) hx hb d_M_litres_23 rfl ?_
      refine va_put (D := D) (ci := 5) (v := .int (eI 2)) (ty := .int) (C := R_M) (T := T_M) (N := 23) hx hb htb in_M t_M t_M_ok n_M hown hK hP hD hS 0 rfl rfl 0 (by decide) (htb _ tb_588) (fun _ h9 => h9) rfl (by decide +kernel) rfl rfl (Nat.le_of_ble_eq_true rfl) d_M_litres_27 (fun H locs hP hD hS => ?_)
      have hP : va_P D classes [((md 0), .inr (5, [.int (eI 2), .int (eI ((n : Nat) : Int)), .ref (md 1), .ref (md 2), .ref (md 3), .int (eI sh), .int (eI ra), .ref (md 4), .ref (md 5), .ref (md 6), .ref (md 7), .ref (md 8), .long (eL up), .long (eL lw), .ref (md 9), .ref (md 10), .ref (md 11), .ref (md 12), .ref (md 13), .ref (md 14), .ref (md 15), .int (eI kn), .int (eI fo)])), ((md 1), aI cI 25 sc), ((md 2), aI cI 4 ln), ((md 3), aI cZ 4 cb), ((md 4), aI cZ 3 th), ((md 5), aI cI 3 pl), ((md 6), aI cI 3 lo), ((md 7), aI cI 3 pr), ((md 8), aI cI 30 la)] H := hP
      have hD : va_D A [((md 0), .inr (5, [.int (eI 2), .int (eI ((n : Nat) : Int)), .ref (md 1), .ref (md 2), .ref (md 3), .int (eI sh), .int (eI ra), .ref (md 4), .ref (md 5), .ref (md 6), .ref (md 7), .ref (md 8), .long (eL up), .long (eL lw), .ref (md 9), .ref (md 10), .ref (md 11), .ref (md 12), .ref (md 13), .ref (md 14), .ref (md 15), .int (eI kn), .int (eI fo)])), ((md 1), aI cI 25 sc), ((md 2), aI cI 4 ln), ((md 3), aI cZ 4 cb), ((md 4), aI cZ 3 th), ((md 5), aI cI 3 pl), ((md 6), aI cI 3 lo), ((md 7), aI cI 3 pr), ((md 8), aI cI 30 la)] := hD
      refine lv_aload_n hx hb d_M_litres_30 rfl (lv_at hl 0 rfl) ?_
      refine va_get (D := D) (ci := 5) (v := .int (eI 2)) (C := R_M) (T := T_M) (N := 23) hx hb htb in_M hown hK hP 0 rfl rfl 0 (by decide) (htb _ tb_588) (fun _ h9 => h9) rfl d_M_litres_31 ?_
      refine we_if_le (tgt := 39) hx hb (by constructor <;> omega) d_M_litres_34 rfl (fun hc34 => absurd hc34 (by omega)) (fun hc34 => ?_)
      refine lv_iconst (v := eI 0) hx hb d_M_litres_37 rfl ?_
      have hres : (0 : Int) = (if (y < 0 ∨ (n : Int) ≤ y + 1) then 0 else if (z < 0 ∨ 2 < z) then 0 else if z = 2 then eh_plc cu cl ln sh y.toNat else if z = 0 then eh_kut cu cl ln y.toNat else eh_kut fu fl ln y.toNat) := by rw [if_neg hbad, if_pos (by omega)]
      rw [hres]
      subst hQ
      exact W.iret hx hb hrt (fun t9 ht hW => ⟨⟨(2, up, lw), rfl, Or.inr (Or.inl ⟨hbad, by omega, rfl⟩), by rw [ht]; exact hP, hD⟩, hS.F ht⟩) hS.2.2 d_M_litres_38
    ·
      refine lv_aload_n hx hb d_M_litres_0 rfl (lv_at hl 0 rfl) ?_
      refine lv_aload_n hx hb d_M_litres_1 rfl (lv_at hl 0 rfl) ?_
      refine lv_iload_n hx hb d_M_litres_2 rfl (lv_at hl 1 rfl) ?_
      refine eh_cRV (As := [.int (eI y)]) (rest := [.ref (md 0)]) (v := .int (eI (if (y < 0 ∨ (n : Int) ≤ y + 1) then 1 else 0))) (q := (R_M, T_M, 23)) hx hb hml hown htb hN (r_M_noSpan l D cI cL cZ md co n sh ra up lw kn fo sc ln cb th pl lo pr la cu cl fu fl ys yl yp y hy hM) 1 ⟨tb_681, tb_683, ts_29, tb_7, kin_M_noSpan⟩ dv_M_noSpan ⟨by rw [hR1]; decide, by rw [hR2]; decide⟩ hK hP 0 rfl rfl [0, 1, 2, 3, 4, 5, 6, 7, 8] rfl [0, 1, 2] rfl rfl rfl hl.1 (Nat.le_of_ble_eq_true rfl) d_M_litres_3 ⟨Nat.zero_le _, Nat.zero_le _⟩ ?_
      refine we_if_eq (tgt := 13) hx hb (by rw [if_neg hbad]; constructor <;> omega) d_M_litres_6 rfl (fun hc6 => ?_) (fun hc6 => absurd hc6 (by rw [if_neg hbad]; omega))
      refine lv_iload_n hx hb d_M_litres_13 rfl (lv_at hl 2 rfl) ?_
      refine we_if_lt (tgt := 22) hx hb (by constructor <;> omega) d_M_litres_14 rfl (fun hc14 => absurd hc14 (by omega)) (fun hc14 => ?_)
      refine lv_iload_n hx hb d_M_litres_17 rfl (lv_at hl 2 rfl) ?_
      refine lv_iconst (v := eI 2) hx hb d_M_litres_18 rfl ?_
      refine we_icmp_le (tgt := 26) hx hb (by constructor <;> omega) (by constructor <;> omega) d_M_litres_19 rfl (fun hc19 => ?_) (fun hc19 => absurd hc19 (by omega))
      refine lv_iconst (v := eI 0) hx hb d_M_litres_26 rfl ?_
      refine va_put (D := D) (ci := 5) (v := .int (eI 0)) (ty := .int) (C := R_M) (T := T_M) (N := 23) hx hb htb in_M t_M t_M_ok n_M hown hK hP hD hS 0 rfl rfl 0 (by decide) (htb _ tb_588) (fun _ h9 => h9) rfl (by decide +kernel) rfl rfl (Nat.le_of_ble_eq_true rfl) d_M_litres_27 (fun H locs hP hD hS => ?_)
      have hP : va_P D classes [((md 0), .inr (5, [.int (eI 0), .int (eI ((n : Nat) : Int)), .ref (md 1), .ref (md 2), .ref (md 3), .int (eI sh), .int (eI ra), .ref (md 4), .ref (md 5), .ref (md 6), .ref (md 7), .ref (md 8), .long (eL up), .long (eL lw), .ref (md 9), .ref (md 10), .ref (md 11), .ref (md 12), .ref (md 13), .ref (md 14), .ref (md 15), .int (eI kn), .int (eI fo)])), ((md 1), aI cI 25 sc), ((md 2), aI cI 4 ln), ((md 3), aI cZ 4 cb), ((md 4), aI cZ 3 th), ((md 5), aI cI 3 pl), ((md 6), aI cI 3 lo), ((md 7), aI cI 3 pr), ((md 8), aI cI 30 la)] H := hP
      have hD : va_D A [((md 0), .inr (5, [.int (eI 0), .int (eI ((n : Nat) : Int)), .ref (md 1), .ref (md 2), .ref (md 3), .int (eI sh), .int (eI ra), .ref (md 4), .ref (md 5), .ref (md 6), .ref (md 7), .ref (md 8), .long (eL up), .long (eL lw), .ref (md 9), .ref (md 10), .ref (md 11), .ref (md 12), .ref (md 13), .ref (md 14), .ref (md 15), .int (eI kn), .int (eI fo)])), ((md 1), aI cI 25 sc), ((md 2), aI cI 4 ln), ((md 3), aI cZ 4 cb), ((md 4), aI cZ 3 th), ((md 5), aI cI 3 pl), ((md 6), aI cI 3 lo), ((md 7), aI cI 3 pr), ((md 8), aI cI 30 la)] := hD
      refine lv_aload_n hx hb d_M_litres_30 rfl (lv_at hl 0 rfl) ?_
      refine va_get (D := D) (ci := 5) (v := .int (eI 0)) (C := R_M) (T := T_M) (N := 23) hx hb htb in_M hown hK hP 0 rfl rfl 0 (by decide) (htb _ tb_588) (fun _ h9 => h9) rfl d_M_litres_31 ?_
      refine we_if_le (tgt := 39) hx hb (by constructor <;> omega) d_M_litres_34 rfl (fun hc34 => ?_) (fun hc34 => absurd hc34 (by omega))
      refine lv_iload_n hx hb d_M_litres_39 rfl (lv_at hl 2 rfl) ?_
      refine lv_iconst (v := eI 2) hx hb d_M_litres_40 rfl ?_
      refine we_icmp_ne (tgt := 52) hx hb (by constructor <;> omega) (by constructor <;> omega) d_M_litres_41 rfl (fun hc41 => absurd hc41 (by omega)) (fun hc41 => ?_)
      refine lv_aload_n hx hb d_M_litres_44 rfl (lv_at hl 0 rfl) ?_
      refine lv_iload_n hx hb d_M_litres_45 rfl (lv_at hl 1 rfl) ?_
      refine eh_cMV (As := [.int (eI y)]) (rest := []) (q := (R_M, T_M, 23)) (wr := []) hx hb hml hown htb hN (by have z9 := m_M_placedAt l D cI cL cZ md 0 n sh ra up lw kn fo sc ln cb th pl lo pr la cu cl fu fl ys yl yp y.toNat (by omega) hM; rw [show ((y.toNat : Nat) : Int) = y by omega] at z9; exact z9) 1 ⟨tb_711, tb_713, ts_31, tb_7, kin_M_placedAt⟩ dv_M_placedAt ⟨by rw [hR1]; decide, by rw [hR2]; decide⟩ hK hP hD hS hA 0 rfl rfl [0, 1, 2, 3, 4, 5, 6, 7, 8] [] rfl rfl (by decide) rfl (by decide) (by decide) [0, 1, 2] rfl rfl rfl hl.1 (Nat.le_of_ble_eq_true rfl) d_M_litres_46 ⟨Nat.zero_le _, Nat.zero_le _⟩ (fun u H locs hu hP hD hS => ?_)
      obtain ⟨up2, lw2⟩ := u
      have hP := hP.sub (ws' := [((md 0), .inr (5, [.int (eI 0), .int (eI ((n : Nat) : Int)), .ref (md 1), .ref (md 2), .ref (md 3), .int (eI sh), .int (eI ra), .ref (md 4), .ref (md 5), .ref (md 6), .ref (md 7), .ref (md 8), .long (eL up2), .long (eL lw2), .ref (md 9), .ref (md 10), .ref (md 11), .ref (md 12), .ref (md 13), .ref (md 14), .ref (md 15), .int (eI kn), .int (eI fo)])), ((md 1), aI cI 25 sc), ((md 2), aI cI 4 ln), ((md 3), aI cZ 4 cb), ((md 4), aI cZ 3 th), ((md 5), aI cI 3 pl), ((md 6), aI cI 3 lo), ((md 7), aI cI 3 pr), ((md 8), aI cI 30 la)]) [0, 1, 2, 3, 4, 5, 6, 7, 8] rfl
      have hD := hD.sub (ws' := [((md 0), .inr (5, [.int (eI 0), .int (eI ((n : Nat) : Int)), .ref (md 1), .ref (md 2), .ref (md 3), .int (eI sh), .int (eI ra), .ref (md 4), .ref (md 5), .ref (md 6), .ref (md 7), .ref (md 8), .long (eL up2), .long (eL lw2), .ref (md 9), .ref (md 10), .ref (md 11), .ref (md 12), .ref (md 13), .ref (md 14), .ref (md 15), .int (eI kn), .int (eI fo)])), ((md 1), aI cI 25 sc), ((md 2), aI cI 4 ln), ((md 3), aI cZ 4 cb), ((md 4), aI cZ 3 th), ((md 5), aI cI 3 pl), ((md 6), aI cI 3 lo), ((md 7), aI cI 3 pr), ((md 8), aI cI 30 la)]) [0, 1, 2, 3, 4, 5, 6, 7, 8] (by decide) rfl
      refine lv_goto (tgt := 66) hx hb d_M_litres_49 rfl ?_
      have hres : ((eh_plc cu cl ln sh y.toNat) : Int) = (if (y < 0 ∨ (n : Int) ≤ y + 1) then 0 else if (z < 0 ∨ 2 < z) then 0 else if z = 2 then eh_plc cu cl ln sh y.toNat else if z = 0 then eh_kut cu cl ln y.toNat else eh_kut fu fl ln y.toNat) := by rw [if_neg hbad, if_neg (by omega), if_pos (by omega)]
      rw [hres]
      subst hQ
      exact W.iret hx hb hrt (fun t9 ht hW => ⟨⟨(0, up2, lw2), rfl, Or.inr (Or.inr ⟨hbad, by omega, rfl⟩), by rw [ht]; exact hP, hD⟩, hS.F ht⟩) hS.2.2 d_M_litres_66
    ·
      refine lv_aload_n hx hb d_M_litres_0 rfl (lv_at hl 0 rfl) ?_
      refine lv_aload_n hx hb d_M_litres_1 rfl (lv_at hl 0 rfl) ?_
      refine lv_iload_n hx hb d_M_litres_2 rfl (lv_at hl 1 rfl) ?_
      refine eh_cRV (As := [.int (eI y)]) (rest := [.ref (md 0)]) (v := .int (eI (if (y < 0 ∨ (n : Int) ≤ y + 1) then 1 else 0))) (q := (R_M, T_M, 23)) hx hb hml hown htb hN (r_M_noSpan l D cI cL cZ md co n sh ra up lw kn fo sc ln cb th pl lo pr la cu cl fu fl ys yl yp y hy hM) 1 ⟨tb_681, tb_683, ts_29, tb_7, kin_M_noSpan⟩ dv_M_noSpan ⟨by rw [hR1]; decide, by rw [hR2]; decide⟩ hK hP 0 rfl rfl [0, 1, 2, 3, 4, 5, 6, 7, 8] rfl [0, 1, 2] rfl rfl rfl hl.1 (Nat.le_of_ble_eq_true rfl) d_M_litres_3 ⟨Nat.zero_le _, Nat.zero_le _⟩ ?_
      refine we_if_eq (tgt := 13) hx hb (by rw [if_neg hbad]; constructor <;> omega) d_M_litres_6 rfl (fun hc6 => ?_) (fun hc6 => absurd hc6 (by rw [if_neg hbad]; omega))
      refine lv_iload_n hx hb d_M_litres_13 rfl (lv_at hl 2 rfl) ?_
      refine we_if_lt (tgt := 22) hx hb (by constructor <;> omega) d_M_litres_14 rfl (fun hc14 => absurd hc14 (by omega)) (fun hc14 => ?_)
      refine lv_iload_n hx hb d_M_litres_17 rfl (lv_at hl 2 rfl) ?_
      refine lv_iconst (v := eI 2) hx hb d_M_litres_18 rfl ?_
      refine we_icmp_le (tgt := 26) hx hb (by constructor <;> omega) (by constructor <;> omega) d_M_litres_19 rfl (fun hc19 => ?_) (fun hc19 => absurd hc19 (by omega))
      refine lv_iconst (v := eI 0) hx hb d_M_litres_26 rfl ?_
      refine va_put (D := D) (ci := 5) (v := .int (eI 0)) (ty := .int) (C := R_M) (T := T_M) (N := 23) hx hb htb in_M t_M t_M_ok n_M hown hK hP hD hS 0 rfl rfl 0 (by decide) (htb _ tb_588) (fun _ h9 => h9) rfl (by decide +kernel) rfl rfl (Nat.le_of_ble_eq_true rfl) d_M_litres_27 (fun H locs hP hD hS => ?_)
      have hP : va_P D classes [((md 0), .inr (5, [.int (eI 0), .int (eI ((n : Nat) : Int)), .ref (md 1), .ref (md 2), .ref (md 3), .int (eI sh), .int (eI ra), .ref (md 4), .ref (md 5), .ref (md 6), .ref (md 7), .ref (md 8), .long (eL up), .long (eL lw), .ref (md 9), .ref (md 10), .ref (md 11), .ref (md 12), .ref (md 13), .ref (md 14), .ref (md 15), .int (eI kn), .int (eI fo)])), ((md 1), aI cI 25 sc), ((md 2), aI cI 4 ln), ((md 3), aI cZ 4 cb), ((md 4), aI cZ 3 th), ((md 5), aI cI 3 pl), ((md 6), aI cI 3 lo), ((md 7), aI cI 3 pr), ((md 8), aI cI 30 la)] H := hP
      have hD : va_D A [((md 0), .inr (5, [.int (eI 0), .int (eI ((n : Nat) : Int)), .ref (md 1), .ref (md 2), .ref (md 3), .int (eI sh), .int (eI ra), .ref (md 4), .ref (md 5), .ref (md 6), .ref (md 7), .ref (md 8), .long (eL up), .long (eL lw), .ref (md 9), .ref (md 10), .ref (md 11), .ref (md 12), .ref (md 13), .ref (md 14), .ref (md 15), .int (eI kn), .int (eI fo)])), ((md 1), aI cI 25 sc), ((md 2), aI cI 4 ln), ((md 3), aI cZ 4 cb), ((md 4), aI cZ 3 th), ((md 5), aI cI 3 pl), ((md 6), aI cI 3 lo), ((md 7), aI cI 3 pr), ((md 8), aI cI 30 la)] := hD
      refine lv_aload_n hx hb d_M_litres_30 rfl (lv_at hl 0 rfl) ?_
      refine va_get (D := D) (ci := 5) (v := .int (eI 0)) (C := R_M) (T := T_M) (N := 23) hx hb htb in_M hown hK hP 0 rfl rfl 0 (by decide) (htb _ tb_588) (fun _ h9 => h9) rfl d_M_litres_31 ?_
      refine we_if_le (tgt := 39) hx hb (by constructor <;> omega) d_M_litres_34 rfl (fun hc34 => ?_) (fun hc34 => absurd hc34 (by omega))
      refine lv_iload_n hx hb d_M_litres_39 rfl (lv_at hl 2 rfl) ?_
      refine lv_iconst (v := eI 2) hx hb d_M_litres_40 rfl ?_
      refine we_icmp_ne (tgt := 52) hx hb (by constructor <;> omega) (by constructor <;> omega) d_M_litres_41 rfl (fun hc41 => ?_) (fun hc41 => absurd hc41 (by omega))
      refine lv_aload_n hx hb d_M_litres_52 rfl (lv_at hl 0 rfl) ?_
      refine lv_iload_n hx hb d_M_litres_53 rfl (lv_at hl 1 rfl) ?_
      refine lv_iload_n hx hb d_M_litres_54 rfl (lv_at hl 2 rfl) ?_
      refine we_if_ne (tgt := 62) hx hb (by constructor <;> omega) d_M_litres_55 rfl (fun hc55 => absurd hc55 (by omega)) (fun hc55 => ?_)
      refine lv_iconst (v := eI 1) hx hb d_M_litres_58 rfl ?_
      refine lv_goto (tgt := 63) hx hb d_M_litres_59 rfl ?_
      refine eh_cMV (As := [.int (eI y), .int (eI 1)]) (rest := []) (q := (R_M, T_M, 23)) (wr := []) hx hb hml hown htb hN (by have z9 := m_M_litresAt_1 l D cI cL cZ md 0 n sh ra up lw kn fo sc ln cb th pl lo pr la cu cl fu fl ys yl yp y.toNat (by omega) hM; rw [show ((y.toNat : Nat) : Int) = y by omega] at z9; exact z9) 2 ⟨tb_715, tb_717, ts_32, tb_7, kin_M_litresAt⟩ dv_M_litresAt ⟨by rw [hR1]; decide, by rw [hR2]; decide⟩ hK hP hD hS hA 0 rfl rfl [0, 1, 2, 3, 4, 5, 6, 7, 8] [] rfl rfl (by decide) rfl (by decide) (by decide) [0, 1, 2] rfl rfl rfl hl.1 (Nat.le_of_ble_eq_true rfl) d_M_litres_63 ⟨Nat.zero_le _, Nat.zero_le _⟩ (fun u H locs hu hP hD hS => ?_)
      have hP := hP.sub (ws' := [((md 0), .inr (5, [.int (eI 0), .int (eI ((n : Nat) : Int)), .ref (md 1), .ref (md 2), .ref (md 3), .int (eI sh), .int (eI ra), .ref (md 4), .ref (md 5), .ref (md 6), .ref (md 7), .ref (md 8), .long (eL ((cu (y.toNat + 1) : Nat) : Int)), .long (eL ((cl (y.toNat + 1) : Nat) : Int)), .ref (md 9), .ref (md 10), .ref (md 11), .ref (md 12), .ref (md 13), .ref (md 14), .ref (md 15), .int (eI kn), .int (eI fo)])), ((md 1), aI cI 25 sc), ((md 2), aI cI 4 ln), ((md 3), aI cZ 4 cb), ((md 4), aI cZ 3 th), ((md 5), aI cI 3 pl), ((md 6), aI cI 3 lo), ((md 7), aI cI 3 pr), ((md 8), aI cI 30 la)]) [0, 1, 2, 3, 4, 5, 6, 7, 8] rfl
      have hD := hD.sub (ws' := [((md 0), .inr (5, [.int (eI 0), .int (eI ((n : Nat) : Int)), .ref (md 1), .ref (md 2), .ref (md 3), .int (eI sh), .int (eI ra), .ref (md 4), .ref (md 5), .ref (md 6), .ref (md 7), .ref (md 8), .long (eL ((cu (y.toNat + 1) : Nat) : Int)), .long (eL ((cl (y.toNat + 1) : Nat) : Int)), .ref (md 9), .ref (md 10), .ref (md 11), .ref (md 12), .ref (md 13), .ref (md 14), .ref (md 15), .int (eI kn), .int (eI fo)])), ((md 1), aI cI 25 sc), ((md 2), aI cI 4 ln), ((md 3), aI cZ 4 cb), ((md 4), aI cZ 3 th), ((md 5), aI cI 3 pl), ((md 6), aI cI 3 lo), ((md 7), aI cI 3 pr), ((md 8), aI cI 30 la)]) [0, 1, 2, 3, 4, 5, 6, 7, 8] (by decide) rfl
      have hres : ((eh_kut cu cl ln y.toNat) : Int) = (if (y < 0 ∨ (n : Int) ≤ y + 1) then 0 else if (z < 0 ∨ 2 < z) then 0 else if z = 2 then eh_plc cu cl ln sh y.toNat else if z = 0 then eh_kut cu cl ln y.toNat else eh_kut fu fl ln y.toNat) := by rw [if_neg hbad, if_neg (by omega), if_neg (by omega), if_pos (by omega)]
      rw [hres]
      subst hQ
      exact W.iret hx hb hrt (fun t9 ht hW => ⟨⟨(0, ((cu (y.toNat + 1) : Nat) : Int), ((cl (y.toNat + 1) : Nat) : Int)), rfl, Or.inr (Or.inr ⟨hbad, by omega, rfl⟩), by rw [ht]; exact hP, hD⟩, hS.F ht⟩) hS.2.2 d_M_litres_66
    ·
      refine lv_aload_n hx hb d_M_litres_0 rfl (lv_at hl 0 rfl) ?_
      refine lv_aload_n hx hb d_M_litres_1 rfl (lv_at hl 0 rfl) ?_
      refine lv_iload_n hx hb d_M_litres_2 rfl (lv_at hl 1 rfl) ?_
      refine eh_cRV (As := [.int (eI y)]) (rest := [.ref (md 0)]) (v := .int (eI (if (y < 0 ∨ (n : Int) ≤ y + 1) then 1 else 0))) (q := (R_M, T_M, 23)) hx hb hml hown htb hN (r_M_noSpan l D cI cL cZ md co n sh ra up lw kn fo sc ln cb th pl lo pr la cu cl fu fl ys yl yp y hy hM) 1 ⟨tb_681, tb_683, ts_29, tb_7, kin_M_noSpan⟩ dv_M_noSpan ⟨by rw [hR1]; decide, by rw [hR2]; decide⟩ hK hP 0 rfl rfl [0, 1, 2, 3, 4, 5, 6, 7, 8] rfl [0, 1, 2] rfl rfl rfl hl.1 (Nat.le_of_ble_eq_true rfl) d_M_litres_3 ⟨Nat.zero_le _, Nat.zero_le _⟩ ?_
      refine we_if_eq (tgt := 13) hx hb (by rw [if_neg hbad]; constructor <;> omega) d_M_litres_6 rfl (fun hc6 => ?_) (fun hc6 => absurd hc6 (by rw [if_neg hbad]; omega))
      refine lv_iload_n hx hb d_M_litres_13 rfl (lv_at hl 2 rfl) ?_
      refine we_if_lt (tgt := 22) hx hb (by constructor <;> omega) d_M_litres_14 rfl (fun hc14 => absurd hc14 (by omega)) (fun hc14 => ?_)
      refine lv_iload_n hx hb d_M_litres_17 rfl (lv_at hl 2 rfl) ?_
      refine lv_iconst (v := eI 2) hx hb d_M_litres_18 rfl ?_
      refine we_icmp_le (tgt := 26) hx hb (by constructor <;> omega) (by constructor <;> omega) d_M_litres_19 rfl (fun hc19 => ?_) (fun hc19 => absurd hc19 (by omega))
      refine lv_iconst (v := eI 0) hx hb d_M_litres_26 rfl ?_
      refine va_put (D := D) (ci := 5) (v := .int (eI 0)) (ty := .int) (C := R_M) (T := T_M) (N := 23) hx hb htb in_M t_M t_M_ok n_M hown hK hP hD hS 0 rfl rfl 0 (by decide) (htb _ tb_588) (fun _ h9 => h9) rfl (by decide +kernel) rfl rfl (Nat.le_of_ble_eq_true rfl) d_M_litres_27 (fun H locs hP hD hS => ?_)
      have hP : va_P D classes [((md 0), .inr (5, [.int (eI 0), .int (eI ((n : Nat) : Int)), .ref (md 1), .ref (md 2), .ref (md 3), .int (eI sh), .int (eI ra), .ref (md 4), .ref (md 5), .ref (md 6), .ref (md 7), .ref (md 8), .long (eL up), .long (eL lw), .ref (md 9), .ref (md 10), .ref (md 11), .ref (md 12), .ref (md 13), .ref (md 14), .ref (md 15), .int (eI kn), .int (eI fo)])), ((md 1), aI cI 25 sc), ((md 2), aI cI 4 ln), ((md 3), aI cZ 4 cb), ((md 4), aI cZ 3 th), ((md 5), aI cI 3 pl), ((md 6), aI cI 3 lo), ((md 7), aI cI 3 pr), ((md 8), aI cI 30 la)] H := hP
      have hD : va_D A [((md 0), .inr (5, [.int (eI 0), .int (eI ((n : Nat) : Int)), .ref (md 1), .ref (md 2), .ref (md 3), .int (eI sh), .int (eI ra), .ref (md 4), .ref (md 5), .ref (md 6), .ref (md 7), .ref (md 8), .long (eL up), .long (eL lw), .ref (md 9), .ref (md 10), .ref (md 11), .ref (md 12), .ref (md 13), .ref (md 14), .ref (md 15), .int (eI kn), .int (eI fo)])), ((md 1), aI cI 25 sc), ((md 2), aI cI 4 ln), ((md 3), aI cZ 4 cb), ((md 4), aI cZ 3 th), ((md 5), aI cI 3 pl), ((md 6), aI cI 3 lo), ((md 7), aI cI 3 pr), ((md 8), aI cI 30 la)] := hD
      refine lv_aload_n hx hb d_M_litres_30 rfl (lv_at hl 0 rfl) ?_
      refine va_get (D := D) (ci := 5) (v := .int (eI 0)) (C := R_M) (T := T_M) (N := 23) hx hb htb in_M hown hK hP 0 rfl rfl 0 (by decide) (htb _ tb_588) (fun _ h9 => h9) rfl d_M_litres_31 ?_
      refine we_if_le (tgt := 39) hx hb (by constructor <;> omega) d_M_litres_34 rfl (fun hc34 => ?_) (fun hc34 => absurd hc34 (by omega))
      refine lv_iload_n hx hb d_M_litres_39 rfl (lv_at hl 2 rfl) ?_
      refine lv_iconst (v := eI 2) hx hb d_M_litres_40 rfl ?_
      refine we_icmp_ne (tgt := 52) hx hb (by constructor <;> omega) (by constructor <;> omega) d_M_litres_41 rfl (fun hc41 => ?_) (fun hc41 => absurd hc41 (by omega))
      refine lv_aload_n hx hb d_M_litres_52 rfl (lv_at hl 0 rfl) ?_
      refine lv_iload_n hx hb d_M_litres_53 rfl (lv_at hl 1 rfl) ?_
      refine lv_iload_n hx hb d_M_litres_54 rfl (lv_at hl 2 rfl) ?_
      refine we_if_ne (tgt := 62) hx hb (by constructor <;> omega) d_M_litres_55 rfl (fun hc55 => ?_) (fun hc55 => absurd hc55 (by omega))
      refine lv_iconst (v := eI 0) hx hb d_M_litres_62 rfl ?_
      refine eh_cMV (As := [.int (eI y), .int (eI 0)]) (rest := []) (q := (R_M, T_M, 23)) (wr := []) hx hb hml hown htb hN (by have z9 := m_M_litresAt_0 l D cI cL cZ md 0 n sh ra up lw kn fo sc ln cb th pl lo pr la cu cl fu fl ys yl yp y.toNat (by omega) hM; rw [show ((y.toNat : Nat) : Int) = y by omega] at z9; exact z9) 2 ⟨tb_715, tb_717, ts_32, tb_7, kin_M_litresAt⟩ dv_M_litresAt ⟨by rw [hR1]; decide, by rw [hR2]; decide⟩ hK hP hD hS hA 0 rfl rfl [0, 1, 2, 3, 4, 5, 6, 7, 8] [] rfl rfl (by decide) rfl (by decide) (by decide) [0, 1, 2] rfl rfl rfl hl.1 (Nat.le_of_ble_eq_true rfl) d_M_litres_63 ⟨Nat.zero_le _, Nat.zero_le _⟩ (fun u H locs hu hP hD hS => ?_)
      have hP := hP.sub (ws' := [((md 0), .inr (5, [.int (eI 0), .int (eI ((n : Nat) : Int)), .ref (md 1), .ref (md 2), .ref (md 3), .int (eI sh), .int (eI ra), .ref (md 4), .ref (md 5), .ref (md 6), .ref (md 7), .ref (md 8), .long (eL ((fu (y.toNat + 1) : Nat) : Int)), .long (eL ((fl (y.toNat + 1) : Nat) : Int)), .ref (md 9), .ref (md 10), .ref (md 11), .ref (md 12), .ref (md 13), .ref (md 14), .ref (md 15), .int (eI kn), .int (eI fo)])), ((md 1), aI cI 25 sc), ((md 2), aI cI 4 ln), ((md 3), aI cZ 4 cb), ((md 4), aI cZ 3 th), ((md 5), aI cI 3 pl), ((md 6), aI cI 3 lo), ((md 7), aI cI 3 pr), ((md 8), aI cI 30 la)]) [0, 1, 2, 3, 4, 5, 6, 7, 8] rfl
      have hD := hD.sub (ws' := [((md 0), .inr (5, [.int (eI 0), .int (eI ((n : Nat) : Int)), .ref (md 1), .ref (md 2), .ref (md 3), .int (eI sh), .int (eI ra), .ref (md 4), .ref (md 5), .ref (md 6), .ref (md 7), .ref (md 8), .long (eL ((fu (y.toNat + 1) : Nat) : Int)), .long (eL ((fl (y.toNat + 1) : Nat) : Int)), .ref (md 9), .ref (md 10), .ref (md 11), .ref (md 12), .ref (md 13), .ref (md 14), .ref (md 15), .int (eI kn), .int (eI fo)])), ((md 1), aI cI 25 sc), ((md 2), aI cI 4 ln), ((md 3), aI cZ 4 cb), ((md 4), aI cZ 3 th), ((md 5), aI cI 3 pl), ((md 6), aI cI 3 lo), ((md 7), aI cI 3 pr), ((md 8), aI cI 30 la)]) [0, 1, 2, 3, 4, 5, 6, 7, 8] (by decide) rfl
      have hres : ((eh_kut fu fl ln y.toNat) : Int) = (if (y < 0 ∨ (n : Int) ≤ y + 1) then 0 else if (z < 0 ∨ 2 < z) then 0 else if z = 2 then eh_plc cu cl ln sh y.toNat else if z = 0 then eh_kut cu cl ln y.toNat else eh_kut fu fl ln y.toNat) := by rw [if_neg hbad, if_neg (by omega), if_neg (by omega), if_neg (by omega)]
      rw [hres]
      subst hQ
      exact W.iret hx hb hrt (fun t9 ht hW => ⟨⟨(0, ((fu (y.toNat + 1) : Nat) : Int), ((fl (y.toNat + 1) : Nat) : Int)), rfl, Or.inr (Or.inr ⟨hbad, by omega, rfl⟩), by rw [ht]; exact hP, hD⟩, hS.F ht⟩) hS.2.2 d_M_litres_66
abbrev c_M_area : ByteArray := prog_7_method_16_code
def y_M_area : MethodName := ⟨"EarthHaulsModel", "area", "(II)J"⟩
abbrev k_M_area : Cond := .code y_M_area c_M_area 3 (some .long)
theorem kin_M_area : k_M_area ∈ ew_t := tb_693
theorem dv_M_area : eh_dV y_M_area "EarthHaulsModel" 2 := ⟨rfl, by decide, by decide, by decide +kernel⟩
theorem d_M_area_0 : decode c_M_area 0 = .ok (.aload_n 0, 1) := by decide +kernel
theorem d_M_area_1 : decode c_M_area 1 = .ok (.iload_n 1, 1) := by decide +kernel
theorem d_M_area_2 : decode c_M_area 2 = .ok (.ifCond .lt 11, 3) := by decide +kernel
theorem d_M_area_5 : decode c_M_area 5 = .ok (.iload_n 1, 1) := by decide +kernel
theorem d_M_area_6 : decode c_M_area 6 = .ok (.aload_n 0, 1) := by decide +kernel
theorem d_M_area_7 : decode c_M_area 7 = .ok (.getfield 86, 3) := by decide +kernel
theorem d_M_area_10 : decode c_M_area 10 = .ok (.if_icmp .lt 7, 3) := by decide +kernel
theorem d_M_area_13 : decode c_M_area 13 = .ok (.iconst 1, 1) := by decide +kernel
theorem d_M_area_14 : decode c_M_area 14 = .ok (.goto 17, 3) := by decide +kernel
theorem d_M_area_17 : decode c_M_area 17 = .ok (.iload_n 2, 1) := by decide +kernel
theorem d_M_area_18 : decode c_M_area 18 = .ok (.ifCond .lt 8, 3) := by decide +kernel
theorem d_M_area_21 : decode c_M_area 21 = .ok (.iload_n 2, 1) := by decide +kernel
theorem d_M_area_22 : decode c_M_area 22 = .ok (.iconst 3, 1) := by decide +kernel
theorem d_M_area_23 : decode c_M_area 23 = .ok (.if_icmp .le 7, 3) := by decide +kernel
theorem d_M_area_26 : decode c_M_area 26 = .ok (.iconst 2, 1) := by decide +kernel
theorem d_M_area_27 : decode c_M_area 27 = .ok (.goto 4, 3) := by decide +kernel
theorem d_M_area_30 : decode c_M_area 30 = .ok (.iconst 0, 1) := by decide +kernel
theorem d_M_area_31 : decode c_M_area 31 = .ok (.putfield 64, 3) := by decide +kernel
theorem d_M_area_34 : decode c_M_area 34 = .ok (.aload_n 0, 1) := by decide +kernel
theorem d_M_area_35 : decode c_M_area 35 = .ok (.getfield 64, 3) := by decide +kernel
theorem d_M_area_38 : decode c_M_area 38 = .ok (.ifCond .le 5, 3) := by decide +kernel
theorem d_M_area_41 : decode c_M_area 41 = .ok (.lconst 0, 1) := by decide +kernel
theorem d_M_area_42 : decode c_M_area 42 = .ok (.lreturn, 1) := by decide +kernel
theorem d_M_area_43 : decode c_M_area 43 = .ok (.aload_n 0, 1) := by decide +kernel
theorem d_M_area_44 : decode c_M_area 44 = .ok (.iload_n 1, 1) := by decide +kernel
theorem d_M_area_45 : decode c_M_area 45 = .ok (.iload_n 2, 1) := by decide +kernel
theorem d_M_area_46 : decode c_M_area 46 = .ok (.iconst 2, 1) := by decide +kernel
theorem d_M_area_47 : decode c_M_area 47 = .ok (.if_icmp .ge 7, 3) := by decide +kernel
theorem d_M_area_50 : decode c_M_area 50 = .ok (.iconst 1, 1) := by decide +kernel
theorem d_M_area_51 : decode c_M_area 51 = .ok (.goto 4, 3) := by decide +kernel
theorem d_M_area_54 : decode c_M_area 54 = .ok (.iconst 0, 1) := by decide +kernel
theorem d_M_area_55 : decode c_M_area 55 = .ok (.invokevirtual 89, 3) := by decide +kernel
theorem d_M_area_58 : decode c_M_area 58 = .ok (.iload_n 2, 1) := by decide +kernel
theorem d_M_area_59 : decode c_M_area 59 = .ok (.iconst 2, 1) := by decide +kernel
theorem d_M_area_60 : decode c_M_area 60 = .ok (.irem, 1) := by decide +kernel
theorem d_M_area_61 : decode c_M_area 61 = .ok (.ifCond .ne 10, 3) := by decide +kernel
theorem d_M_area_64 : decode c_M_area 64 = .ok (.aload_n 0, 1) := by decide +kernel
theorem d_M_area_65 : decode c_M_area 65 = .ok (.getfield 75, 3) := by decide +kernel
theorem d_M_area_68 : decode c_M_area 68 = .ok (.goto 7, 3) := by decide +kernel
theorem d_M_area_71 : decode c_M_area 71 = .ok (.aload_n 0, 1) := by decide +kernel
theorem d_M_area_72 : decode c_M_area 72 = .ok (.getfield 79, 3) := by decide +kernel
theorem d_M_area_75 : decode c_M_area 75 = .ok (.lreturn, 1) := by decide +kernel
set_option maxHeartbeats 1000000 in
set_option maxRecDepth 100000 in
theorem m_M_area (l : Launch) (D : va_G) (cI cL cZ : ClassId) (md : Nat → Nat) (co : Int) (n : Nat) (sh ra up lw kn fo : Int) (sc ln cb th pl lo pr la : Nat → Int) (cu cl fu fl : Nat → Nat) (ys yl yp : Nat → Int) (y z : Int) (hy : -2147483648 ≤ y ∧ y < 2147483648) (hz : -2147483648 ≤ z ∧ z < 2147483648) (hM : eh_MS n sh ra sc ln cb th pl lo pr la cu cl fu fl ys yl yp) : eh_M (S := Int × Int × Int) l y_M_area k_M_area 2 61 D classes [(cI, .int), (cL, .long), (cZ, .boolean)] [.ref (md 0), .int (eI y), .int (eI z)] [((md 0), .inr (5, [.int (eI co), .int (eI ((n : Nat) : Int)), .ref (md 1), .ref (md 2), .ref (md 3), .int (eI sh), .int (eI ra), .ref (md 4), .ref (md 5), .ref (md 6), .ref (md 7), .ref (md 8), .long (eL up), .long (eL lw), .ref (md 9), .ref (md 10), .ref (md 11), .ref (md 12), .ref (md 13), .ref (md 14), .ref (md 15), .int (eI kn), .int (eI fo)])), ((md 1), aI cI 25 sc), ((md 2), aI cI 4 ln), ((md 3), aI cZ 4 cb), ((md 4), aI cZ 3 th), ((md 5), aI cI 3 pl), ((md 6), aI cI 3 lo), ((md 7), aI cI 3 pr), ((md 8), aI cI 30 la)] (fun u => ((y < 0 ∨ (n : Int) ≤ y) ∧ u.1 = 1) ∨ (¬ (y < 0 ∨ (n : Int) ≤ y) ∧ (z < 0 ∨ 3 < z) ∧ u.1 = 2) ∨ (¬ (y < 0 ∨ (n : Int) ≤ y) ∧ ¬ (z < 0 ∨ 3 < z) ∧ u.1 = 0)) (fun _ => some (.long (eL (if (y < 0 ∨ (n : Int) ≤ y) then 0 else if (z < 0 ∨ 3 < z) then 0 else if z = 0 then ((cu y.toNat : Nat) : Int) else if z = 1 then ((cl y.toNat : Nat) : Int) else if z = 2 then ((fu y.toNat : Nat) : Int) else ((fl y.toNat : Nat) : Int))))) (fun u => [((md 0), .inr (5, [.int (eI u.1), .int (eI ((n : Nat) : Int)), .ref (md 1), .ref (md 2), .ref (md 3), .int (eI sh), .int (eI ra), .ref (md 4), .ref (md 5), .ref (md 6), .ref (md 7), .ref (md 8), .long (eL u.2.1), .long (eL u.2.2), .ref (md 9), .ref (md 10), .ref (md 11), .ref (md 12), .ref (md 13), .ref (md 14), .ref (md 15), .int (eI kn), .int (eI fo)])), ((md 1), aI cI 25 sc), ((md 2), aI cI 4 ln), ((md 3), aI cZ 4 cb), ((md 4), aI cZ 3 th), ((md 5), aI cI 3 pl), ((md 6), aI cI 3 lo), ((md 7), aI cI 3 pr), ((md 8), aI cI 30 la)]) := by
  intro sz
  refine Met.ofW (cc := c_M_area) (maxL := 3) (ret := (some .long)) (by decide) rfl ?_
  intro p e s m args below meth c s₁ B hml hv
  obtain ⟨hargs, hsz, hP, hK, hD0, hN⟩ := hv
  have hx := B.exec
  have hb := B.bytes
  have hrt := B.returns
  have hts := atoms_spec (ws := k_M_area :: ew_t) B.pre
  have htb : ∀ w ∈ ew_t, w.before args s = true := fun w h => hts w (List.mem_cons_of_mem _ h)
  have hown : s.vm.findClass "EarthHaulsModel" = some m.cls := findClass_of_methodNamed B.named
  have hlocks := B.notSynchronized
  have hE : entryFrame m args 3 = entryFrame m ([.ref (md 0), .int (eI y), .int (eI z)] : List Value).toArray 3 := by rw [hargs]
  rw [hE]
  clear hE hts B hargs
  generalize hRe : (headSpec _ _).room = R
  have hR1 : R.frames = 2 := by rw [← hRe]; rfl
  have hR2 : R.locals = 61 := by rw [← hRe]; rfl
  clear hRe
  generalize hQ : MQ below _ _ s 0 0 _ = Q
  subst hsz
  have hD := hD0.self (sz := s.heap.size)
  generalize hAe : va_A [((md 0), .inr (5, [.int (eI co), .int (eI ((n : Nat) : Int)), .ref (md 1), .ref (md 2), .ref (md 3), .int (eI sh), .int (eI ra), .ref (md 4), .ref (md 5), .ref (md 6), .ref (md 7), .ref (md 8), .long (eL up), .long (eL lw), .ref (md 9), .ref (md 10), .ref (md 11), .ref (md 12), .ref (md 13), .ref (md 14), .ref (md 15), .int (eI kn), .int (eI fo)])), ((md 1), aI cI 25 sc), ((md 2), aI cI 4 ln), ((md 3), aI cZ 4 cb), ((md 4), aI cZ 3 th), ((md 5), aI cI 3 pl), ((md 6), aI cI 3 lo), ((md 7), aI cI 3 pr), ((md 8), aI cI 30 la)] s.heap.size = A at hD hQ
  have hA : ∀ q : Nat, s.heap.size ≤ q → A q := fun q h => by rw [← hAe]; exact Or.inr h
  have hS : va_S A s.heap s.heap [] := va_S.rf
  have hP : va_P D classes [((md 0), .inr (5, [.int (eI co), .int (eI ((n : Nat) : Int)), .ref (md 1), .ref (md 2), .ref (md 3), .int (eI sh), .int (eI ra), .ref (md 4), .ref (md 5), .ref (md 6), .ref (md 7), .ref (md 8), .long (eL up), .long (eL lw), .ref (md 9), .ref (md 10), .ref (md 11), .ref (md 12), .ref (md 13), .ref (md 14), .ref (md 15), .int (eI kn), .int (eI fo)])), ((md 1), aI cI 25 sc), ((md 2), aI cI 4 ln), ((md 3), aI cZ 4 cb), ((md 4), aI cZ 3 th), ((md 5), aI cI 3 pl), ((md 6), aI cI 3 lo), ((md 7), aI cI 3 pr), ((md 8), aI cI 30 la)] s.heap := hP
  have hl := lv_entry ([.ref (md 0), .int (eI y), .int (eI z)]) (n := 3) (Nat.le_of_ble_eq_true rfl)
  rw [lg_entry_eq]
  generalize (lg_sl ([.ref (md 0), .int (eI y), .int (eI z)]) ++ List.replicate (3 - (lg_sl ([.ref (md 0), .int (eI y), .int (eI z)])).length) Slot.unset).toArray = ls at hl ⊢
  have hl : lv_has ls 3 [(0, .ref (md 0)), (1, .int (eI y)), (2, .int (eI z))] := hl
  have hn5 := hM.1.1
  rcases (show y < 0 ∨ (0 ≤ y ∧ (n : Int) ≤ y) ∨ (0 ≤ y ∧ y < (n : Int)) by omega) with hcas | hcas | hcas
  ·
    refine lv_aload_n hx hb d_M_area_0 rfl (lv_at hl 0 rfl) ?_
    refine lv_iload_n hx hb d_M_area_1 rfl (lv_at hl 1 rfl) ?_
    refine we_if_lt (tgt := 13) hx hb (by constructor <;> omega) d_M_area_2 rfl (fun hc2 => ?_) (fun hc2 => absurd hc2 (by omega))
    refine lv_iconst (v := eI 1) hx hb d_M_area_13 rfl ?_
    refine lv_goto (tgt := 31) hx hb d_M_area_14 rfl ?_
    refine va_put (D := D) (ci := 5) (v := .int (eI 1)) (ty := .int) (C := R_M) (T := T_M) (N := 23) hx hb htb in_M t_M t_M_ok n_M hown hK hP hD hS 0 rfl rfl 0 (by decide) (htb _ tb_588) (fun _ h9 => h9) rfl (by decide +kernel) rfl rfl (Nat.le_of_ble_eq_true rfl) d_M_area_31 (fun H locs hP hD hS => ?_)
    have hP : va_P D classes [((md 0), .inr (5, [.int (eI 1), .int (eI ((n : Nat) : Int)), .ref (md 1), .ref (md 2), .ref (md 3), .int (eI sh), .int (eI ra), .ref (md 4), .ref (md 5), .ref (md 6), .ref (md 7), .ref (md 8), .long (eL up), .long (eL lw), .ref (md 9), .ref (md 10), .ref (md 11), .ref (md 12), .ref (md 13), .ref (md 14), .ref (md 15), .int (eI kn), .int (eI fo)])), ((md 1), aI cI 25 sc), ((md 2), aI cI 4 ln), ((md 3), aI cZ 4 cb), ((md 4), aI cZ 3 th), ((md 5), aI cI 3 pl), ((md 6), aI cI 3 lo), ((md 7), aI cI 3 pr), ((md 8), aI cI 30 la)] H := hP
    have hD : va_D A [((md 0), .inr (5, [.int (eI 1), .int (eI ((n : Nat) : Int)), .ref (md 1), .ref (md 2), .ref (md 3), .int (eI sh), .int (eI ra), .ref (md 4), .ref (md 5), .ref (md 6), .ref (md 7), .ref (md 8), .long (eL up), .long (eL lw), .ref (md 9), .ref (md 10), .ref (md 11), .ref (md 12), .ref (md 13), .ref (md 14), .ref (md 15), .int (eI kn), .int (eI fo)])), ((md 1), aI cI 25 sc), ((md 2), aI cI 4 ln), ((md 3), aI cZ 4 cb), ((md 4), aI cZ 3 th), ((md 5), aI cI 3 pl), ((md 6), aI cI 3 lo), ((md 7), aI cI 3 pr), ((md 8), aI cI 30 la)] := hD
    refine lv_aload_n hx hb d_M_area_34 rfl (lv_at hl 0 rfl) ?_
    refine va_get (D := D) (ci := 5) (v := .int (eI 1)) (C := R_M) (T := T_M) (N := 23) hx hb htb in_M hown hK hP 0 rfl rfl 0 (by decide) (htb _ tb_588) (fun _ h9 => h9) rfl d_M_area_35 ?_
    refine we_if_le (tgt := 43) hx hb (by constructor <;> omega) d_M_area_38 rfl (fun hc38 => absurd hc38 (by omega)) (fun hc38 => ?_)
    refine lv_lconst (v := eL 0) hx hb d_M_area_41 (by decide) ?_
    have hres : (0 : Int) = (if (y < 0 ∨ (n : Int) ≤ y) then 0 else if (z < 0 ∨ 3 < z) then 0 else if z = 0 then ((cu y.toNat : Nat) : Int) else if z = 1 then ((cl y.toNat : Nat) : Int) else if z = 2 then ((fu y.toNat : Nat) : Int) else ((fl y.toNat : Nat) : Int)) := by rw [if_pos (by omega)]
    rw [hres]
    subst hQ
    exact W.lret hx hb hrt (fun t9 ht hW => ⟨⟨(1, up, lw), rfl, Or.inl ⟨by omega, rfl⟩, by rw [ht]; exact hP, hD⟩, hS.F ht⟩) hS.2.2 d_M_area_42
  ·
    refine lv_aload_n hx hb d_M_area_0 rfl (lv_at hl 0 rfl) ?_
    refine lv_iload_n hx hb d_M_area_1 rfl (lv_at hl 1 rfl) ?_
    refine we_if_lt (tgt := 13) hx hb (by constructor <;> omega) d_M_area_2 rfl (fun hc2 => absurd hc2 (by omega)) (fun hc2 => ?_)
    refine lv_iload_n hx hb d_M_area_5 rfl (lv_at hl 1 rfl) ?_
    refine lv_aload_n hx hb d_M_area_6 rfl (lv_at hl 0 rfl) ?_
    refine va_get (D := D) (ci := 5) (v := .int (eI ((n : Nat) : Int))) (C := R_M) (T := T_M) (N := 23) hx hb htb in_M hown hK hP 0 rfl rfl 1 (by decide) (htb _ tb_589) (fun _ h9 => h9) rfl d_M_area_7 ?_
    refine we_icmp_lt (tgt := 17) hx hb (by constructor <;> omega) (by constructor <;> omega) d_M_area_10 rfl (fun hc10 => absurd hc10 (by omega)) (fun hc10 => ?_)
    refine lv_iconst (v := eI 1) hx hb d_M_area_13 rfl ?_
    refine lv_goto (tgt := 31) hx hb d_M_area_14 rfl ?_
    refine va_put (D := D) (ci := 5) (v := .int (eI 1)) (ty := .int) (C := R_M) (T := T_M) (N := 23) hx hb htb in_M t_M t_M_ok n_M hown hK hP hD hS 0 rfl rfl 0 (by decide) (htb _ tb_588) (fun _ h9 => h9) rfl (by decide +kernel) rfl rfl (Nat.le_of_ble_eq_true rfl) d_M_area_31 (fun H locs hP hD hS => ?_)
    have hP : va_P D classes [((md 0), .inr (5, [.int (eI 1), .int (eI ((n : Nat) : Int)), .ref (md 1), .ref (md 2), .ref (md 3), .int (eI sh), .int (eI ra), .ref (md 4), .ref (md 5), .ref (md 6), .ref (md 7), .ref (md 8), .long (eL up), .long (eL lw), .ref (md 9), .ref (md 10), .ref (md 11), .ref (md 12), .ref (md 13), .ref (md 14), .ref (md 15), .int (eI kn), .int (eI fo)])), ((md 1), aI cI 25 sc), ((md 2), aI cI 4 ln), ((md 3), aI cZ 4 cb), ((md 4), aI cZ 3 th), ((md 5), aI cI 3 pl), ((md 6), aI cI 3 lo), ((md 7), aI cI 3 pr), ((md 8), aI cI 30 la)] H := hP
    have hD : va_D A [((md 0), .inr (5, [.int (eI 1), .int (eI ((n : Nat) : Int)), .ref (md 1), .ref (md 2), .ref (md 3), .int (eI sh), .int (eI ra), .ref (md 4), .ref (md 5), .ref (md 6), .ref (md 7), .ref (md 8), .long (eL up), .long (eL lw), .ref (md 9), .ref (md 10), .ref (md 11), .ref (md 12), .ref (md 13), .ref (md 14), .ref (md 15), .int (eI kn), .int (eI fo)])), ((md 1), aI cI 25 sc), ((md 2), aI cI 4 ln), ((md 3), aI cZ 4 cb), ((md 4), aI cZ 3 th), ((md 5), aI cI 3 pl), ((md 6), aI cI 3 lo), ((md 7), aI cI 3 pr), ((md 8), aI cI 30 la)] := hD
    refine lv_aload_n hx hb d_M_area_34 rfl (lv_at hl 0 rfl) ?_
    refine va_get (D := D) (ci := 5) (v := .int (eI 1)) (C := R_M) (T := T_M) (N := 23) hx hb htb in_M hown hK hP 0 rfl rfl 0 (by decide) (htb _ tb_588) (fun _ h9 => h9) rfl d_M_area_35 ?_
    refine we_if_le (tgt := 43) hx hb (by constructor <;> omega) d_M_area_38 rfl (fun hc38 => absurd hc38 (by omega)) (fun hc38 => ?_)
    refine lv_lconst (v := eL 0) hx hb d_M_area_41 (by decide) ?_
    have hres : (0 : Int) = (if (y < 0 ∨ (n : Int) ≤ y) then 0 else if (z < 0 ∨ 3 < z) then 0 else if z = 0 then ((cu y.toNat : Nat) : Int) else if z = 1 then ((cl y.toNat : Nat) : Int) else if z = 2 then ((fu y.toNat : Nat) : Int) else ((fl y.toNat : Nat) : Int)) := by rw [if_pos (by omega)]
    rw [hres]
    subst hQ
    exact W.lret hx hb hrt (fun t9 ht hW => ⟨⟨(1, up, lw), rfl, Or.inl ⟨by omega, rfl⟩, by rw [ht]; exact hP, hD⟩, hS.F ht⟩) hS.2.2 d_M_area_42
  ·
    rcases (show z < 0 ∨ 3 < z ∨ z = 0 ∨ z = 1 ∨ z = 2 ∨ z = 3 by omega) with hz9 | hz9 | hz9 | hz9 | hz9 | hz9
    ·
      refine lv_aload_n hx hb d_M_area_0 rfl (lv_at hl 0 rfl) ?_
      refine lv_iload_n hx hb d_M_area_1 rfl (lv_at hl 1 rfl) ?_
      refine we_if_lt (tgt := 13) hx hb (by constructor <;> omega) d_M_area_2 rfl (fun hc2 => absurd hc2 (by omega)) (fun hc2 => ?_)
      refine lv_iload_n hx hb d_M_area_5 rfl (lv_at hl 1 rfl) ?_
      refine lv_aload_n hx hb d_M_area_6 rfl (lv_at hl 0 rfl) ?_
      refine va_get (D := D) (ci := 5) (v := .int (eI ((n : Nat) : Int))) (C := R_M) (T := T_M) (N := 23) hx hb htb in_M hown hK hP 0 rfl rfl 1 (by decide) (htb _ tb_589) (fun _ h9 => h9) rfl d_M_area_7 ?_
      refine we_icmp_lt (tgt := 17) hx hb (by constructor <;> omega) (by constructor <;> omega) d_M_area_10 rfl (fun hc10 => ?_) (fun hc10 => absurd hc10 (by omega))
      refine lv_iload_n hx hb d_M_area_17 rfl (lv_at hl 2 rfl) ?_
      refine we_if_lt (tgt := 26) hx hb (by constructor <;> omega) d_M_area_18 rfl (fun hc18 => ?_) (fun hc18 => absurd hc18 (by omega))
      refine lv_iconst (v := eI 2) hx hb d_M_area_26 rfl ?_
      refine lv_goto (tgt := 31) hx hb d_M_area_27 rfl ?_
      refine va_put (D := D) (ci := 5) (v := .int (eI 2)) (ty := .int) (C := R_M) (T := T_M) (N := 23) hx hb htb in_M t_M t_M_ok n_M hown hK hP hD hS 0 rfl rfl 0 (by decide) (htb _ tb_588) (fun _ h9 => h9) rfl (by decide +kernel) rfl rfl (Nat.le_of_ble_eq_true rfl) d_M_area_31 (fun H locs hP hD hS => ?_)
      have hP : va_P D classes [((md 0), .inr (5, [.int (eI 2), .int (eI ((n : Nat) : Int)), .ref (md 1), .ref (md 2), .ref (md 3), .int (eI sh), .int (eI ra), .ref (md 4), .ref (md 5), .ref (md 6), .ref (md 7), .ref (md 8), .long (eL up), .long (eL lw), .ref (md 9), .ref (md 10), .ref (md 11), .ref (md 12), .ref (md 13), .ref (md 14), .ref (md 15), .int (eI kn), .int (eI fo)])), ((md 1), aI cI 25 sc), ((md 2), aI cI 4 ln), ((md 3), aI cZ 4 cb), ((md 4), aI cZ 3 th), ((md 5), aI cI 3 pl), ((md 6), aI cI 3 lo), ((md 7), aI cI 3 pr), ((md 8), aI cI 30 la)] H := hP
      have hD : va_D A [((md 0), .inr (5, [.int (eI 2), .int (eI ((n : Nat) : Int)), .ref (md 1), .ref (md 2), .ref (md 3), .int (eI sh), .int (eI ra), .ref (md 4), .ref (md 5), .ref (md 6), .ref (md 7), .ref (md 8), .long (eL up), .long (eL lw), .ref (md 9), .ref (md 10), .ref (md 11), .ref (md 12), .ref (md 13), .ref (md 14), .ref (md 15), .int (eI kn), .int (eI fo)])), ((md 1), aI cI 25 sc), ((md 2), aI cI 4 ln), ((md 3), aI cZ 4 cb), ((md 4), aI cZ 3 th), ((md 5), aI cI 3 pl), ((md 6), aI cI 3 lo), ((md 7), aI cI 3 pr), ((md 8), aI cI 30 la)] := hD
      refine lv_aload_n hx hb d_M_area_34 rfl (lv_at hl 0 rfl) ?_
      refine va_get (D := D) (ci := 5) (v := .int (eI 2)) (C := R_M) (T := T_M) (N := 23) hx hb htb in_M hown hK hP 0 rfl rfl 0 (by decide) (htb _ tb_588) (fun _ h9 => h9) rfl d_M_area_35 ?_
      refine we_if_le (tgt := 43) hx hb (by constructor <;> omega) d_M_area_38 rfl (fun hc38 => absurd hc38 (by omega)) (fun hc38 => ?_)
      refine lv_lconst (v := eL 0) hx hb d_M_area_41 (by decide) ?_
      have hres : (0 : Int) = (if (y < 0 ∨ (n : Int) ≤ y) then 0 else if (z < 0 ∨ 3 < z) then 0 else if z = 0 then ((cu y.toNat : Nat) : Int) else if z = 1 then ((cl y.toNat : Nat) : Int) else if z = 2 then ((fu y.toNat : Nat) : Int) else ((fl y.toNat : Nat) : Int)) := by rw [if_neg (by omega), if_pos (by omega)]
      rw [hres]
      subst hQ
      exact W.lret hx hb hrt (fun t9 ht hW => ⟨⟨(2, up, lw), rfl, Or.inr (Or.inl ⟨by omega, by omega, rfl⟩), by rw [ht]; exact hP, hD⟩, hS.F ht⟩) hS.2.2 d_M_area_42
    ·
      refine lv_aload_n hx hb d_M_area_0 rfl (lv_at hl 0 rfl) ?_
      refine lv_iload_n hx hb d_M_area_1 rfl (lv_at hl 1 rfl) ?_
      refine we_if_lt (tgt := 13) hx hb (by constructor <;> omega) d_M_area_2 rfl (fun hc2 => absurd hc2 (by omega)) (fun hc2 => ?_)
      refine lv_iload_n hx hb d_M_area_5 rfl (lv_at hl 1 rfl) ?_
      refine lv_aload_n hx hb d_M_area_6 rfl (lv_at hl 0 rfl) ?_
      refine va_get (D := D) (ci := 5) (v := .int (eI ((n : Nat) : Int))) (C := R_M) (T := T_M) (N := 23) hx hb htb in_M hown hK hP 0 rfl rfl 1 (by decide) (htb _ tb_589) (fun _ h9 => h9) rfl d_M_area_7 ?_
      refine we_icmp_lt (tgt := 17) hx hb (by constructor <;> omega) (by constructor <;> omega) d_M_area_10 rfl (fun hc10 => ?_) (fun hc10 => absurd hc10 (by omega))
      refine lv_iload_n hx hb d_M_area_17 rfl (lv_at hl 2 rfl) ?_
      refine we_if_lt (tgt := 26) hx hb (by constructor <;> omega) d_M_area_18 rfl (fun hc18 => absurd hc18 (by omega)) (fun hc18 => ?_)
      refine lv_iload_n hx hb d_M_area_21 rfl (lv_at hl 2 rfl) ?_
      refine lv_iconst (v := eI 3) hx hb d_M_area_22 rfl ?_
      refine we_icmp_le (tgt := 30) hx hb (by constructor <;> omega) (by constructor <;> omega) d_M_area_23 rfl (fun hc23 => absurd hc23 (by omega)) (fun hc23 => ?_)
      refine lv_iconst (v := eI 2) hx hb d_M_area_26 rfl ?_
      refine lv_goto (tgt := 31) hx hb d_M_area_27 rfl ?_
      refine va_put (D := D) (ci := 5) (v := .int (eI 2)) (ty := .int) (C := R_M) (T := T_M) (N := 23) hx hb htb in_M t_M t_M_ok n_M hown hK hP hD hS 0 rfl rfl 0 (by decide) (htb _ tb_588) (fun _ h9 => h9) rfl (by decide +kernel) rfl rfl (Nat.le_of_ble_eq_true rfl) d_M_area_31 (fun H locs hP hD hS => ?_)
      have hP : va_P D classes [((md 0), .inr (5, [.int (eI 2), .int (eI ((n : Nat) : Int)), .ref (md 1), .ref (md 2), .ref (md 3), .int (eI sh), .int (eI ra), .ref (md 4), .ref (md 5), .ref (md 6), .ref (md 7), .ref (md 8), .long (eL up), .long (eL lw), .ref (md 9), .ref (md 10), .ref (md 11), .ref (md 12), .ref (md 13), .ref (md 14), .ref (md 15), .int (eI kn), .int (eI fo)])), ((md 1), aI cI 25 sc), ((md 2), aI cI 4 ln), ((md 3), aI cZ 4 cb), ((md 4), aI cZ 3 th), ((md 5), aI cI 3 pl), ((md 6), aI cI 3 lo), ((md 7), aI cI 3 pr), ((md 8), aI cI 30 la)] H := hP
      have hD : va_D A [((md 0), .inr (5, [.int (eI 2), .int (eI ((n : Nat) : Int)), .ref (md 1), .ref (md 2), .ref (md 3), .int (eI sh), .int (eI ra), .ref (md 4), .ref (md 5), .ref (md 6), .ref (md 7), .ref (md 8), .long (eL up), .long (eL lw), .ref (md 9), .ref (md 10), .ref (md 11), .ref (md 12), .ref (md 13), .ref (md 14), .ref (md 15), .int (eI kn), .int (eI fo)])), ((md 1), aI cI 25 sc), ((md 2), aI cI 4 ln), ((md 3), aI cZ 4 cb), ((md 4), aI cZ 3 th), ((md 5), aI cI 3 pl), ((md 6), aI cI 3 lo), ((md 7), aI cI 3 pr), ((md 8), aI cI 30 la)] := hD
      refine lv_aload_n hx hb d_M_area_34 rfl (lv_at hl 0 rfl) ?_
      refine va_get (D := D) (ci := 5) (v := .int (eI 2)) (C := R_M) (T := T_M) (N := 23) hx hb htb in_M hown hK hP 0 rfl rfl 0 (by decide) (htb _ tb_588) (fun _ h9 => h9) rfl d_M_area_35 ?_
      refine we_if_le (tgt := 43) hx hb (by constructor <;> omega) d_M_area_38 rfl (fun hc38 => absurd hc38 (by omega)) (fun hc38 => ?_)
      refine lv_lconst (v := eL 0) hx hb d_M_area_41 (by decide) ?_
      have hres : (0 : Int) = (if (y < 0 ∨ (n : Int) ≤ y) then 0 else if (z < 0 ∨ 3 < z) then 0 else if z = 0 then ((cu y.toNat : Nat) : Int) else if z = 1 then ((cl y.toNat : Nat) : Int) else if z = 2 then ((fu y.toNat : Nat) : Int) else ((fl y.toNat : Nat) : Int)) := by rw [if_neg (by omega), if_pos (by omega)]
      rw [hres]
      subst hQ
      exact W.lret hx hb hrt (fun t9 ht hW => ⟨⟨(2, up, lw), rfl, Or.inr (Or.inl ⟨by omega, by omega, rfl⟩), by rw [ht]; exact hP, hD⟩, hS.F ht⟩) hS.2.2 d_M_area_42
    ·
      refine lv_aload_n hx hb d_M_area_0 rfl (lv_at hl 0 rfl) ?_
      refine lv_iload_n hx hb d_M_area_1 rfl (lv_at hl 1 rfl) ?_
      refine we_if_lt (tgt := 13) hx hb (by constructor <;> omega) d_M_area_2 rfl (fun hc2 => absurd hc2 (by omega)) (fun hc2 => ?_)
      refine lv_iload_n hx hb d_M_area_5 rfl (lv_at hl 1 rfl) ?_
      refine lv_aload_n hx hb d_M_area_6 rfl (lv_at hl 0 rfl) ?_
      refine va_get (D := D) (ci := 5) (v := .int (eI ((n : Nat) : Int))) (C := R_M) (T := T_M) (N := 23) hx hb htb in_M hown hK hP 0 rfl rfl 1 (by decide) (htb _ tb_589) (fun _ h9 => h9) rfl d_M_area_7 ?_
      refine we_icmp_lt (tgt := 17) hx hb (by constructor <;> omega) (by constructor <;> omega) d_M_area_10 rfl (fun hc10 => ?_) (fun hc10 => absurd hc10 (by omega))
      refine lv_iload_n hx hb d_M_area_17 rfl (lv_at hl 2 rfl) ?_
      refine we_if_lt (tgt := 26) hx hb (by constructor <;> omega) d_M_area_18 rfl (fun hc18 => absurd hc18 (by omega)) (fun hc18 => ?_)
      refine lv_iload_n hx hb d_M_area_21 rfl (lv_at hl 2 rfl) ?_
      refine lv_iconst (v := eI 3) hx hb d_M_area_22 rfl ?_
      refine we_icmp_le (tgt := 30) hx hb (by constructor <;> omega) (by constructor <;> omega) d_M_area_23 rfl (fun hc23 => ?_) (fun hc23 => absurd hc23 (by omega))
      refine lv_iconst (v := eI 0) hx hb d_M_area_30 rfl ?_
      refine va_put (D := D) (ci := 5) (v := .int (eI 0)) (ty := .int) (C := R_M) (T := T_M) (N := 23) hx hb htb in_M t_M t_M_ok n_M hown hK hP hD hS 0 rfl rfl 0 (by decide) (htb _ tb_588) (fun _ h9 => h9) rfl (by decide +kernel) rfl rfl (Nat.le_of_ble_eq_true rfl) d_M_area_31 (fun H locs hP hD hS => ?_)
      have hP : va_P D classes [((md 0), .inr (5, [.int (eI 0), .int (eI ((n : Nat) : Int)), .ref (md 1), .ref (md 2), .ref (md 3), .int (eI sh), .int (eI ra), .ref (md 4), .ref (md 5), .ref (md 6), .ref (md 7), .ref (md 8), .long (eL up), .long (eL lw), .ref (md 9), .ref (md 10), .ref (md 11), .ref (md 12), .ref (md 13), .ref (md 14), .ref (md 15), .int (eI kn), .int (eI fo)])), ((md 1), aI cI 25 sc), ((md 2), aI cI 4 ln), ((md 3), aI cZ 4 cb), ((md 4), aI cZ 3 th), ((md 5), aI cI 3 pl), ((md 6), aI cI 3 lo), ((md 7), aI cI 3 pr), ((md 8), aI cI 30 la)] H := hP
      have hD : va_D A [((md 0), .inr (5, [.int (eI 0), .int (eI ((n : Nat) : Int)), .ref (md 1), .ref (md 2), .ref (md 3), .int (eI sh), .int (eI ra), .ref (md 4), .ref (md 5), .ref (md 6), .ref (md 7), .ref (md 8), .long (eL up), .long (eL lw), .ref (md 9), .ref (md 10), .ref (md 11), .ref (md 12), .ref (md 13), .ref (md 14), .ref (md 15), .int (eI kn), .int (eI fo)])), ((md 1), aI cI 25 sc), ((md 2), aI cI 4 ln), ((md 3), aI cZ 4 cb), ((md 4), aI cZ 3 th), ((md 5), aI cI 3 pl), ((md 6), aI cI 3 lo), ((md 7), aI cI 3 pr), ((md 8), aI cI 30 la)] := hD
      refine lv_aload_n hx hb d_M_area_34 rfl (lv_at hl 0 rfl) ?_
      refine va_get (D := D) (ci := 5) (v := .int (eI 0)) (C := R_M) (T := T_M) (N := 23) hx hb htb in_M hown hK hP 0 rfl rfl 0 (by decide) (htb _ tb_588) (fun _ h9 => h9) rfl d_M_area_35 ?_
      refine we_if_le (tgt := 43) hx hb (by constructor <;> omega) d_M_area_38 rfl (fun hc38 => ?_) (fun hc38 => absurd hc38 (by omega))
      refine lv_aload_n hx hb d_M_area_43 rfl (lv_at hl 0 rfl) ?_
      refine lv_iload_n hx hb d_M_area_44 rfl (lv_at hl 1 rfl) ?_
      refine lv_iload_n hx hb d_M_area_45 rfl (lv_at hl 2 rfl) ?_
      refine lv_iconst (v := eI 2) hx hb d_M_area_46 rfl ?_
      refine we_icmp_ge (tgt := 54) hx hb (by constructor <;> omega) (by constructor <;> omega) d_M_area_47 rfl (fun hc47 => absurd hc47 (by omega)) (fun hc47 => ?_)
      refine lv_iconst (v := eI 1) hx hb d_M_area_50 rfl ?_
      refine lv_goto (tgt := 55) hx hb d_M_area_51 rfl ?_
      refine eh_cMV (As := [.int (eI y), .int (eI 1)]) (rest := []) (q := (R_M, T_M, 23)) (wr := []) hx hb hml hown htb hN (by have z9 := m_M_reckon_1 l D cI cL cZ md 0 n sh ra up lw kn fo sc ln cb th pl lo pr la cu cl fu fl ys yl yp y.toNat (by omega) hM; rw [show ((y.toNat : Nat) : Int) = y by omega] at z9; exact z9) 2 ⟨tb_694, tb_696, ts_30, tb_7, kin_M_reckon⟩ dv_M_reckon ⟨by rw [hR1]; decide, by rw [hR2]; decide⟩ hK hP hD hS hA 0 rfl rfl [0, 1, 2, 3, 4, 5, 6, 7, 8] [] rfl rfl (by decide) rfl (by decide) (by decide) [0, 1, 2] rfl rfl rfl hl.1 (Nat.le_of_ble_eq_true rfl) d_M_area_55 ⟨Nat.zero_le _, Nat.zero_le _⟩ (fun u H locs hu hP hD hS => ?_)
      have hP := hP.sub (ws' := [((md 0), .inr (5, [.int (eI 0), .int (eI ((n : Nat) : Int)), .ref (md 1), .ref (md 2), .ref (md 3), .int (eI sh), .int (eI ra), .ref (md 4), .ref (md 5), .ref (md 6), .ref (md 7), .ref (md 8), .long (eL ((cu y.toNat : Nat) : Int)), .long (eL ((cl y.toNat : Nat) : Int)), .ref (md 9), .ref (md 10), .ref (md 11), .ref (md 12), .ref (md 13), .ref (md 14), .ref (md 15), .int (eI kn), .int (eI fo)])), ((md 1), aI cI 25 sc), ((md 2), aI cI 4 ln), ((md 3), aI cZ 4 cb), ((md 4), aI cZ 3 th), ((md 5), aI cI 3 pl), ((md 6), aI cI 3 lo), ((md 7), aI cI 3 pr), ((md 8), aI cI 30 la)]) [0, 1, 2, 3, 4, 5, 6, 7, 8] rfl
      have hD := hD.sub (ws' := [((md 0), .inr (5, [.int (eI 0), .int (eI ((n : Nat) : Int)), .ref (md 1), .ref (md 2), .ref (md 3), .int (eI sh), .int (eI ra), .ref (md 4), .ref (md 5), .ref (md 6), .ref (md 7), .ref (md 8), .long (eL ((cu y.toNat : Nat) : Int)), .long (eL ((cl y.toNat : Nat) : Int)), .ref (md 9), .ref (md 10), .ref (md 11), .ref (md 12), .ref (md 13), .ref (md 14), .ref (md 15), .int (eI kn), .int (eI fo)])), ((md 1), aI cI 25 sc), ((md 2), aI cI 4 ln), ((md 3), aI cZ 4 cb), ((md 4), aI cZ 3 th), ((md 5), aI cI 3 pl), ((md 6), aI cI 3 lo), ((md 7), aI cI 3 pr), ((md 8), aI cI 30 la)]) [0, 1, 2, 3, 4, 5, 6, 7, 8] (by decide) rfl
      refine lv_iload_n hx hb d_M_area_58 rfl (lv_at hl 2 rfl) ?_
      refine lv_iconst (v := eI 2) hx hb d_M_area_59 rfl ?_
      refine we_irem hx hb (by constructor <;> omega) (by constructor <;> omega) (by omega) (by omega) d_M_area_60 ?_
      refine we_if_ne (tgt := 71) hx hb (by constructor <;> omega) d_M_area_61 rfl (fun hc61 => absurd hc61 (by omega)) (fun hc61 => ?_)
      refine lv_aload_n hx hb d_M_area_64 rfl (lv_at hl 0 rfl) ?_
      refine va_get (D := D) (ci := 5) (v := .long (eL ((cu y.toNat : Nat) : Int))) (C := R_M) (T := T_M) (N := 23) hx hb htb in_M hown hK hP 0 rfl rfl 12 (by decide) (htb _ tb_600) (fun _ h9 => h9) rfl d_M_area_65 ?_
      refine lv_goto (tgt := 75) hx hb d_M_area_68 rfl ?_
      have hres : (((cu y.toNat : Nat) : Int) : Int) = (if (y < 0 ∨ (n : Int) ≤ y) then 0 else if (z < 0 ∨ 3 < z) then 0 else if z = 0 then ((cu y.toNat : Nat) : Int) else if z = 1 then ((cl y.toNat : Nat) : Int) else if z = 2 then ((fu y.toNat : Nat) : Int) else ((fl y.toNat : Nat) : Int)) := by rw [if_neg (by omega), if_neg (by omega), if_pos (by omega)]
      rw [hres]
      subst hQ
      exact W.lret hx hb hrt (fun t9 ht hW => ⟨⟨(0, ((cu y.toNat : Nat) : Int), ((cl y.toNat : Nat) : Int)), rfl, Or.inr (Or.inr ⟨by omega, by omega, rfl⟩), by rw [ht]; exact hP, hD⟩, hS.F ht⟩) hS.2.2 d_M_area_75
    ·
      refine lv_aload_n hx hb d_M_area_0 rfl (lv_at hl 0 rfl) ?_
      refine lv_iload_n hx hb d_M_area_1 rfl (lv_at hl 1 rfl) ?_
      refine we_if_lt (tgt := 13) hx hb (by constructor <;> omega) d_M_area_2 rfl (fun hc2 => absurd hc2 (by omega)) (fun hc2 => ?_)
      refine lv_iload_n hx hb d_M_area_5 rfl (lv_at hl 1 rfl) ?_
      refine lv_aload_n hx hb d_M_area_6 rfl (lv_at hl 0 rfl) ?_
      refine va_get (D := D) (ci := 5) (v := .int (eI ((n : Nat) : Int))) (C := R_M) (T := T_M) (N := 23) hx hb htb in_M hown hK hP 0 rfl rfl 1 (by decide) (htb _ tb_589) (fun _ h9 => h9) rfl d_M_area_7 ?_
      refine we_icmp_lt (tgt := 17) hx hb (by constructor <;> omega) (by constructor <;> omega) d_M_area_10 rfl (fun hc10 => ?_) (fun hc10 => absurd hc10 (by omega))
      refine lv_iload_n hx hb d_M_area_17 rfl (lv_at hl 2 rfl) ?_
      refine we_if_lt (tgt := 26) hx hb (by constructor <;> omega) d_M_area_18 rfl (fun hc18 => absurd hc18 (by omega)) (fun hc18 => ?_)
      refine lv_iload_n hx hb d_M_area_21 rfl (lv_at hl 2 rfl) ?_
      refine lv_iconst (v := eI 3) hx hb d_M_area_22 rfl ?_
      refine we_icmp_le (tgt := 30) hx hb (by constructor <;> omega) (by constructor <;> omega) d_M_area_23 rfl (fun hc23 => ?_) (fun hc23 => absurd hc23 (by omega))
      refine lv_iconst (v := eI 0) hx hb d_M_area_30 rfl ?_
      refine va_put (D := D) (ci := 5) (v := .int (eI 0)) (ty := .int) (C := R_M) (T := T_M) (N := 23) hx hb htb in_M t_M t_M_ok n_M hown hK hP hD hS 0 rfl rfl 0 (by decide) (htb _ tb_588) (fun _ h9 => h9) rfl (by decide +kernel) rfl rfl (Nat.le_of_ble_eq_true rfl) d_M_area_31 (fun H locs hP hD hS => ?_)
      have hP : va_P D classes [((md 0), .inr (5, [.int (eI 0), .int (eI ((n : Nat) : Int)), .ref (md 1), .ref (md 2), .ref (md 3), .int (eI sh), .int (eI ra), .ref (md 4), .ref (md 5), .ref (md 6), .ref (md 7), .ref (md 8), .long (eL up), .long (eL lw), .ref (md 9), .ref (md 10), .ref (md 11), .ref (md 12), .ref (md 13), .ref (md 14), .ref (md 15), .int (eI kn), .int (eI fo)])), ((md 1), aI cI 25 sc), ((md 2), aI cI 4 ln), ((md 3), aI cZ 4 cb), ((md 4), aI cZ 3 th), ((md 5), aI cI 3 pl), ((md 6), aI cI 3 lo), ((md 7), aI cI 3 pr), ((md 8), aI cI 30 la)] H := hP
      have hD : va_D A [((md 0), .inr (5, [.int (eI 0), .int (eI ((n : Nat) : Int)), .ref (md 1), .ref (md 2), .ref (md 3), .int (eI sh), .int (eI ra), .ref (md 4), .ref (md 5), .ref (md 6), .ref (md 7), .ref (md 8), .long (eL up), .long (eL lw), .ref (md 9), .ref (md 10), .ref (md 11), .ref (md 12), .ref (md 13), .ref (md 14), .ref (md 15), .int (eI kn), .int (eI fo)])), ((md 1), aI cI 25 sc), ((md 2), aI cI 4 ln), ((md 3), aI cZ 4 cb), ((md 4), aI cZ 3 th), ((md 5), aI cI 3 pl), ((md 6), aI cI 3 lo), ((md 7), aI cI 3 pr), ((md 8), aI cI 30 la)] := hD
      refine lv_aload_n hx hb d_M_area_34 rfl (lv_at hl 0 rfl) ?_
      refine va_get (D := D) (ci := 5) (v := .int (eI 0)) (C := R_M) (T := T_M) (N := 23) hx hb htb in_M hown hK hP 0 rfl rfl 0 (by decide) (htb _ tb_588) (fun _ h9 => h9) rfl d_M_area_35 ?_
      refine we_if_le (tgt := 43) hx hb (by constructor <;> omega) d_M_area_38 rfl (fun hc38 => ?_) (fun hc38 => absurd hc38 (by omega))
      refine lv_aload_n hx hb d_M_area_43 rfl (lv_at hl 0 rfl) ?_
      refine lv_iload_n hx hb d_M_area_44 rfl (lv_at hl 1 rfl) ?_
      refine lv_iload_n hx hb d_M_area_45 rfl (lv_at hl 2 rfl) ?_
      refine lv_iconst (v := eI 2) hx hb d_M_area_46 rfl ?_
      refine we_icmp_ge (tgt := 54) hx hb (by constructor <;> omega) (by constructor <;> omega) d_M_area_47 rfl (fun hc47 => absurd hc47 (by omega)) (fun hc47 => ?_)
      refine lv_iconst (v := eI 1) hx hb d_M_area_50 rfl ?_
      refine lv_goto (tgt := 55) hx hb d_M_area_51 rfl ?_
      refine eh_cMV (As := [.int (eI y), .int (eI 1)]) (rest := []) (q := (R_M, T_M, 23)) (wr := []) hx hb hml hown htb hN (by have z9 := m_M_reckon_1 l D cI cL cZ md 0 n sh ra up lw kn fo sc ln cb th pl lo pr la cu cl fu fl ys yl yp y.toNat (by omega) hM; rw [show ((y.toNat : Nat) : Int) = y by omega] at z9; exact z9) 2 ⟨tb_694, tb_696, ts_30, tb_7, kin_M_reckon⟩ dv_M_reckon ⟨by rw [hR1]; decide, by rw [hR2]; decide⟩ hK hP hD hS hA 0 rfl rfl [0, 1, 2, 3, 4, 5, 6, 7, 8] [] rfl rfl (by decide) rfl (by decide) (by decide) [0, 1, 2] rfl rfl rfl hl.1 (Nat.le_of_ble_eq_true rfl) d_M_area_55 ⟨Nat.zero_le _, Nat.zero_le _⟩ (fun u H locs hu hP hD hS => ?_)
      have hP := hP.sub (ws' := [((md 0), .inr (5, [.int (eI 0), .int (eI ((n : Nat) : Int)), .ref (md 1), .ref (md 2), .ref (md 3), .int (eI sh), .int (eI ra), .ref (md 4), .ref (md 5), .ref (md 6), .ref (md 7), .ref (md 8), .long (eL ((cu y.toNat : Nat) : Int)), .long (eL ((cl y.toNat : Nat) : Int)), .ref (md 9), .ref (md 10), .ref (md 11), .ref (md 12), .ref (md 13), .ref (md 14), .ref (md 15), .int (eI kn), .int (eI fo)])), ((md 1), aI cI 25 sc), ((md 2), aI cI 4 ln), ((md 3), aI cZ 4 cb), ((md 4), aI cZ 3 th), ((md 5), aI cI 3 pl), ((md 6), aI cI 3 lo), ((md 7), aI cI 3 pr), ((md 8), aI cI 30 la)]) [0, 1, 2, 3, 4, 5, 6, 7, 8] rfl
      have hD := hD.sub (ws' := [((md 0), .inr (5, [.int (eI 0), .int (eI ((n : Nat) : Int)), .ref (md 1), .ref (md 2), .ref (md 3), .int (eI sh), .int (eI ra), .ref (md 4), .ref (md 5), .ref (md 6), .ref (md 7), .ref (md 8), .long (eL ((cu y.toNat : Nat) : Int)), .long (eL ((cl y.toNat : Nat) : Int)), .ref (md 9), .ref (md 10), .ref (md 11), .ref (md 12), .ref (md 13), .ref (md 14), .ref (md 15), .int (eI kn), .int (eI fo)])), ((md 1), aI cI 25 sc), ((md 2), aI cI 4 ln), ((md 3), aI cZ 4 cb), ((md 4), aI cZ 3 th), ((md 5), aI cI 3 pl), ((md 6), aI cI 3 lo), ((md 7), aI cI 3 pr), ((md 8), aI cI 30 la)]) [0, 1, 2, 3, 4, 5, 6, 7, 8] (by decide) rfl
      refine lv_iload_n hx hb d_M_area_58 rfl (lv_at hl 2 rfl) ?_
      refine lv_iconst (v := eI 2) hx hb d_M_area_59 rfl ?_
      refine we_irem hx hb (by constructor <;> omega) (by constructor <;> omega) (by omega) (by omega) d_M_area_60 ?_
      refine we_if_ne (tgt := 71) hx hb (by constructor <;> omega) d_M_area_61 rfl (fun hc61 => ?_) (fun hc61 => absurd hc61 (by omega))
      refine lv_aload_n hx hb d_M_area_71 rfl (lv_at hl 0 rfl) ?_
      refine va_get (D := D) (ci := 5) (v := .long (eL ((cl y.toNat : Nat) : Int))) (C := R_M) (T := T_M) (N := 23) hx hb htb in_M hown hK hP 0 rfl rfl 13 (by decide) (htb _ tb_601) (fun _ h9 => h9) rfl d_M_area_72 ?_
      have hres : (((cl y.toNat : Nat) : Int) : Int) = (if (y < 0 ∨ (n : Int) ≤ y) then 0 else if (z < 0 ∨ 3 < z) then 0 else if z = 0 then ((cu y.toNat : Nat) : Int) else if z = 1 then ((cl y.toNat : Nat) : Int) else if z = 2 then ((fu y.toNat : Nat) : Int) else ((fl y.toNat : Nat) : Int)) := by rw [if_neg (by omega), if_neg (by omega), if_neg (by omega), if_pos (by omega)]
      rw [hres]
      subst hQ
      exact W.lret hx hb hrt (fun t9 ht hW => ⟨⟨(0, ((cu y.toNat : Nat) : Int), ((cl y.toNat : Nat) : Int)), rfl, Or.inr (Or.inr ⟨by omega, by omega, rfl⟩), by rw [ht]; exact hP, hD⟩, hS.F ht⟩) hS.2.2 d_M_area_75
    ·
      refine lv_aload_n hx hb d_M_area_0 rfl (lv_at hl 0 rfl) ?_
      refine lv_iload_n hx hb d_M_area_1 rfl (lv_at hl 1 rfl) ?_
      refine we_if_lt (tgt := 13) hx hb (by constructor <;> omega) d_M_area_2 rfl (fun hc2 => absurd hc2 (by omega)) (fun hc2 => ?_)
      refine lv_iload_n hx hb d_M_area_5 rfl (lv_at hl 1 rfl) ?_
      refine lv_aload_n hx hb d_M_area_6 rfl (lv_at hl 0 rfl) ?_
      refine va_get (D := D) (ci := 5) (v := .int (eI ((n : Nat) : Int))) (C := R_M) (T := T_M) (N := 23) hx hb htb in_M hown hK hP 0 rfl rfl 1 (by decide) (htb _ tb_589) (fun _ h9 => h9) rfl d_M_area_7 ?_
      refine we_icmp_lt (tgt := 17) hx hb (by constructor <;> omega) (by constructor <;> omega) d_M_area_10 rfl (fun hc10 => ?_) (fun hc10 => absurd hc10 (by omega))
      refine lv_iload_n hx hb d_M_area_17 rfl (lv_at hl 2 rfl) ?_
      refine we_if_lt (tgt := 26) hx hb (by constructor <;> omega) d_M_area_18 rfl (fun hc18 => absurd hc18 (by omega)) (fun hc18 => ?_)
      refine lv_iload_n hx hb d_M_area_21 rfl (lv_at hl 2 rfl) ?_
      refine lv_iconst (v := eI 3) hx hb d_M_area_22 rfl ?_
      refine we_icmp_le (tgt := 30) hx hb (by constructor <;> omega) (by constructor <;> omega) d_M_area_23 rfl (fun hc23 => ?_) (fun hc23 => absurd hc23 (by omega))
      refine lv_iconst (v := eI 0) hx hb d_M_area_30 rfl ?_
      refine va_put (D := D) (ci := 5) (v := .int (eI 0)) (ty := .int) (C := R_M) (T := T_M) (N := 23) hx hb htb in_M t_M t_M_ok n_M hown hK hP hD hS 0 rfl rfl 0 (by decide) (htb _ tb_588) (fun _ h9 => h9) rfl (by decide +kernel) rfl rfl (Nat.le_of_ble_eq_true rfl) d_M_area_31 (fun H locs hP hD hS => ?_)
      have hP : va_P D classes [((md 0), .inr (5, [.int (eI 0), .int (eI ((n : Nat) : Int)), .ref (md 1), .ref (md 2), .ref (md 3), .int (eI sh), .int (eI ra), .ref (md 4), .ref (md 5), .ref (md 6), .ref (md 7), .ref (md 8), .long (eL up), .long (eL lw), .ref (md 9), .ref (md 10), .ref (md 11), .ref (md 12), .ref (md 13), .ref (md 14), .ref (md 15), .int (eI kn), .int (eI fo)])), ((md 1), aI cI 25 sc), ((md 2), aI cI 4 ln), ((md 3), aI cZ 4 cb), ((md 4), aI cZ 3 th), ((md 5), aI cI 3 pl), ((md 6), aI cI 3 lo), ((md 7), aI cI 3 pr), ((md 8), aI cI 30 la)] H := hP
      have hD : va_D A [((md 0), .inr (5, [.int (eI 0), .int (eI ((n : Nat) : Int)), .ref (md 1), .ref (md 2), .ref (md 3), .int (eI sh), .int (eI ra), .ref (md 4), .ref (md 5), .ref (md 6), .ref (md 7), .ref (md 8), .long (eL up), .long (eL lw), .ref (md 9), .ref (md 10), .ref (md 11), .ref (md 12), .ref (md 13), .ref (md 14), .ref (md 15), .int (eI kn), .int (eI fo)])), ((md 1), aI cI 25 sc), ((md 2), aI cI 4 ln), ((md 3), aI cZ 4 cb), ((md 4), aI cZ 3 th), ((md 5), aI cI 3 pl), ((md 6), aI cI 3 lo), ((md 7), aI cI 3 pr), ((md 8), aI cI 30 la)] := hD
      refine lv_aload_n hx hb d_M_area_34 rfl (lv_at hl 0 rfl) ?_
      refine va_get (D := D) (ci := 5) (v := .int (eI 0)) (C := R_M) (T := T_M) (N := 23) hx hb htb in_M hown hK hP 0 rfl rfl 0 (by decide) (htb _ tb_588) (fun _ h9 => h9) rfl d_M_area_35 ?_
      refine we_if_le (tgt := 43) hx hb (by constructor <;> omega) d_M_area_38 rfl (fun hc38 => ?_) (fun hc38 => absurd hc38 (by omega))
      refine lv_aload_n hx hb d_M_area_43 rfl (lv_at hl 0 rfl) ?_
      refine lv_iload_n hx hb d_M_area_44 rfl (lv_at hl 1 rfl) ?_
      refine lv_iload_n hx hb d_M_area_45 rfl (lv_at hl 2 rfl) ?_
      refine lv_iconst (v := eI 2) hx hb d_M_area_46 rfl ?_
      refine we_icmp_ge (tgt := 54) hx hb (by constructor <;> omega) (by constructor <;> omega) d_M_area_47 rfl (fun hc47 => ?_) (fun hc47 => absurd hc47 (by omega))
      refine lv_iconst (v := eI 0) hx hb d_M_area_54 rfl ?_
      refine eh_cMV (As := [.int (eI y), .int (eI 0)]) (rest := []) (q := (R_M, T_M, 23)) (wr := []) hx hb hml hown htb hN (by have z9 := m_M_reckon_0 l D cI cL cZ md 0 n sh ra up lw kn fo sc ln cb th pl lo pr la cu cl fu fl ys yl yp y.toNat (by omega) hM; rw [show ((y.toNat : Nat) : Int) = y by omega] at z9; exact z9) 2 ⟨tb_694, tb_696, ts_30, tb_7, kin_M_reckon⟩ dv_M_reckon ⟨by rw [hR1]; decide, by rw [hR2]; decide⟩ hK hP hD hS hA 0 rfl rfl [0, 1, 2, 3, 4, 5, 6, 7, 8] [] rfl rfl (by decide) rfl (by decide) (by decide) [0, 1, 2] rfl rfl rfl hl.1 (Nat.le_of_ble_eq_true rfl) d_M_area_55 ⟨Nat.zero_le _, Nat.zero_le _⟩ (fun u H locs hu hP hD hS => ?_)
      have hP := hP.sub (ws' := [((md 0), .inr (5, [.int (eI 0), .int (eI ((n : Nat) : Int)), .ref (md 1), .ref (md 2), .ref (md 3), .int (eI sh), .int (eI ra), .ref (md 4), .ref (md 5), .ref (md 6), .ref (md 7), .ref (md 8), .long (eL ((fu y.toNat : Nat) : Int)), .long (eL ((fl y.toNat : Nat) : Int)), .ref (md 9), .ref (md 10), .ref (md 11), .ref (md 12), .ref (md 13), .ref (md 14), .ref (md 15), .int (eI kn), .int (eI fo)])), ((md 1), aI cI 25 sc), ((md 2), aI cI 4 ln), ((md 3), aI cZ 4 cb), ((md 4), aI cZ 3 th), ((md 5), aI cI 3 pl), ((md 6), aI cI 3 lo), ((md 7), aI cI 3 pr), ((md 8), aI cI 30 la)]) [0, 1, 2, 3, 4, 5, 6, 7, 8] rfl
      have hD := hD.sub (ws' := [((md 0), .inr (5, [.int (eI 0), .int (eI ((n : Nat) : Int)), .ref (md 1), .ref (md 2), .ref (md 3), .int (eI sh), .int (eI ra), .ref (md 4), .ref (md 5), .ref (md 6), .ref (md 7), .ref (md 8), .long (eL ((fu y.toNat : Nat) : Int)), .long (eL ((fl y.toNat : Nat) : Int)), .ref (md 9), .ref (md 10), .ref (md 11), .ref (md 12), .ref (md 13), .ref (md 14), .ref (md 15), .int (eI kn), .int (eI fo)])), ((md 1), aI cI 25 sc), ((md 2), aI cI 4 ln), ((md 3), aI cZ 4 cb), ((md 4), aI cZ 3 th), ((md 5), aI cI 3 pl), ((md 6), aI cI 3 lo), ((md 7), aI cI 3 pr), ((md 8), aI cI 30 la)]) [0, 1, 2, 3, 4, 5, 6, 7, 8] (by decide) rfl
      refine lv_iload_n hx hb d_M_area_58 rfl (lv_at hl 2 rfl) ?_
      refine lv_iconst (v := eI 2) hx hb d_M_area_59 rfl ?_
      refine we_irem hx hb (by constructor <;> omega) (by constructor <;> omega) (by omega) (by omega) d_M_area_60 ?_
      refine we_if_ne (tgt := 71) hx hb (by constructor <;> omega) d_M_area_61 rfl (fun hc61 => absurd hc61 (by omega)) (fun hc61 => ?_)
      refine lv_aload_n hx hb d_M_area_64 rfl (lv_at hl 0 rfl) ?_
      refine va_get (D := D) (ci := 5) (v := .long (eL ((fu y.toNat : Nat) : Int))) (C := R_M) (T := T_M) (N := 23) hx hb htb in_M hown hK hP 0 rfl rfl 12 (by decide) (htb _ tb_600) (fun _ h9 => h9) rfl d_M_area_65 ?_
      refine lv_goto (tgt := 75) hx hb d_M_area_68 rfl ?_
      have hres : (((fu y.toNat : Nat) : Int) : Int) = (if (y < 0 ∨ (n : Int) ≤ y) then 0 else if (z < 0 ∨ 3 < z) then 0 else if z = 0 then ((cu y.toNat : Nat) : Int) else if z = 1 then ((cl y.toNat : Nat) : Int) else if z = 2 then ((fu y.toNat : Nat) : Int) else ((fl y.toNat : Nat) : Int)) := by rw [if_neg (by omega), if_neg (by omega), if_neg (by omega), if_neg (by omega), if_pos (by omega)]
      rw [hres]
      subst hQ
      exact W.lret hx hb hrt (fun t9 ht hW => ⟨⟨(0, ((fu y.toNat : Nat) : Int), ((fl y.toNat : Nat) : Int)), rfl, Or.inr (Or.inr ⟨by omega, by omega, rfl⟩), by rw [ht]; exact hP, hD⟩, hS.F ht⟩) hS.2.2 d_M_area_75
    ·
      refine lv_aload_n hx hb d_M_area_0 rfl (lv_at hl 0 rfl) ?_
      refine lv_iload_n hx hb d_M_area_1 rfl (lv_at hl 1 rfl) ?_
      refine we_if_lt (tgt := 13) hx hb (by constructor <;> omega) d_M_area_2 rfl (fun hc2 => absurd hc2 (by omega)) (fun hc2 => ?_)
      refine lv_iload_n hx hb d_M_area_5 rfl (lv_at hl 1 rfl) ?_
      refine lv_aload_n hx hb d_M_area_6 rfl (lv_at hl 0 rfl) ?_
      refine va_get (D := D) (ci := 5) (v := .int (eI ((n : Nat) : Int))) (C := R_M) (T := T_M) (N := 23) hx hb htb in_M hown hK hP 0 rfl rfl 1 (by decide) (htb _ tb_589) (fun _ h9 => h9) rfl d_M_area_7 ?_
      refine we_icmp_lt (tgt := 17) hx hb (by constructor <;> omega) (by constructor <;> omega) d_M_area_10 rfl (fun hc10 => ?_) (fun hc10 => absurd hc10 (by omega))
      refine lv_iload_n hx hb d_M_area_17 rfl (lv_at hl 2 rfl) ?_
      refine we_if_lt (tgt := 26) hx hb (by constructor <;> omega) d_M_area_18 rfl (fun hc18 => absurd hc18 (by omega)) (fun hc18 => ?_)
      refine lv_iload_n hx hb d_M_area_21 rfl (lv_at hl 2 rfl) ?_
      refine lv_iconst (v := eI 3) hx hb d_M_area_22 rfl ?_
      refine we_icmp_le (tgt := 30) hx hb (by constructor <;> omega) (by constructor <;> omega) d_M_area_23 rfl (fun hc23 => ?_) (fun hc23 => absurd hc23 (by omega))
      refine lv_iconst (v := eI 0) hx hb d_M_area_30 rfl ?_
      refine va_put (D := D) (ci := 5) (v := .int (eI 0)) (ty := .int) (C := R_M) (T := T_M) (N := 23) hx hb htb in_M t_M t_M_ok n_M hown hK hP hD hS 0 rfl rfl 0 (by decide) (htb _ tb_588) (fun _ h9 => h9) rfl (by decide +kernel) rfl rfl (Nat.le_of_ble_eq_true rfl) d_M_area_31 (fun H locs hP hD hS => ?_)
      have hP : va_P D classes [((md 0), .inr (5, [.int (eI 0), .int (eI ((n : Nat) : Int)), .ref (md 1), .ref (md 2), .ref (md 3), .int (eI sh), .int (eI ra), .ref (md 4), .ref (md 5), .ref (md 6), .ref (md 7), .ref (md 8), .long (eL up), .long (eL lw), .ref (md 9), .ref (md 10), .ref (md 11), .ref (md 12), .ref (md 13), .ref (md 14), .ref (md 15), .int (eI kn), .int (eI fo)])), ((md 1), aI cI 25 sc), ((md 2), aI cI 4 ln), ((md 3), aI cZ 4 cb), ((md 4), aI cZ 3 th), ((md 5), aI cI 3 pl), ((md 6), aI cI 3 lo), ((md 7), aI cI 3 pr), ((md 8), aI cI 30 la)] H := hP
      have hD : va_D A [((md 0), .inr (5, [.int (eI 0), .int (eI ((n : Nat) : Int)), .ref (md 1), .ref (md 2), .ref (md 3), .int (eI sh), .int (eI ra), .ref (md 4), .ref (md 5), .ref (md 6), .ref (md 7), .ref (md 8), .long (eL up), .long (eL lw), .ref (md 9), .ref (md 10), .ref (md 11), .ref (md 12), .ref (md 13), .ref (md 14), .ref (md 15), .int (eI kn), .int (eI fo)])), ((md 1), aI cI 25 sc), ((md 2), aI cI 4 ln), ((md 3), aI cZ 4 cb), ((md 4), aI cZ 3 th), ((md 5), aI cI 3 pl), ((md 6), aI cI 3 lo), ((md 7), aI cI 3 pr), ((md 8), aI cI 30 la)] := hD
      refine lv_aload_n hx hb d_M_area_34 rfl (lv_at hl 0 rfl) ?_
      refine va_get (D := D) (ci := 5) (v := .int (eI 0)) (C := R_M) (T := T_M) (N := 23) hx hb htb in_M hown hK hP 0 rfl rfl 0 (by decide) (htb _ tb_588) (fun _ h9 => h9) rfl d_M_area_35 ?_
      refine we_if_le (tgt := 43) hx hb (by constructor <;> omega) d_M_area_38 rfl (fun hc38 => ?_) (fun hc38 => absurd hc38 (by omega))
      refine lv_aload_n hx hb d_M_area_43 rfl (lv_at hl 0 rfl) ?_
      refine lv_iload_n hx hb d_M_area_44 rfl (lv_at hl 1 rfl) ?_
      refine lv_iload_n hx hb d_M_area_45 rfl (lv_at hl 2 rfl) ?_
      refine lv_iconst (v := eI 2) hx hb d_M_area_46 rfl ?_
      refine we_icmp_ge (tgt := 54) hx hb (by constructor <;> omega) (by constructor <;> omega) d_M_area_47 rfl (fun hc47 => ?_) (fun hc47 => absurd hc47 (by omega))
      refine lv_iconst (v := eI 0) hx hb d_M_area_54 rfl ?_
      refine eh_cMV (As := [.int (eI y), .int (eI 0)]) (rest := []) (q := (R_M, T_M, 23)) (wr := []) hx hb hml hown htb hN (by have z9 := m_M_reckon_0 l D cI cL cZ md 0 n sh ra up lw kn fo sc ln cb th pl lo pr la cu cl fu fl ys yl yp y.toNat (by omega) hM; rw [show ((y.toNat : Nat) : Int) = y by omega] at z9; exact z9) 2 ⟨tb_694, tb_696, ts_30, tb_7, kin_M_reckon⟩ dv_M_reckon ⟨by rw [hR1]; decide, by rw [hR2]; decide⟩ hK hP hD hS hA 0 rfl rfl [0, 1, 2, 3, 4, 5, 6, 7, 8] [] rfl rfl (by decide) rfl (by decide) (by decide) [0, 1, 2] rfl rfl rfl hl.1 (Nat.le_of_ble_eq_true rfl) d_M_area_55 ⟨Nat.zero_le _, Nat.zero_le _⟩ (fun u H locs hu hP hD hS => ?_)
      have hP := hP.sub (ws' := [((md 0), .inr (5, [.int (eI 0), .int (eI ((n : Nat) : Int)), .ref (md 1), .ref (md 2), .ref (md 3), .int (eI sh), .int (eI ra), .ref (md 4), .ref (md 5), .ref (md 6), .ref (md 7), .ref (md 8), .long (eL ((fu y.toNat : Nat) : Int)), .long (eL ((fl y.toNat : Nat) : Int)), .ref (md 9), .ref (md 10), .ref (md 11), .ref (md 12), .ref (md 13), .ref (md 14), .ref (md 15), .int (eI kn), .int (eI fo)])), ((md 1), aI cI 25 sc), ((md 2), aI cI 4 ln), ((md 3), aI cZ 4 cb), ((md 4), aI cZ 3 th), ((md 5), aI cI 3 pl), ((md 6), aI cI 3 lo), ((md 7), aI cI 3 pr), ((md 8), aI cI 30 la)]) [0, 1, 2, 3, 4, 5, 6, 7, 8] rfl
      have hD := hD.sub (ws' := [((md 0), .inr (5, [.int (eI 0), .int (eI ((n : Nat) : Int)), .ref (md 1), .ref (md 2), .ref (md 3), .int (eI sh), .int (eI ra), .ref (md 4), .ref (md 5), .ref (md 6), .ref (md 7), .ref (md 8), .long (eL ((fu y.toNat : Nat) : Int)), .long (eL ((fl y.toNat : Nat) : Int)), .ref (md 9), .ref (md 10), .ref (md 11), .ref (md 12), .ref (md 13), .ref (md 14), .ref (md 15), .int (eI kn), .int (eI fo)])), ((md 1), aI cI 25 sc), ((md 2), aI cI 4 ln), ((md 3), aI cZ 4 cb), ((md 4), aI cZ 3 th), ((md 5), aI cI 3 pl), ((md 6), aI cI 3 lo), ((md 7), aI cI 3 pr), ((md 8), aI cI 30 la)]) [0, 1, 2, 3, 4, 5, 6, 7, 8] (by decide) rfl
      refine lv_iload_n hx hb d_M_area_58 rfl (lv_at hl 2 rfl) ?_
      refine lv_iconst (v := eI 2) hx hb d_M_area_59 rfl ?_
      refine we_irem hx hb (by constructor <;> omega) (by constructor <;> omega) (by omega) (by omega) d_M_area_60 ?_
      refine we_if_ne (tgt := 71) hx hb (by constructor <;> omega) d_M_area_61 rfl (fun hc61 => ?_) (fun hc61 => absurd hc61 (by omega))
      refine lv_aload_n hx hb d_M_area_71 rfl (lv_at hl 0 rfl) ?_
      refine va_get (D := D) (ci := 5) (v := .long (eL ((fl y.toNat : Nat) : Int))) (C := R_M) (T := T_M) (N := 23) hx hb htb in_M hown hK hP 0 rfl rfl 13 (by decide) (htb _ tb_601) (fun _ h9 => h9) rfl d_M_area_72 ?_
      have hres : (((fl y.toNat : Nat) : Int) : Int) = (if (y < 0 ∨ (n : Int) ≤ y) then 0 else if (z < 0 ∨ 3 < z) then 0 else if z = 0 then ((cu y.toNat : Nat) : Int) else if z = 1 then ((cl y.toNat : Nat) : Int) else if z = 2 then ((fu y.toNat : Nat) : Int) else ((fl y.toNat : Nat) : Int)) := by rw [if_neg (by omega), if_neg (by omega), if_neg (by omega), if_neg (by omega), if_neg (by omega)]
      rw [hres]
      subst hQ
      exact W.lret hx hb hrt (fun t9 ht hW => ⟨⟨(0, ((fu y.toNat : Nat) : Int), ((fl y.toNat : Nat) : Int)), rfl, Or.inr (Or.inr ⟨by omega, by omega, rfl⟩), by rw [ht]; exact hP, hD⟩, hS.F ht⟩) hS.2.2 d_M_area_75
