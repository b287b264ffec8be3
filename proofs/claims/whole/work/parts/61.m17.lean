abbrev c_M_set : ByteArray := prog_7_method_13_code
def y_M_set : MethodName := ⟨"EarthHaulsModel", "set", "(II)V"⟩
abbrev k_M_set : Cond := .code y_M_set c_M_set 4 none
theorem kin_M_set : k_M_set ∈ ew_t := tb_676
theorem dv_M_set : eh_dV y_M_set "EarthHaulsModel" 2 := ⟨rfl, by decide, by decide, by decide +kernel⟩
theorem d_M_set_0 : decode c_M_set 0 = .ok (.iload_n 1, 1) := by decide +kernel
theorem d_M_set_1 : decode c_M_set 1 = .ok (.ifCond .ne 16, 3) := by decide +kernel
theorem d_M_set_4 : decode c_M_set 4 = .ok (.iload_n 2, 1) := by decide +kernel
theorem d_M_set_5 : decode c_M_set 5 = .ok (.sipush 500, 3) := by decide +kernel
theorem d_M_set_8 : decode c_M_set 8 = .ok (.sipush 1000, 3) := by decide +kernel
theorem d_M_set_11 : decode c_M_set 11 = .ok (.invokestatic 107, 3) := by decide +kernel
theorem d_M_set_14 : decode c_M_set 14 = .ok (.ifCond .ne 18, 3) := by decide +kernel
theorem d_M_set_17 : decode c_M_set 17 = .ok (.iload_n 1, 1) := by decide +kernel
theorem d_M_set_18 : decode c_M_set 18 = .ok (.iconst 1, 1) := by decide +kernel
theorem d_M_set_19 : decode c_M_set 19 = .ok (.if_icmp .ne 17, 3) := by decide +kernel
theorem d_M_set_22 : decode c_M_set 22 = .ok (.iload_n 2, 1) := by decide +kernel
theorem d_M_set_23 : decode c_M_set 23 = .ok (.iconst 0, 1) := by decide +kernel
theorem d_M_set_24 : decode c_M_set 24 = .ok (.bipush 100, 2) := by decide +kernel
theorem d_M_set_26 : decode c_M_set 26 = .ok (.invokestatic 107, 3) := by decide +kernel
theorem d_M_set_29 : decode c_M_set 29 = .ok (.ifCond .eq 7, 3) := by decide +kernel
theorem d_M_set_32 : decode c_M_set 32 = .ok (.iconst 1, 1) := by decide +kernel
theorem d_M_set_33 : decode c_M_set 33 = .ok (.goto 4, 3) := by decide +kernel
theorem d_M_set_36 : decode c_M_set 36 = .ok (.iconst 0, 1) := by decide +kernel
theorem d_M_set_37 : decode c_M_set 37 = .ok (.istore_n 3, 1) := by decide +kernel
theorem d_M_set_38 : decode c_M_set 38 = .ok (.aload_n 0, 1) := by decide +kernel
theorem d_M_set_39 : decode c_M_set 39 = .ok (.iload_n 3, 1) := by decide +kernel
theorem d_M_set_40 : decode c_M_set 40 = .ok (.ifCond .eq 7, 3) := by decide +kernel
theorem d_M_set_43 : decode c_M_set 43 = .ok (.iconst 0, 1) := by decide +kernel
theorem d_M_set_44 : decode c_M_set 44 = .ok (.goto 4, 3) := by decide +kernel
theorem d_M_set_47 : decode c_M_set 47 = .ok (.iconst 1, 1) := by decide +kernel
theorem d_M_set_48 : decode c_M_set 48 = .ok (.putfield 64, 3) := by decide +kernel
theorem d_M_set_51 : decode c_M_set 51 = .ok (.aload_n 0, 1) := by decide +kernel
theorem d_M_set_52 : decode c_M_set 52 = .ok (.getfield 64, 3) := by decide +kernel
theorem d_M_set_55 : decode c_M_set 55 = .ok (.ifCond .le 4, 3) := by decide +kernel
theorem d_M_set_58 : decode c_M_set 58 = .ok (.return_, 1) := by decide +kernel
theorem d_M_set_59 : decode c_M_set 59 = .ok (.aload_n 0, 1) := by decide +kernel
theorem d_M_set_60 : decode c_M_set 60 = .ok (.iconst 0, 1) := by decide +kernel
theorem d_M_set_61 : decode c_M_set 61 = .ok (.putfield 103, 3) := by decide +kernel
theorem d_M_set_64 : decode c_M_set 64 = .ok (.aload_n 0, 1) := by decide +kernel
theorem d_M_set_65 : decode c_M_set 65 = .ok (.iload_n 1, 1) := by decide +kernel
theorem d_M_set_66 : decode c_M_set 66 = .ok (.ifCond .ne 7, 3) := by decide +kernel
theorem d_M_set_69 : decode c_M_set 69 = .ok (.iload_n 2, 1) := by decide +kernel
theorem d_M_set_70 : decode c_M_set 70 = .ok (.goto 7, 3) := by decide +kernel
theorem d_M_set_73 : decode c_M_set 73 = .ok (.aload_n 0, 1) := by decide +kernel
theorem d_M_set_74 : decode c_M_set 74 = .ok (.getfield 20, 3) := by decide +kernel
theorem d_M_set_77 : decode c_M_set 77 = .ok (.putfield 20, 3) := by decide +kernel
theorem d_M_set_80 : decode c_M_set 80 = .ok (.aload_n 0, 1) := by decide +kernel
theorem d_M_set_81 : decode c_M_set 81 = .ok (.iload_n 1, 1) := by decide +kernel
theorem d_M_set_82 : decode c_M_set 82 = .ok (.iconst 1, 1) := by decide +kernel
theorem d_M_set_83 : decode c_M_set 83 = .ok (.if_icmp .ne 7, 3) := by decide +kernel
theorem d_M_set_86 : decode c_M_set 86 = .ok (.iload_n 2, 1) := by decide +kernel
theorem d_M_set_87 : decode c_M_set 87 = .ok (.goto 7, 3) := by decide +kernel
theorem d_M_set_90 : decode c_M_set 90 = .ok (.aload_n 0, 1) := by decide +kernel
theorem d_M_set_91 : decode c_M_set 91 = .ok (.getfield 24, 3) := by decide +kernel
theorem d_M_set_94 : decode c_M_set 94 = .ok (.putfield 24, 3) := by decide +kernel
theorem d_M_set_97 : decode c_M_set 97 = .ok (.return_, 1) := by decide +kernel
set_option maxHeartbeats 1000000 in
set_option maxRecDepth 100000 in
theorem m_M_set (l : Launch) (D : va_G) (cI cL cZ : ClassId) (md : Nat → Nat) (co : Int) (n : Nat) (sh ra up lw kn fo : Int) (sc ln cb th pl lo pr la : Nat → Int) (cu cl fu fl : Nat → Nat) (ys yl yp : Nat → Int) (y z : Int) (hy : -2147483648 ≤ y ∧ y < 2147483648) (hz : -2147483648 ≤ z ∧ z < 2147483648) : eh_M (S := Int × Int × Int × Int) l y_M_set k_M_set 1 22 D classes [(cI, .int), (cL, .long), (cZ, .boolean)] [.ref (md 0), .int (eI y), .int (eI z)] [((md 0), .inr (5, [.int (eI co), .int (eI ((n : Nat) : Int)), .ref (md 1), .ref (md 2), .ref (md 3), .int (eI sh), .int (eI ra), .ref (md 4), .ref (md 5), .ref (md 6), .ref (md 7), .ref (md 8), .long (eL up), .long (eL lw), .ref (md 9), .ref (md 10), .ref (md 11), .ref (md 12), .ref (md 13), .ref (md 14), .ref (md 15), .int (eI kn), .int (eI fo)])), ((md 1), aI cI 25 sc), ((md 2), aI cI 4 ln), ((md 3), aI cZ 4 cb), ((md 4), aI cZ 3 th), ((md 5), aI cI 3 pl), ((md 6), aI cI 3 lo), ((md 7), aI cI 3 pr), ((md 8), aI cI 30 la)] (fun u => ((y = 0 ∧ 500 ≤ z ∧ z ≤ 1000) ∧ u = (0, 0, z, ra)) ∨ ((y = 1 ∧ 0 ≤ z ∧ z ≤ 100) ∧ u = (0, 0, sh, z)) ∨ (¬ (y = 0 ∧ 500 ≤ z ∧ z ≤ 1000) ∧ ¬ (y = 1 ∧ 0 ≤ z ∧ z ≤ 100) ∧ u = (1, kn, sh, ra))) (fun _ => none) (fun u => [((md 0), .inr (5, [.int (eI u.1), .int (eI ((n : Nat) : Int)), .ref (md 1), .ref (md 2), .ref (md 3), .int (eI u.2.2.1), .int (eI u.2.2.2), .ref (md 4), .ref (md 5), .ref (md 6), .ref (md 7), .ref (md 8), .long (eL up), .long (eL lw), .ref (md 9), .ref (md 10), .ref (md 11), .ref (md 12), .ref (md 13), .ref (md 14), .ref (md 15), .int (eI u.2.1), .int (eI fo)])), ((md 1), aI cI 25 sc), ((md 2), aI cI 4 ln), ((md 3), aI cZ 4 cb), ((md 4), aI cZ 3 th), ((md 5), aI cI 3 pl), ((md 6), aI cI 3 lo), ((md 7), aI cI 3 pr), ((md 8), aI cI 30 la)]) := by
  intro sz
  refine Met.ofW (cc := c_M_set) (maxL := 4) (ret := none) (by decide) rfl ?_
  intro p e s m args below meth c s₁ B hml hv
  obtain ⟨hargs, hsz, hP, hK, hD0, hN⟩ := hv
  have hx := B.exec
  have hb := B.bytes
  have hrt := B.returns
  have hts := atoms_spec (ws := k_M_set :: ew_t) B.pre
  have htb : ∀ w ∈ ew_t, w.before args s = true := fun w h => hts w (List.mem_cons_of_mem _ h)
  have hown : s.vm.findClass "EarthHaulsModel" = some m.cls := findClass_of_methodNamed B.named
  have hlocks := B.notSynchronized
  have hE : entryFrame m args 4 = entryFrame m ([.ref (md 0), .int (eI y), .int (eI z)] : List Value).toArray 4 := by rw [hargs]
  rw [hE]
  clear hE hts B hargs
  generalize hRe : (headSpec _ _).room = R
  have hR1 : R.frames = 1 := by rw [← hRe]; rfl
  have hR2 : R.locals = 22 := by rw [← hRe]; rfl
  clear hRe
  generalize hQ : MQ below _ _ s 0 0 _ = Q
  subst hsz
  have hD := hD0.self (sz := s.heap.size)
  generalize hAe : va_A [((md 0), .inr (5, [.int (eI co), .int (eI ((n : Nat) : Int)), .ref (md 1), .ref (md 2), .ref (md 3), .int (eI sh), .int (eI ra), .ref (md 4), .ref (md 5), .ref (md 6), .ref (md 7), .ref (md 8), .long (eL up), .long (eL lw), .ref (md 9), .ref (md 10), .ref (md 11), .ref (md 12), .ref (md 13), .ref (md 14), .ref (md 15), .int (eI kn), .int (eI fo)])), ((md 1), aI cI 25 sc), ((md 2), aI cI 4 ln), ((md 3), aI cZ 4 cb), ((md 4), aI cZ 3 th), ((md 5), aI cI 3 pl), ((md 6), aI cI 3 lo), ((md 7), aI cI 3 pr), ((md 8), aI cI 30 la)] s.heap.size = A at hD hQ
  have hA : ∀ q : Nat, s.heap.size ≤ q → A q := fun q h => by rw [← hAe]; exact Or.inr h
  have hS : va_S A s.heap s.heap [] := va_S.rf
  have hP : va_P D classes [((md 0), .inr (5, [.int (eI co), .int (eI ((n : Nat) : Int)), .ref (md 1), .ref (md 2), .ref (md 3), .int (eI sh), .int (eI ra), .ref (md 4), .ref (md 5), .ref (md 6), .ref (md 7), .ref (md 8), .long (eL up), .long (eL lw), .ref (md 9), .ref (md 10), .ref (md 11), .ref (md 12), .ref (md 13), .ref (md 14), .ref (md 15), .int (eI kn), .int (eI fo)])), ((md 1), aI cI 25 sc), ((md 2), aI cI 4 ln), ((md 3), aI cZ 4 cb), ((md 4), aI cZ 3 th), ((md 5), aI cI 3 pl), ((md 6), aI cI 3 lo), ((md 7), aI cI 3 pr), ((md 8), aI cI 30 la)] s.heap := hP
  have hl := lv_entry ([.ref (md 0), .int (eI y), .int (eI z)]) (n := 4) (Nat.le_of_ble_eq_true rfl)
  rw [lg_entry_eq]
  generalize (lg_sl ([.ref (md 0), .int (eI y), .int (eI z)]) ++ List.replicate (4 - (lg_sl ([.ref (md 0), .int (eI y), .int (eI z)])).length) Slot.unset).toArray = ls at hl ⊢
  have hl : lv_has ls 4 [(0, .ref (md 0)), (1, .int (eI y)), (2, .int (eI z))] := hl
  rcases (show (y = 0 ∧ 500 ≤ z ∧ z ≤ 1000) ∨ (y = 0 ∧ ¬ (500 ≤ z ∧ z ≤ 1000)) ∨ (y = 1 ∧ 0 ≤ z ∧ z ≤ 100) ∨ (y = 1 ∧ ¬ (0 ≤ z ∧ z ≤ 100)) ∨ (y ≠ 0 ∧ y ≠ 1) by omega) with hcas | hcas | hcas | hcas | hcas
  ·
    refine lv_iload_n hx hb d_M_set_0 rfl (lv_at hl 1 rfl) ?_
    refine we_if_ne (tgt := 17) hx hb (by constructor <;> omega) d_M_set_1 rfl (fun hc1 => absurd hc1 (by omega)) (fun hc1 => ?_)
    refine lv_iload_n hx hb d_M_set_4 rfl (lv_at hl 2 rfl) ?_
    refine lv_sipush (v := eI 500) hx hb d_M_set_5 (by decide) ?_
    refine lv_sipush (v := eI 1000) hx hb d_M_set_8 (by decide) ?_
    refine eh_cRS (As := [.int (eI z), .int (eI 500), .int (eI 1000)]) (rest := []) (v := .int (eI (if 500 ≤ z ∧ z ≤ 1000 then 1 else 0))) hx hb hml hown htb hN (r_M_within l D z 500 1000 hz (by omega) (by omega)) 3 ⟨tb_670, tb_671, tb_7, kin_M_within⟩ dv_M_within ⟨by rw [hR1]; decide, by rw [hR2]; decide⟩ hK hP [] rfl [] rfl rfl rfl hl.1 (Nat.le_of_ble_eq_true rfl) d_M_set_11 ⟨Nat.zero_le _, Nat.zero_le _⟩ ?_
    refine we_if_ne (tgt := 32) hx hb (by constructor <;> split <;> omega) d_M_set_14 rfl (fun hc14 => ?_) (fun hc14 => absurd hc14 (by rw [if_pos hcas.2]; omega))
    refine lv_iconst (v := eI 1) hx hb d_M_set_32 rfl ?_
    refine lv_goto (tgt := 37) hx hb d_M_set_33 rfl ?_
    refine lv_istore_n hx hb d_M_set_37 rfl hl (by decide) rfl (fun ls hl => ?_)
    have hl : lv_has ls 4 [(3, .int (eI 1)), (0, .ref (md 0)), (1, .int (eI y)), (2, .int (eI z))] := hl
    refine lv_aload_n hx hb d_M_set_38 rfl (lv_at hl 1 rfl) ?_
    refine lv_iload_n hx hb d_M_set_39 rfl (lv_at hl 0 rfl) ?_
    refine we_if_eq (tgt := 47) hx hb (by constructor <;> omega) d_M_set_40 rfl (fun hc40 => absurd hc40 (by omega)) (fun hc40 => ?_)
    refine lv_iconst (v := eI 0) hx hb d_M_set_43 rfl ?_
    refine lv_goto (tgt := 48) hx hb d_M_set_44 rfl ?_
    refine va_put (D := D) (ci := 5) (v := .int (eI 0)) (ty := .int) (C := R_M) (T := T_M) (N := 23) hx hb htb in_M t_M t_M_ok n_M hown hK hP hD hS 0 rfl rfl 0 (by decide) (htb _ tb_588) (fun _ h9 => h9) rfl (by decide +kernel) rfl rfl (Nat.le_of_ble_eq_true rfl) d_M_set_48 (fun H locs hP hD hS => ?_)
    have hP : va_P D classes [((md 0), .inr (5, [.int (eI 0), .int (eI ((n : Nat) : Int)), .ref (md 1), .ref (md 2), .ref (md 3), .int (eI sh), .int (eI ra), .ref (md 4), .ref (md 5), .ref (md 6), .ref (md 7), .ref (md 8), .long (eL up), .long (eL lw), .ref (md 9), .ref (md 10), .ref (md 11), .ref (md 12), .ref (md 13), .ref (md 14), .ref (md 15), .int (eI kn), .int (eI fo)])), ((md 1), aI cI 25 sc), ((md 2), aI cI 4 ln), ((md 3), aI cZ 4 cb), ((md 4), aI cZ 3 th), ((md 5), aI cI 3 pl), ((md 6), aI cI 3 lo), ((md 7), aI cI 3 pr), ((md 8), aI cI 30 la)] H := hP
    have hD : va_D A [((md 0), .inr (5, [.int (eI 0), .int (eI ((n : Nat) : Int)), .ref (md 1), .ref (md 2), .ref (md 3), .int (eI sh), .int (eI ra), .ref (md 4), .ref (md 5), .ref (md 6), .ref (md 7), .ref (md 8), .long (eL up), .long (eL lw), .ref (md 9), .ref (md 10), .ref (md 11), .ref (md 12), .ref (md 13), .ref (md 14), .ref (md 15), .int (eI kn), .int (eI fo)])), ((md 1), aI cI 25 sc), ((md 2), aI cI 4 ln), ((md 3), aI cZ 4 cb), ((md 4), aI cZ 3 th), ((md 5), aI cI 3 pl), ((md 6), aI cI 3 lo), ((md 7), aI cI 3 pr), ((md 8), aI cI 30 la)] := hD
    refine lv_aload_n hx hb d_M_set_51 rfl (lv_at hl 1 rfl) ?_
    refine va_get (D := D) (ci := 5) (v := .int (eI 0)) (C := R_M) (T := T_M) (N := 23) hx hb htb in_M hown hK hP 0 rfl rfl 0 (by decide) (htb _ tb_588) (fun _ h9 => h9) rfl d_M_set_52 ?_
    refine we_if_le (tgt := 59) hx hb (by constructor <;> omega) d_M_set_55 rfl (fun hc55 => ?_) (fun hc55 => absurd hc55 (by omega))
    refine lv_aload_n hx hb d_M_set_59 rfl (lv_at hl 1 rfl) ?_
    refine lv_iconst (v := eI 0) hx hb d_M_set_60 rfl ?_
    refine va_put (D := D) (ci := 5) (v := .int (eI 0)) (ty := .boolean) (C := R_M) (T := T_M) (N := 23) hx hb htb in_M t_M t_M_ok n_M hown hK hP hD hS 0 rfl rfl 21 (by decide) (htb _ tb_609) (fun _ h9 => h9) rfl (by decide +kernel) rfl rfl (Nat.le_of_ble_eq_true rfl) d_M_set_61 (fun H locs hP hD hS => ?_)
    have hP : va_P D classes [((md 0), .inr (5, [.int (eI 0), .int (eI ((n : Nat) : Int)), .ref (md 1), .ref (md 2), .ref (md 3), .int (eI sh), .int (eI ra), .ref (md 4), .ref (md 5), .ref (md 6), .ref (md 7), .ref (md 8), .long (eL up), .long (eL lw), .ref (md 9), .ref (md 10), .ref (md 11), .ref (md 12), .ref (md 13), .ref (md 14), .ref (md 15), .int (eI 0), .int (eI fo)])), ((md 1), aI cI 25 sc), ((md 2), aI cI 4 ln), ((md 3), aI cZ 4 cb), ((md 4), aI cZ 3 th), ((md 5), aI cI 3 pl), ((md 6), aI cI 3 lo), ((md 7), aI cI 3 pr), ((md 8), aI cI 30 la)] H := hP
    have hD : va_D A [((md 0), .inr (5, [.int (eI 0), .int (eI ((n : Nat) : Int)), .ref (md 1), .ref (md 2), .ref (md 3), .int (eI sh), .int (eI ra), .ref (md 4), .ref (md 5), .ref (md 6), .ref (md 7), .ref (md 8), .long (eL up), .long (eL lw), .ref (md 9), .ref (md 10), .ref (md 11), .ref (md 12), .ref (md 13), .ref (md 14), .ref (md 15), .int (eI 0), .int (eI fo)])), ((md 1), aI cI 25 sc), ((md 2), aI cI 4 ln), ((md 3), aI cZ 4 cb), ((md 4), aI cZ 3 th), ((md 5), aI cI 3 pl), ((md 6), aI cI 3 lo), ((md 7), aI cI 3 pr), ((md 8), aI cI 30 la)] := hD
    refine lv_aload_n hx hb d_M_set_64 rfl (lv_at hl 1 rfl) ?_
    refine lv_iload_n hx hb d_M_set_65 rfl (lv_at hl 2 rfl) ?_
    refine we_if_ne (tgt := 73) hx hb (by constructor <;> omega) d_M_set_66 rfl (fun hc66 => absurd hc66 (by omega)) (fun hc66 => ?_)
    refine lv_iload_n hx hb d_M_set_69 rfl (lv_at hl 3 rfl) ?_
    refine lv_goto (tgt := 77) hx hb d_M_set_70 rfl ?_
    refine va_put (D := D) (ci := 5) (v := .int (eI z)) (ty := .int) (C := R_M) (T := T_M) (N := 23) hx hb htb in_M t_M t_M_ok n_M hown hK hP hD hS 0 rfl rfl 5 (by decide) (htb _ tb_593) (fun _ h9 => h9) rfl (by decide +kernel) rfl rfl (Nat.le_of_ble_eq_true rfl) d_M_set_77 (fun H locs hP hD hS => ?_)
    have hP : va_P D classes [((md 0), .inr (5, [.int (eI 0), .int (eI ((n : Nat) : Int)), .ref (md 1), .ref (md 2), .ref (md 3), .int (eI z), .int (eI ra), .ref (md 4), .ref (md 5), .ref (md 6), .ref (md 7), .ref (md 8), .long (eL up), .long (eL lw), .ref (md 9), .ref (md 10), .ref (md 11), .ref (md 12), .ref (md 13), .ref (md 14), .ref (md 15), .int (eI 0), .int (eI fo)])), ((md 1), aI cI 25 sc), ((md 2), aI cI 4 ln), ((md 3), aI cZ 4 cb), ((md 4), aI cZ 3 th), ((md 5), aI cI 3 pl), ((md 6), aI cI 3 lo), ((md 7), aI cI 3 pr), ((md 8), aI cI 30 la)] H := hP
    have hD : va_D A [((md 0), .inr (5, [.int (eI 0), .int (eI ((n : Nat) : Int)), .ref (md 1), .ref (md 2), .ref (md 3), .int (eI z), .int (eI ra), .ref (md 4), .ref (md 5), .ref (md 6), .ref (md 7), .ref (md 8), .long (eL up), .long (eL lw), .ref (md 9), .ref (md 10), .ref (md 11), .ref (md 12), .ref (md 13), .ref (md 14), .ref (md 15), .int (eI 0), .int (eI fo)])), ((md 1), aI cI 25 sc), ((md 2), aI cI 4 ln), ((md 3), aI cZ 4 cb), ((md 4), aI cZ 3 th), ((md 5), aI cI 3 pl), ((md 6), aI cI 3 lo), ((md 7), aI cI 3 pr), ((md 8), aI cI 30 la)] := hD
    refine lv_aload_n hx hb d_M_set_80 rfl (lv_at hl 1 rfl) ?_
    refine lv_iload_n hx hb d_M_set_81 rfl (lv_at hl 2 rfl) ?_
    refine lv_iconst (v := eI 1) hx hb d_M_set_82 rfl ?_
    refine we_icmp_ne (tgt := 90) hx hb (by constructor <;> omega) (by constructor <;> omega) d_M_set_83 rfl (fun hc83 => ?_) (fun hc83 => absurd hc83 (by omega))
    refine lv_aload_n hx hb d_M_set_90 rfl (lv_at hl 1 rfl) ?_
    refine va_get (D := D) (ci := 5) (v := .int (eI ra)) (C := R_M) (T := T_M) (N := 23) hx hb htb in_M hown hK hP 0 rfl rfl 6 (by decide) (htb _ tb_594) (fun _ h9 => h9) rfl d_M_set_91 ?_
    refine va_put (D := D) (ci := 5) (v := .int (eI ra)) (ty := .int) (C := R_M) (T := T_M) (N := 23) hx hb htb in_M t_M t_M_ok n_M hown hK hP hD hS 0 rfl rfl 6 (by decide) (htb _ tb_594) (fun _ h9 => h9) rfl (by decide +kernel) rfl rfl (Nat.le_of_ble_eq_true rfl) d_M_set_94 (fun H locs hP hD hS => ?_)
    have hP : va_P D classes [((md 0), .inr (5, [.int (eI 0), .int (eI ((n : Nat) : Int)), .ref (md 1), .ref (md 2), .ref (md 3), .int (eI z), .int (eI ra), .ref (md 4), .ref (md 5), .ref (md 6), .ref (md 7), .ref (md 8), .long (eL up), .long (eL lw), .ref (md 9), .ref (md 10), .ref (md 11), .ref (md 12), .ref (md 13), .ref (md 14), .ref (md 15), .int (eI 0), .int (eI fo)])), ((md 1), aI cI 25 sc), ((md 2), aI cI 4 ln), ((md 3), aI cZ 4 cb), ((md 4), aI cZ 3 th), ((md 5), aI cI 3 pl), ((md 6), aI cI 3 lo), ((md 7), aI cI 3 pr), ((md 8), aI cI 30 la)] H := hP
    have hD : va_D A [((md 0), .inr (5, [.int (eI 0), .int (eI ((n : Nat) : Int)), .ref (md 1), .ref (md 2), .ref (md 3), .int (eI z), .int (eI ra), .ref (md 4), .ref (md 5), .ref (md 6), .ref (md 7), .ref (md 8), .long (eL up), .long (eL lw), .ref (md 9), .ref (md 10), .ref (md 11), .ref (md 12), .ref (md 13), .ref (md 14), .ref (md 15), .int (eI 0), .int (eI fo)])), ((md 1), aI cI 25 sc), ((md 2), aI cI 4 ln), ((md 3), aI cZ 4 cb), ((md 4), aI cZ 3 th), ((md 5), aI cI 3 pl), ((md 6), aI cI 3 lo), ((md 7), aI cI 3 pr), ((md 8), aI cI 30 la)] := hD
    subst hQ
    exact W.vret hx hb hrt (fun t9 ht hW => ⟨⟨(0, 0, z, ra), rfl, Or.inl ⟨hcas, rfl⟩, by rw [ht]; exact hP, hD⟩, hS.F ht⟩) hS.2.2 d_M_set_97
  ·
    refine lv_iload_n hx hb d_M_set_0 rfl (lv_at hl 1 rfl) ?_
    refine we_if_ne (tgt := 17) hx hb (by constructor <;> omega) d_M_set_1 rfl (fun hc1 => absurd hc1 (by omega)) (fun hc1 => ?_)
    refine lv_iload_n hx hb d_M_set_4 rfl (lv_at hl 2 rfl) ?_
    refine lv_sipush (v := eI 500) hx hb d_M_set_5 (by decide) ?_
    refine lv_sipush (v := eI 1000) hx hb d_M_set_8 (by decide) ?_
    refine eh_cRS (As := [.int (eI z), .int (eI 500), .int (eI 1000)]) (rest := []) (v := .int (eI (if 500 ≤ z ∧ z ≤ 1000 then 1 else 0))) hx hb hml hown htb hN (r_M_within l D z 500 1000 hz (by omega) (by omega)) 3 ⟨tb_670, tb_671, tb_7, kin_M_within⟩ dv_M_within ⟨by rw [hR1]; decide, by rw [hR2]; decide⟩ hK hP [] rfl [] rfl rfl rfl hl.1 (Nat.le_of_ble_eq_true rfl) d_M_set_11 ⟨Nat.zero_le _, Nat.zero_le _⟩ ?_
    refine we_if_ne (tgt := 32) hx hb (by constructor <;> split <;> omega) d_M_set_14 rfl (fun hc14 => absurd hc14 (by rw [if_neg hcas.2]; omega)) (fun hc14 => ?_)
    refine lv_iload_n hx hb d_M_set_17 rfl (lv_at hl 1 rfl) ?_
    refine lv_iconst (v := eI 1) hx hb d_M_set_18 rfl ?_
    refine we_icmp_ne (tgt := 36) hx hb (by constructor <;> omega) (by constructor <;> omega) d_M_set_19 rfl (fun hc19 => ?_) (fun hc19 => absurd hc19 (by omega))
    refine lv_iconst (v := eI 0) hx hb d_M_set_36 rfl ?_
    refine lv_istore_n hx hb d_M_set_37 rfl hl (by decide) rfl (fun ls hl => ?_)
    have hl : lv_has ls 4 [(3, .int (eI 0)), (0, .ref (md 0)), (1, .int (eI y)), (2, .int (eI z))] := hl
    refine lv_aload_n hx hb d_M_set_38 rfl (lv_at hl 1 rfl) ?_
    refine lv_iload_n hx hb d_M_set_39 rfl (lv_at hl 0 rfl) ?_
    refine we_if_eq (tgt := 47) hx hb (by constructor <;> omega) d_M_set_40 rfl (fun hc40 => ?_) (fun hc40 => absurd hc40 (by omega))
    refine lv_iconst (v := eI 1) hx hb d_M_set_47 rfl ?_
    refine va_put (D := D) (ci := 5) (v := .int (eI 1)) (ty := .int) (C := R_M) (T := T_M) (N := 23) hx hb htb in_M t_M t_M_ok n_M hown hK hP hD hS 0 rfl rfl 0 (by decide) (htb _ tb_588) (fun _ h9 => h9) rfl (by decide +kernel) rfl rfl (Nat.le_of_ble_eq_true rfl) d_M_set_48 (fun H locs hP hD hS => ?_)
    have hP : va_P D classes [((md 0), .inr (5, [.int (eI 1), .int (eI ((n : Nat) : Int)), .ref (md 1), .ref (md 2), .ref (md 3), .int (eI sh), .int (eI ra), .ref (md 4), .ref (md 5), .ref (md 6), .ref (md 7), .ref (md 8), .long (eL up), .long (eL lw), .ref (md 9), .ref (md 10), .ref (md 11), .ref (md 12), .ref (md 13), .ref (md 14), .ref (md 15), .int (eI kn), .int (eI fo)])), ((md 1), aI cI 25 sc), ((md 2), aI cI 4 ln), ((md 3), aI cZ 4 cb), ((md 4), aI cZ 3 th), ((md 5), aI cI 3 pl), ((md 6), aI cI 3 lo), ((md 7), aI cI 3 pr), ((md 8), aI cI 30 la)] H := hP
    have hD : va_D A [((md 0), .inr (5, [.int (eI 1), .int (eI ((n : Nat) : Int)), .ref (md 1), .ref (md 2), .ref (md 3), .int (eI sh), .int (eI ra), .ref (md 4), .ref (md 5), .ref (md 6), .ref (md 7), .ref (md 8), .long (eL up), .long (eL lw), .ref (md 9), .ref (md 10), .ref (md 11), .ref (md 12), .ref (md 13), .ref (md 14), .ref (md 15), .int (eI kn), .int (eI fo)])), ((md 1), aI cI 25 sc), ((md 2), aI cI 4 ln), ((md 3), aI cZ 4 cb), ((md 4), aI cZ 3 th), ((md 5), aI cI 3 pl), ((md 6), aI cI 3 lo), ((md 7), aI cI 3 pr), ((md 8), aI cI 30 la)] := hD
    refine lv_aload_n hx hb d_M_set_51 rfl (lv_at hl 1 rfl) ?_
    refine va_get (D := D) (ci := 5) (v := .int (eI 1)) (C := R_M) (T := T_M) (N := 23) hx hb htb in_M hown hK hP 0 rfl rfl 0 (by decide) (htb _ tb_588) (fun _ h9 => h9) rfl d_M_set_52 ?_
    refine we_if_le (tgt := 59) hx hb (by constructor <;> omega) d_M_set_55 rfl (fun hc55 => absurd hc55 (by omega)) (fun hc55 => ?_)
    subst hQ
    exact W.vret hx hb hrt (fun t9 ht hW => ⟨⟨(1, kn, sh, ra), rfl, Or.inr (Or.inr ⟨by omega, by omega, rfl⟩), by rw [ht]; exact hP, hD⟩, hS.F ht⟩) hS.2.2 d_M_set_58
  ·
    refine lv_iload_n hx hb d_M_set_0 rfl (lv_at hl 1 rfl) ?_
    refine we_if_ne (tgt := 17) hx hb (by constructor <;> omega) d_M_set_1 rfl (fun hc1 => ?_) (fun hc1 => absurd hc1 (by omega))
    refine lv_iload_n hx hb d_M_set_17 rfl (lv_at hl 1 rfl) ?_
    refine lv_iconst (v := eI 1) hx hb d_M_set_18 rfl ?_
    refine we_icmp_ne (tgt := 36) hx hb (by constructor <;> omega) (by constructor <;> omega) d_M_set_19 rfl (fun hc19 => absurd hc19 (by omega)) (fun hc19 => ?_)
    refine lv_iload_n hx hb d_M_set_22 rfl (lv_at hl 2 rfl) ?_
    refine lv_iconst (v := eI 0) hx hb d_M_set_23 rfl ?_
    refine lv_bipush (v := eI 100) hx hb d_M_set_24 (by decide) ?_
    refine eh_cRS (As := [.int (eI z), .int (eI 0), .int (eI 100)]) (rest := []) (v := .int (eI (if 0 ≤ z ∧ z ≤ 100 then 1 else 0))) hx hb hml hown htb hN (r_M_within l D z 0 100 hz (by omega) (by omega)) 3 ⟨tb_670, tb_671, tb_7, kin_M_within⟩ dv_M_within ⟨by rw [hR1]; decide, by rw [hR2]; decide⟩ hK hP [] rfl [] rfl rfl rfl hl.1 (Nat.le_of_ble_eq_true rfl) d_M_set_26 ⟨Nat.zero_le _, Nat.zero_le _⟩ ?_
    refine we_if_eq (tgt := 36) hx hb (by constructor <;> split <;> omega) d_M_set_29 rfl (fun hc29 => absurd hc29 (by rw [if_pos hcas.2]; omega)) (fun hc29 => ?_)
    refine lv_iconst (v := eI 1) hx hb d_M_set_32 rfl ?_
    refine lv_goto (tgt := 37) hx hb d_M_set_33 rfl ?_
    refine lv_istore_n hx hb d_M_set_37 rfl hl (by decide) rfl (fun ls hl => ?_)
    have hl : lv_has ls 4 [(3, .int (eI 1)), (0, .ref (md 0)), (1, .int (eI y)), (2, .int (eI z))] := hl
    refine lv_aload_n hx hb d_M_set_38 rfl (lv_at hl 1 rfl) ?_
    refine lv_iload_n hx hb d_M_set_39 rfl (lv_at hl 0 rfl) ?_
    refine we_if_eq (tgt := 47) hx hb (by constructor <;> omega) d_M_set_40 rfl (fun hc40 => absurd hc40 (by omega)) (fun hc40 => ?_)
    refine lv_iconst (v := eI 0) hx hb d_M_set_43 rfl ?_
    refine lv_goto (tgt := 48) hx hb d_M_set_44 rfl ?_
    refine va_put (D := D) (ci := 5) (v := .int (eI 0)) (ty := .int) (C := R_M) (T := T_M) (N := 23) hx hb htb in_M t_M t_M_ok n_M hown hK hP hD hS 0 rfl rfl 0 (by decide) (htb _ tb_588) (fun _ h9 => h9) rfl (by decide +kernel) rfl rfl (Nat.le_of_ble_eq_true rfl) d_M_set_48 (fun H locs hP hD hS => ?_)
    have hP : va_P D classes [((md 0), .inr (5, [.int (eI 0), .int (eI ((n : Nat) : Int)), .ref (md 1), .ref (md 2), .ref (md 3), .int (eI sh), .int (eI ra), .ref (md 4), .ref (md 5), .ref (md 6), .ref (md 7), .ref (md 8), .long (eL up), .long (eL lw), .ref (md 9), .ref (md 10), .ref (md 11), .ref (md 12), .ref (md 13), .ref (md 14), .ref (md 15), .int (eI kn), .int (eI fo)])), ((md 1), aI cI 25 sc), ((md 2), aI cI 4 ln), ((md 3), aI cZ 4 cb), ((md 4), aI cZ 3 th), ((md 5), aI cI 3 pl), ((md 6), aI cI 3 lo), ((md 7), aI cI 3 pr), ((md 8), aI cI 30 la)] H := hP
    have hD : va_D A [((md 0), .inr (5, [.int (eI 0), .int (eI ((n : Nat) : Int)), .ref (md 1), .ref (md 2), .ref (md 3), .int (eI sh), .int (eI ra), .ref (md 4), .ref (md 5), .ref (md 6), .ref (md 7), .ref (md 8), .long (eL up), .long (eL lw), .ref (md 9), .ref (md 10), .ref (md 11), .ref (md 12), .ref (md 13), .ref (md 14), .ref (md 15), .int (eI kn), .int (eI fo)])), ((md 1), aI cI 25 sc), ((md 2), aI cI 4 ln), ((md 3), aI cZ 4 cb), ((md 4), aI cZ 3 th), ((md 5), aI cI 3 pl), ((md 6), aI cI 3 lo), ((md 7), aI cI 3 pr), ((md 8), aI cI 30 la)] := hD
    refine lv_aload_n hx hb d_M_set_51 rfl (lv_at hl 1 rfl) ?_
    refine va_get (D := D) (ci := 5) (v := .int (eI 0)) (C := R_M) (T := T_M) (N := 23) hx hb htb in_M hown hK hP 0 rfl rfl 0 (by decide) (htb _ tb_588) (fun _ h9 => h9) rfl d_M_set_52 ?_
    refine we_if_le (tgt := 59) hx hb (by constructor <;> omega) d_M_set_55 rfl (fun hc55 => ?_) (fun hc55 => absurd hc55 (by omega))
    refine lv_aload_n hx hb d_M_set_59 rfl (lv_at hl 1 rfl) ?_
    refine lv_iconst (v := eI 0) hx hb d_M_set_60 rfl ?_
    refine va_put (D := D) (ci := 5) (v := .int (eI 0)) (ty := .boolean) (C := R_M) (T := T_M) (N := 23) hx hb htb in_M t_M t_M_ok n_M hown hK hP hD hS 0 rfl rfl 21 (by decide) (htb _ tb_609) (fun _ h9 => h9) rfl (by decide +kernel) rfl rfl (Nat.le_of_ble_eq_true rfl) d_M_set_61 (fun H locs hP hD hS => ?_)
    have hP : va_P D classes [((md 0), .inr (5, [.int (eI 0), .int (eI ((n : Nat) : Int)), .ref (md 1), .ref (md 2), .ref (md 3), .int (eI sh), .int (eI ra), .ref (md 4), .ref (md 5), .ref (md 6), .ref (md 7), .ref (md 8), .long (eL up), .long (eL lw), .ref (md 9), .ref (md 10), .ref (md 11), .ref (md 12), .ref (md 13), .ref (md 14), .ref (md 15), .int (eI 0), .int (eI fo)])), ((md 1), aI cI 25 sc), ((md 2), aI cI 4 ln), ((md 3), aI cZ 4 cb), ((md 4), aI cZ 3 th), ((md 5), aI cI 3 pl), ((md 6), aI cI 3 lo), ((md 7), aI cI 3 pr), ((md 8), aI cI 30 la)] H := hP
    have hD : va_D A [((md 0), .inr (5, [.int (eI 0), .int (eI ((n : Nat) : Int)), .ref (md 1), .ref (md 2), .ref (md 3), .int (eI sh), .int (eI ra), .ref (md 4), .ref (md 5), .ref (md 6), .ref (md 7), .ref (md 8), .long (eL up), .long (eL lw), .ref (md 9), .ref (md 10), .ref (md 11), .ref (md 12), .ref (md 13), .ref (md 14), .ref (md 15), .int (eI 0), .int (eI fo)])), ((md 1), aI cI 25 sc), ((md 2), aI cI 4 ln), ((md 3), aI cZ 4 cb), ((md 4), aI cZ 3 th), ((md 5), aI cI 3 pl), ((md 6), aI cI 3 lo), ((md 7), aI cI 3 pr), ((md 8), aI cI 30 la)] := hD
    refine lv_aload_n hx hb d_M_set_64 rfl (lv_at hl 1 rfl) ?_
    refine lv_iload_n hx hb d_M_set_65 rfl (lv_at hl 2 rfl) ?_
    refine we_if_ne (tgt := 73) hx hb (by constructor <;> omega) d_M_set_66 rfl (fun hc66 => ?_) (fun hc66 => absurd hc66 (by omega))
    refine lv_aload_n hx hb d_M_set_73 rfl (lv_at hl 1 rfl) ?_
    refine va_get (D := D) (ci := 5) (v := .int (eI sh)) (C := R_M) (T := T_M) (N := 23) hx hb htb in_M hown hK hP 0 rfl rfl 5 (by decide) (htb _ tb_593) (fun _ h9 => h9) rfl d_M_set_74 ?_
    refine va_put (D := D) (ci := 5) (v := .int (eI sh)) (ty := .int) (C := R_M) (T := T_M) (N := 23) hx hb htb in_M t_M t_M_ok n_M hown hK hP hD hS 0 rfl rfl 5 (by decide) (htb _ tb_593) (fun _ h9 => h9) rfl (by decide +kernel) rfl rfl (Nat.le_of_ble_eq_true rfl) d_M_set_77 (fun H locs hP hD hS => ?_)
    have hP : va_P D classes [((md 0), .inr (5, [.int (eI 0), .int (eI ((n : Nat) : Int)), .ref (md 1), .ref (md 2), .ref (md 3), .int (eI sh), .int (eI ra), .ref (md 4), .ref (md 5), .ref (md 6), .ref (md 7), .ref (md 8), .long (eL up), .long (eL lw), .ref (md 9), .ref (md 10), .ref (md 11), .ref (md 12), .ref (md 13), .ref (md 14), .ref (md 15), .int (eI 0), .int (eI fo)])), ((md 1), aI cI 25 sc), ((md 2), aI cI 4 ln), ((md 3), aI cZ 4 cb), ((md 4), aI cZ 3 th), ((md 5), aI cI 3 pl), ((md 6), aI cI 3 lo), ((md 7), aI cI 3 pr), ((md 8), aI cI 30 la)] H := hP
    have hD : va_D A [((md 0), .inr (5, [.int (eI 0), .int (eI ((n : Nat) : Int)), .ref (md 1), .ref (md 2), .ref (md 3), .int (eI sh), .int (eI ra), .ref (md 4), .ref (md 5), .ref (md 6), .ref (md 7), .ref (md 8), .long (eL up), .long (eL lw), .ref (md 9), .ref (md 10), .ref (md 11), .ref (md 12), .ref (md 13), .ref (md 14), .ref (md 15), .int (eI 0), .int (eI fo)])), ((md 1), aI cI 25 sc), ((md 2), aI cI 4 ln), ((md 3), aI cZ 4 cb), ((md 4), aI cZ 3 th), ((md 5), aI cI 3 pl), ((md 6), aI cI 3 lo), ((md 7), aI cI 3 pr), ((md 8), aI cI 30 la)] := hD
    refine lv_aload_n hx hb d_M_set_80 rfl (lv_at hl 1 rfl) ?_
    refine lv_iload_n hx hb d_M_set_81 rfl (lv_at hl 2 rfl) ?_
    refine lv_iconst (v := eI 1) hx hb d_M_set_82 rfl ?_
    refine we_icmp_ne (tgt := 90) hx hb (by constructor <;> omega) (by constructor <;> omega) d_M_set_83 rfl (fun hc83 => absurd hc83 (by omega)) (fun hc83 => ?_)
    refine lv_iload_n hx hb d_M_set_86 rfl (lv_at hl 3 rfl) ?_
    refine lv_goto (tgt := 94) hx hb d_M_set_87 rfl ?_
    refine va_put (D := D) (ci := 5) (v := .int (eI z)) (ty := .int) (C := R_M) (T := T_M) (N := 23) hx hb htb in_M t_M t_M_ok n_M hown hK hP hD hS 0 rfl rfl 6 (by decide) (htb _ tb_594) (fun _ h9 => h9) rfl (by decide +kernel) rfl rfl (Nat.le_of_ble_eq_true rfl) d_M_set_94 (fun H locs hP hD hS => ?_)
    have hP : va_P D classes [((md 0), .inr (5, [.int (eI 0), .int (eI ((n : Nat) : Int)), .ref (md 1), .ref (md 2), .ref (md 3), .int (eI sh), .int (eI z), .ref (md 4), .ref (md 5), .ref (md 6), .ref (md 7), .ref (md 8), .long (eL up), .long (eL lw), .ref (md 9), .ref (md 10), .ref (md 11), .ref (md 12), .ref (md 13), .ref (md 14), .ref (md 15), .int (eI 0), .int (eI fo)])), ((md 1), aI cI 25 sc), ((md 2), aI cI 4 ln), ((md 3), aI cZ 4 cb), ((md 4), aI cZ 3 th), ((md 5), aI cI 3 pl), ((md 6), aI cI 3 lo), ((md 7), aI cI 3 pr), ((md 8), aI cI 30 la)] H := hP
    have hD : va_D A [((md 0), .inr (5, [.int (eI 0), .int (eI ((n : Nat) : Int)), .ref (md 1), .ref (md 2), .ref (md 3), .int (eI sh), .int (eI z), .ref (md 4), .ref (md 5), .ref (md 6), .ref (md 7), .ref (md 8), .long (eL up), .long (eL lw), .ref (md 9), .ref (md 10), .ref (md 11), .ref (md 12), .ref (md 13), .ref (md 14), .ref (md 15), .int (eI 0), .int (eI fo)])), ((md 1), aI cI 25 sc), ((md 2), aI cI 4 ln), ((md 3), aI cZ 4 cb), ((md 4), aI cZ 3 th), ((md 5), aI cI 3 pl), ((md 6), aI cI 3 lo), ((md 7), aI cI 3 pr), ((md 8), aI cI 30 la)] := hD
    subst hQ
    exact W.vret hx hb hrt (fun t9 ht hW => ⟨⟨(0, 0, sh, z), rfl, Or.inr (Or.inl ⟨hcas, rfl⟩), by rw [ht]; exact hP, hD⟩, hS.F ht⟩) hS.2.2 d_M_set_97
  ·
    refine lv_iload_n hx hb d_M_set_0 rfl (lv_at hl 1 rfl) ?_
    refine we_if_ne (tgt := 17) hx hb (by constructor <;> omega) d_M_set_1 rfl (fun hc1 => ?_) (fun hc1 => absurd hc1 (by omega))
    refine lv_iload_n hx hb d_M_set_17 rfl (lv_at hl 1 rfl) ?_
    refine lv_iconst (v := eI 1) hx hb d_M_set_18 rfl ?_
    refine we_icmp_ne (tgt := 36) hx hb (by constructor <;> omega) (by constructor <;> omega) d_M_set_19 rfl (fun hc19 => absurd hc19 (by omega)) (fun hc19 => ?_)
    refine lv_iload_n hx hb d_M_set_22 rfl (lv_at hl 2 rfl) ?_
    refine lv_iconst (v := eI 0) hx hb d_M_set_23 rfl ?_
    refine lv_bipush (v := eI 100) hx hb d_M_set_24 (by decide) ?_
    refine eh_cRS (As := [.int (eI z), .int (eI 0), .int (eI 100)]) (rest := []) (v := .int (eI (if 0 ≤ z ∧ z ≤ 100 then 1 else 0))) hx hb hml hown htb hN (r_M_within l D z 0 100 hz (by omega) (by omega)) 3 ⟨tb_670, tb_671, tb_7, kin_M_within⟩ dv_M_within ⟨by rw [hR1]; decide, by rw [hR2]; decide⟩ hK hP [] rfl [] rfl rfl rfl hl.1 (Nat.le_of_ble_eq_true rfl) d_M_set_26 ⟨Nat.zero_le _, Nat.zero_le _⟩ ?_
    refine we_if_eq (tgt := 36) hx hb (by constructor <;> split <;> omega) d_M_set_29 rfl (fun hc29 => ?_) (fun hc29 => absurd hc29 (by rw [if_neg hcas.2]; omega))
    refine lv_iconst (v := eI 0) hx hb d_M_set_36 rfl ?_
    refine lv_istore_n hx hb d_M_set_37 rfl hl (by decide) rfl (fun ls hl => ?_)
    have hl : lv_has ls 4 [(3, .int (eI 0)), (0, .ref (md 0)), (1, .int (eI y)), (2, .int (eI z))] := hl
    refine lv_aload_n hx hb d_M_set_38 rfl (lv_at hl 1 rfl) ?_
    refine lv_iload_n hx hb d_M_set_39 rfl (lv_at hl 0 rfl) ?_
    refine we_if_eq (tgt := 47) hx hb (by constructor <;> omega) d_M_set_40 rfl (fun hc40 => ?_) (fun hc40 => absurd hc40 (by omega))
    refine lv_iconst (v := eI 1) hx hb d_M_set_47 rfl ?_
    refine va_put (D := D) (ci := 5) (v := .int (eI 1)) (ty := .int) (C := R_M) (T := T_M) (N := 23) hx hb htb in_M t_M t_M_ok n_M hown hK hP hD hS 0 rfl rfl 0 (by decide) (htb _ tb_588) (fun _ h9 => h9) rfl (by decide +kernel) rfl rfl (Nat.le_of_ble_eq_true rfl) d_M_set_48 (fun H locs hP hD hS => ?_)
    have hP : va_P D classes [((md 0), .inr (5, [.int (eI 1), .int (eI ((n : Nat) : Int)), .ref (md 1), .ref (md 2), .ref (md 3), .int (eI sh), .int (eI ra), .ref (md 4), .ref (md 5), .ref (md 6), .ref (md 7), .ref (md 8), .long (eL up), .long (eL lw), .ref (md 9), .ref (md 10), .ref (md 11), .ref (md 12), .ref (md 13), .ref (md 14), .ref (md 15), .int (eI kn), .int (eI fo)])), ((md 1), aI cI 25 sc), ((md 2), aI cI 4 ln), ((md 3), aI cZ 4 cb), ((md 4), aI cZ 3 th), ((md 5), aI cI 3 pl), ((md 6), aI cI 3 lo), ((md 7), aI cI 3 pr), ((md 8), aI cI 30 la)] H := hP
    have hD : va_D A [((md 0), .inr (5, [.int (eI 1), .int (eI ((n : Nat) : Int)), .ref (md 1), .ref (md 2), .ref (md 3), .int (eI sh), .int (eI ra), .ref (md 4), .ref (md 5), .ref (md 6), .ref (md 7), .ref (md 8), .long (eL up), .long (eL lw), .ref (md 9), .ref (md 10), .ref (md 11), .ref (md 12), .ref (md 13), .ref (md 14), .ref (md 15), .int (eI kn), .int (eI fo)])), ((md 1), aI cI 25 sc), ((md 2), aI cI 4 ln), ((md 3), aI cZ 4 cb), ((md 4), aI cZ 3 th), ((md 5), aI cI 3 pl), ((md 6), aI cI 3 lo), ((md 7), aI cI 3 pr), ((md 8), aI cI 30 la)] := hD
    refine lv_aload_n hx hb d_M_set_51 rfl (lv_at hl 1 rfl) ?_
    refine va_get (D := D) (ci := 5) (v := .int (eI 1)) (C := R_M) (T := T_M) (N := 23) hx hb htb in_M hown hK hP 0 rfl rfl 0 (by decide) (htb _ tb_588) (fun _ h9 => h9) rfl d_M_set_52 ?_
    refine we_if_le (tgt := 59) hx hb (by constructor <;> omega) d_M_set_55 rfl (fun hc55 => absurd hc55 (by omega)) (fun hc55 => ?_)
    subst hQ
    exact W.vret hx hb hrt (fun t9 ht hW => ⟨⟨(1, kn, sh, ra), rfl, Or.inr (Or.inr ⟨by omega, by omega, rfl⟩), by rw [ht]; exact hP, hD⟩, hS.F ht⟩) hS.2.2 d_M_set_58
  ·
    refine lv_iload_n hx hb d_M_set_0 rfl (lv_at hl 1 rfl) ?_
    refine we_if_ne (tgt := 17) hx hb (by constructor <;> omega) d_M_set_1 rfl (fun hc1 => ?_) (fun hc1 => absurd hc1 (by omega))
    refine lv_iload_n hx hb d_M_set_17 rfl (lv_at hl 1 rfl) ?_
    refine lv_iconst (v := eI 1) hx hb d_M_set_18 rfl ?_
    refine we_icmp_ne (tgt := 36) hx hb (by constructor <;> omega) (by constructor <;> omega) d_M_set_19 rfl (fun hc19 => ?_) (fun hc19 => absurd hc19 (by omega))
    refine lv_iconst (v := eI 0) hx hb d_M_set_36 rfl ?_
    refine lv_istore_n hx hb d_M_set_37 rfl hl (by decide) rfl (fun ls hl => ?_)
    have hl : lv_has ls 4 [(3, .int (eI 0)), (0, .ref (md 0)), (1, .int (eI y)), (2, .int (eI z))] := hl
    refine lv_aload_n hx hb d_M_set_38 rfl (lv_at hl 1 rfl) ?_
    refine lv_iload_n hx hb d_M_set_39 rfl (lv_at hl 0 rfl) ?_
    refine we_if_eq (tgt := 47) hx hb (by constructor <;> omega) d_M_set_40 rfl (fun hc40 => ?_) (fun hc40 => absurd hc40 (by omega))
    refine lv_iconst (v := eI 1) hx hb d_M_set_47 rfl ?_
    refine va_put (D := D) (ci := 5) (v := .int (eI 1)) (ty := .int) (C := R_M) (T := T_M) (N := 23) hx hb htb in_M t_M t_M_ok n_M hown hK hP hD hS 0 rfl rfl 0 (by decide) (htb _ tb_588) (fun _ h9 => h9) rfl (by decide +kernel) rfl rfl (Nat.le_of_ble_eq_true rfl) d_M_set_48 (fun H locs hP hD hS => ?_)
    have hP : va_P D classes [((md 0), .inr (5, [.int (eI 1), .int (eI ((n : Nat) : Int)), .ref (md 1), .ref (md 2), .ref (md 3), .int (eI sh), .int (eI ra), .ref (md 4), .ref (md 5), .ref (md 6), .ref (md 7), .ref (md 8), .long (eL up), .long (eL lw), .ref (md 9), .ref (md 10), .ref (md 11), .ref (md 12), .ref (md 13), .ref (md 14), .ref (md 15), .int (eI kn), .int (eI fo)])), ((md 1), aI cI 25 sc), ((md 2), aI cI 4 ln), ((md 3), aI cZ 4 cb), ((md 4), aI cZ 3 th), ((md 5), aI cI 3 pl), ((md 6), aI cI 3 lo), ((md 7), aI cI 3 pr), ((md 8), aI cI 30 la)] H := hP
    have hD : va_D A [((md 0), .inr (5, [.int (eI 1), .int (eI ((n : Nat) : Int)), .ref (md 1), .ref (md 2), .ref (md 3), .int (eI sh), .int (eI ra), .ref (md 4), .ref (md 5), .ref (md 6), .ref (md 7), .ref (md 8), .long (eL up), .long (eL lw), .ref (md 9), .ref (md 10), .ref (md 11), .ref (md 12), .ref (md 13), .ref (md 14), .ref (md 15), .int (eI kn), .int (eI fo)])), ((md 1), aI cI 25 sc), ((md 2), aI cI 4 ln), ((md 3), aI cZ 4 cb), ((md 4), aI cZ 3 th), ((md 5), aI cI 3 pl), ((md 6), aI cI 3 lo), ((md 7), aI cI 3 pr), ((md 8), aI cI 30 la)] := hD
    refine lv_aload_n hx hb d_M_set_51 rfl (lv_at hl 1 rfl) ?_
    refine va_get (D := D) (ci := 5) (v := .int (eI 1)) (C := R_M) (T := T_M) (N := 23) hx hb htb in_M hown hK hP 0 rfl rfl 0 (by decide) (htb _ tb_588) (fun _ h9 => h9) rfl d_M_set_52 ?_
    refine we_if_le (tgt := 59) hx hb (by constructor <;> omega) d_M_set_55 rfl (fun hc55 => absurd hc55 (by omega)) (fun hc55 => ?_)
    subst hQ
    exact W.vret hx hb hrt (fun t9 ht hW => ⟨⟨(1, kn, sh, ra), rfl, Or.inr (Or.inr ⟨by omega, by omega, rfl⟩), by rw [ht]; exact hP, hD⟩, hS.F ht⟩) hS.2.2 d_M_set_58
abbrev c_M_border : ByteArray := prog_7_method_14_code
def y_M_border : MethodName := ⟨"EarthHaulsModel", "border", "(IZ)V"⟩
abbrev k_M_border : Cond := .code y_M_border c_M_border 3 none
theorem kin_M_border : k_M_border ∈ ew_t := tb_680
theorem dv_M_border : eh_dV y_M_border "EarthHaulsModel" 2 := ⟨rfl, by decide, by decide, by decide +kernel⟩
theorem d_M_border_0 : decode c_M_border 0 = .ok (.aload_n 0, 1) := by decide +kernel
theorem d_M_border_1 : decode c_M_border 1 = .ok (.aload_n 0, 1) := by decide +kernel
theorem d_M_border_2 : decode c_M_border 2 = .ok (.iload_n 1, 1) := by decide +kernel
theorem d_M_border_3 : decode c_M_border 3 = .ok (.invokevirtual 111, 3) := by decide +kernel
theorem d_M_border_6 : decode c_M_border 6 = .ok (.ifCond .ne 13, 3) := by decide +kernel
theorem d_M_border_9 : decode c_M_border 9 = .ok (.iload_n 1, 1) := by decide +kernel
theorem d_M_border_10 : decode c_M_border 10 = .ok (.aload_n 0, 1) := by decide +kernel
theorem d_M_border_11 : decode c_M_border 11 = .ok (.getfield 86, 3) := by decide +kernel
theorem d_M_border_14 : decode c_M_border 14 = .ok (.iconst 2, 1) := by decide +kernel
theorem d_M_border_15 : decode c_M_border 15 = .ok (.isub, 1) := by decide +kernel
theorem d_M_border_16 : decode c_M_border 16 = .ok (.if_icmp .lt 7, 3) := by decide +kernel
theorem d_M_border_19 : decode c_M_border 19 = .ok (.iconst 1, 1) := by decide +kernel
theorem d_M_border_20 : decode c_M_border 20 = .ok (.goto 18, 3) := by decide +kernel
theorem d_M_border_23 : decode c_M_border 23 = .ok (.aload_n 0, 1) := by decide +kernel
theorem d_M_border_24 : decode c_M_border 24 = .ok (.getfield 16, 3) := by decide +kernel
theorem d_M_border_27 : decode c_M_border 27 = .ok (.iload_n 1, 1) := by decide +kernel
theorem d_M_border_28 : decode c_M_border 28 = .ok (.baload, 1) := by decide +kernel
theorem d_M_border_29 : decode c_M_border 29 = .ok (.iload_n 2, 1) := by decide +kernel
theorem d_M_border_30 : decode c_M_border 30 = .ok (.if_icmp .ne 7, 3) := by decide +kernel
theorem d_M_border_33 : decode c_M_border 33 = .ok (.iconst 2, 1) := by decide +kernel
theorem d_M_border_34 : decode c_M_border 34 = .ok (.goto 4, 3) := by decide +kernel
theorem d_M_border_37 : decode c_M_border 37 = .ok (.iconst 0, 1) := by decide +kernel
theorem d_M_border_38 : decode c_M_border 38 = .ok (.putfield 64, 3) := by decide +kernel
theorem d_M_border_41 : decode c_M_border 41 = .ok (.aload_n 0, 1) := by decide +kernel
theorem d_M_border_42 : decode c_M_border 42 = .ok (.getfield 64, 3) := by decide +kernel
theorem d_M_border_45 : decode c_M_border 45 = .ok (.ifCond .le 4, 3) := by decide +kernel
theorem d_M_border_48 : decode c_M_border 48 = .ok (.return_, 1) := by decide +kernel
theorem d_M_border_49 : decode c_M_border 49 = .ok (.aload_n 0, 1) := by decide +kernel
theorem d_M_border_50 : decode c_M_border 50 = .ok (.iconst 0, 1) := by decide +kernel
theorem d_M_border_51 : decode c_M_border 51 = .ok (.putfield 103, 3) := by decide +kernel
theorem d_M_border_54 : decode c_M_border 54 = .ok (.aload_n 0, 1) := by decide +kernel
theorem d_M_border_55 : decode c_M_border 55 = .ok (.getfield 16, 3) := by decide +kernel
theorem d_M_border_58 : decode c_M_border 58 = .ok (.iload_n 1, 1) := by decide +kernel
theorem d_M_border_59 : decode c_M_border 59 = .ok (.iload_n 2, 1) := by decide +kernel
theorem d_M_border_60 : decode c_M_border 60 = .ok (.bastore, 1) := by decide +kernel
theorem d_M_border_61 : decode c_M_border 61 = .ok (.return_, 1) := by decide +kernel
set_option maxHeartbeats 1000000 in
set_option maxRecDepth 100000 in
theorem m_M_border_1 (l : Launch) (D : va_G) (cI cL cZ : ClassId) (md : Nat → Nat) (co : Int) (n : Nat) (sh ra up lw kn fo : Int) (sc ln cb th pl lo pr la : Nat → Int) (cu cl fu fl : Nat → Nat) (ys yl yp : Nat → Int) (y : Int) (hy : -2147483648 ≤ y ∧ y < 2147483648) (hM : eh_MS n sh ra sc ln cb th pl lo pr la cu cl fu fl ys yl yp) : eh_M (S := Int × Int × (Nat → Int)) l y_M_border k_M_border 1 21 D classes [(cI, .int), (cL, .long), (cZ, .boolean)] [.ref (md 0), .int (eI y), .int (eI 1)] [((md 0), .inr (5, [.int (eI co), .int (eI ((n : Nat) : Int)), .ref (md 1), .ref (md 2), .ref (md 3), .int (eI sh), .int (eI ra), .ref (md 4), .ref (md 5), .ref (md 6), .ref (md 7), .ref (md 8), .long (eL up), .long (eL lw), .ref (md 9), .ref (md 10), .ref (md 11), .ref (md 12), .ref (md 13), .ref (md 14), .ref (md 15), .int (eI kn), .int (eI fo)])), ((md 1), aI cI 25 sc), ((md 2), aI cI 4 ln), ((md 3), aI cZ 4 cb), ((md 4), aI cZ 3 th), ((md 5), aI cI 3 pl), ((md 6), aI cI 3 lo), ((md 7), aI cI 3 pr), ((md 8), aI cI 30 la)] (fun u => ((y < 0 ∨ (n : Int) ≤ y + 2) ∧ u = (1, kn, cb)) ∨ (¬ (y < 0 ∨ (n : Int) ≤ y + 2) ∧ cb y.toNat = 1 ∧ u = (2, kn, cb)) ∨ (¬ (y < 0 ∨ (n : Int) ≤ y + 2) ∧ ¬ cb y.toNat = 1 ∧ u = (0, 0, eh_upd cb y.toNat 1))) (fun _ => none) (fun u => [((md 0), .inr (5, [.int (eI u.1), .int (eI ((n : Nat) : Int)), .ref (md 1), .ref (md 2), .ref (md 3), .int (eI sh), .int (eI ra), .ref (md 4), .ref (md 5), .ref (md 6), .ref (md 7), .ref (md 8), .long (eL up), .long (eL lw), .ref (md 9), .ref (md 10), .ref (md 11), .ref (md 12), .ref (md 13), .ref (md 14), .ref (md 15), .int (eI u.2.1), .int (eI fo)])), ((md 1), aI cI 25 sc), ((md 2), aI cI 4 ln), ((md 3), aI cZ 4 u.2.2), ((md 4), aI cZ 3 th), ((md 5), aI cI 3 pl), ((md 6), aI cI 3 lo), ((md 7), aI cI 3 pr), ((md 8), aI cI 30 la)]) := by
  intro sz
  refine Met.ofW (cc := c_M_border) (maxL := 3) (ret := none) (by decide) rfl ?_
  intro p e s m args below meth c s₁ B hml hv
  obtain ⟨hargs, hsz, hP, hK, hD0, hN⟩ := hv
  have hx := B.exec
  have hb := B.bytes
  have hrt := B.returns
  have hts := atoms_spec (ws := k_M_border :: ew_t) B.pre
  have htb : ∀ w ∈ ew_t, w.before args s = true := fun w h => hts w (List.mem_cons_of_mem _ h)
  have hown : s.vm.findClass "EarthHaulsModel" = some m.cls := findClass_of_methodNamed B.named
  have hlocks := B.notSynchronized
  have hE : entryFrame m args 3 = entryFrame m ([.ref (md 0), .int (eI y), .int (eI 1)] : List Value).toArray 3 := by rw [hargs]
  rw [hE]
  clear hE hts B hargs
  generalize hRe : (headSpec _ _).room = R
  have hR1 : R.frames = 1 := by rw [← hRe]; rfl
  have hR2 : R.locals = 21 := by rw [← hRe]; rfl
  clear hRe
  generalize hQ : MQ below _ _ s 0 0 _ = Q
  subst hsz
  have hD := hD0.self (sz := s.heap.size)
  generalize hAe : va_A [((md 0), .inr (5, [.int (eI co), .int (eI ((n : Nat) : Int)), .ref (md 1), .ref (md 2), .ref (md 3), .int (eI sh), .int (eI ra), .ref (md 4), .ref (md 5), .ref (md 6), .ref (md 7), .ref (md 8), .long (eL up), .long (eL lw), .ref (md 9), .ref (md 10), .ref (md 11), .ref (md 12), .ref (md 13), .ref (md 14), .ref (md 15), .int (eI kn), .int (eI fo)])), ((md 1), aI cI 25 sc), ((md 2), aI cI 4 ln), ((md 3), aI cZ 4 cb), ((md 4), aI cZ 3 th), ((md 5), aI cI 3 pl), ((md 6), aI cI 3 lo), ((md 7), aI cI 3 pr), ((md 8), aI cI 30 la)] s.heap.size = A at hD hQ
  have hA : ∀ q : Nat, s.heap.size ≤ q → A q := fun q h => by rw [← hAe]; exact Or.inr h
  have hS : va_S A s.heap s.heap [] := va_S.rf
  have hP : va_P D classes [((md 0), .inr (5, [.int (eI co), .int (eI ((n : Nat) : Int)), .ref (md 1), .ref (md 2), .ref (md 3), .int (eI sh), .int (eI ra), .ref (md 4), .ref (md 5), .ref (md 6), .ref (md 7), .ref (md 8), .long (eL up), .long (eL lw), .ref (md 9), .ref (md 10), .ref (md 11), .ref (md 12), .ref (md 13), .ref (md 14), .ref (md 15), .int (eI kn), .int (eI fo)])), ((md 1), aI cI 25 sc), ((md 2), aI cI 4 ln), ((md 3), aI cZ 4 cb), ((md 4), aI cZ 3 th), ((md 5), aI cI 3 pl), ((md 6), aI cI 3 lo), ((md 7), aI cI 3 pr), ((md 8), aI cI 30 la)] s.heap := hP
  have hl := lv_entry ([.ref (md 0), .int (eI y), .int (eI 1)]) (n := 3) (Nat.le_of_ble_eq_true rfl)
  rw [lg_entry_eq]
  generalize (lg_sl ([.ref (md 0), .int (eI y), .int (eI 1)]) ++ List.replicate (3 - (lg_sl ([.ref (md 0), .int (eI y), .int (eI 1)])).length) Slot.unset).toArray = ls at hl ⊢
  have hl : lv_has ls 3 [(0, .ref (md 0)), (1, .int (eI y)), (2, .int (eI 1))] := hl
  have hn5 := hM.1.1
  rcases (show (y < 0 ∨ (n : Int) ≤ y + 1) ∨ (¬ (y < 0 ∨ (n : Int) ≤ y + 1) ∧ (n : Int) ≤ y + 2) ∨ ¬ (y < 0 ∨ (n : Int) ≤ y + 2) by omega) with hcas | hcas | hcas
  ·
    refine lv_aload_n hx hb d_M_border_0 rfl (lv_at hl 0 rfl) ?_
    refine lv_aload_n hx hb d_M_border_1 rfl (lv_at hl 0 rfl) ?_
    refine lv_iload_n hx hb d_M_border_2 rfl (lv_at hl 1 rfl) ?_
    refine eh_cRV (As := [.int (eI y)]) (rest := [.ref (md 0)]) (v := .int (eI (if (y < 0 ∨ (n : Int) ≤ y + 1) then 1 else 0))) (q := (R_M, T_M, 23)) hx hb hml hown htb hN (r_M_noSpan l D cI cL cZ md co n sh ra up lw kn fo sc ln cb th pl lo pr la cu cl fu fl ys yl yp y hy hM) 1 ⟨tb_681, tb_683, ts_29, tb_7, kin_M_noSpan⟩ dv_M_noSpan ⟨by rw [hR1]; decide, by rw [hR2]; decide⟩ hK hP 0 rfl rfl [0, 1, 2, 3, 4, 5, 6, 7, 8] rfl [0, 1, 2] rfl rfl rfl hl.1 (Nat.le_of_ble_eq_true rfl) d_M_border_3 ⟨Nat.zero_le _, Nat.zero_le _⟩ ?_
    refine we_if_ne (tgt := 19) hx hb (by constructor <;> split <;> omega) d_M_border_6 rfl (fun hc6 => ?_) (fun hc6 => absurd hc6 (by rw [if_pos hcas]; omega))
    refine lv_iconst (v := eI 1) hx hb d_M_border_19 rfl ?_
    refine lv_goto (tgt := 38) hx hb d_M_border_20 rfl ?_
    refine va_put (D := D) (ci := 5) (v := .int (eI 1)) (ty := .int) (C := R_M) (T := T_M) (N := 23) hx hb htb in_M t_M t_M_ok n_M hown hK hP hD hS 0 rfl rfl 0 (by decide) (htb _ tb_588) (fun _ h9 => h9) rfl (by decide +kernel) rfl rfl (Nat.le_of_ble_eq_true rfl) d_M_border_38 (fun H locs hP hD hS => ?_)
    have hP : va_P D classes [((md 0), .inr (5, [.int (eI 1), .int (eI ((n : Nat) : Int)), .ref (md 1), .ref (md 2), .ref (md 3), .int (eI sh), .int (eI ra), .ref (md 4), .ref (md 5), .ref (md 6), .ref (md 7), .ref (md 8), .long (eL up), .long (eL lw), .ref (md 9), .ref (md 10), .ref (md 11), .ref (md 12), .ref (md 13), .ref (md 14), .ref (md 15), .int (eI kn), .int (eI fo)])), ((md 1), aI cI 25 sc), ((md 2), aI cI 4 ln), ((md 3), aI cZ 4 cb), ((md 4), aI cZ 3 th), ((md 5), aI cI 3 pl), ((md 6), aI cI 3 lo), ((md 7), aI cI 3 pr), ((md 8), aI cI 30 la)] H := hP
    have hD : va_D A [((md 0), .inr (5, [.int (eI 1), .int (eI ((n : Nat) : Int)), .ref (md 1), .ref (md 2), .ref (md 3), .int (eI sh), .int (eI ra), .ref (md 4), .ref (md 5), .ref (md 6), .ref (md 7), .ref (md 8), .long (eL up), .long (eL lw), .ref (md 9), .ref (md 10), .ref (md 11), .ref (md 12), .ref (md 13), .ref (md 14), .ref (md 15), .int (eI kn), .int (eI fo)])), ((md 1), aI cI 25 sc), ((md 2), aI cI 4 ln), ((md 3), aI cZ 4 cb), ((md 4), aI cZ 3 th), ((md 5), aI cI 3 pl), ((md 6), aI cI 3 lo), ((md 7), aI cI 3 pr), ((md 8), aI cI 30 la)] := hD
    refine lv_aload_n hx hb d_M_border_41 rfl (lv_at hl 0 rfl) ?_
    refine va_get (D := D) (ci := 5) (v := .int (eI 1)) (C := R_M) (T := T_M) (N := 23) hx hb htb in_M hown hK hP 0 rfl rfl 0 (by decide) (htb _ tb_588) (fun _ h9 => h9) rfl d_M_border_42 ?_
    refine we_if_le (tgt := 49) hx hb (by constructor <;> omega) d_M_border_45 rfl (fun hc45 => absurd hc45 (by omega)) (fun hc45 => ?_)
    subst hQ
    exact W.vret hx hb hrt (fun t9 ht hW => ⟨⟨(1, kn, cb), rfl, Or.inl ⟨by omega, rfl⟩, by rw [ht]; exact hP, hD⟩, hS.F ht⟩) hS.2.2 d_M_border_48
  ·
    refine lv_aload_n hx hb d_M_border_0 rfl (lv_at hl 0 rfl) ?_
    refine lv_aload_n hx hb d_M_border_1 rfl (lv_at hl 0 rfl) ?_
    refine lv_iload_n hx hb d_M_border_2 rfl (lv_at hl 1 rfl) ?_
    refine eh_cRV (As := [.int (eI y)]) (rest := [.ref (md 0)]) (v := .int (eI (if (y < 0 ∨ (n : Int) ≤ y + 1) then 1 else 0))) (q := (R_M, T_M, 23)) hx hb hml hown htb hN (r_M_noSpan l D cI cL cZ md co n sh ra up lw kn fo sc ln cb th pl lo pr la cu cl fu fl ys yl yp y hy hM) 1 ⟨tb_681, tb_683, ts_29, tb_7, kin_M_noSpan⟩ dv_M_noSpan ⟨by rw [hR1]; decide, by rw [hR2]; decide⟩ hK hP 0 rfl rfl [0, 1, 2, 3, 4, 5, 6, 7, 8] rfl [0, 1, 2] rfl rfl rfl hl.1 (Nat.le_of_ble_eq_true rfl) d_M_border_3 ⟨Nat.zero_le _, Nat.zero_le _⟩ ?_
    refine we_if_ne (tgt := 19) hx hb (by constructor <;> split <;> omega) d_M_border_6 rfl (fun hc6 => absurd hc6 (by rw [if_neg hcas.1]; omega)) (fun hc6 => ?_)
    refine lv_iload_n hx hb d_M_border_9 rfl (lv_at hl 1 rfl) ?_
    refine lv_aload_n hx hb d_M_border_10 rfl (lv_at hl 0 rfl) ?_
    refine va_get (D := D) (ci := 5) (v := .int (eI ((n : Nat) : Int))) (C := R_M) (T := T_M) (N := 23) hx hb htb in_M hown hK hP 0 rfl rfl 1 (by decide) (htb _ tb_589) (fun _ h9 => h9) rfl d_M_border_11 ?_
    refine lv_iconst (v := eI 2) hx hb d_M_border_14 rfl ?_
    refine we_isub hx hb d_M_border_15 ?_
    refine we_icmp_lt (tgt := 23) hx hb (by constructor <;> omega) (by constructor <;> omega) d_M_border_16 rfl (fun hc16 => absurd hc16 (by omega)) (fun hc16 => ?_)
    refine lv_iconst (v := eI 1) hx hb d_M_border_19 rfl ?_
    refine lv_goto (tgt := 38) hx hb d_M_border_20 rfl ?_
    refine va_put (D := D) (ci := 5) (v := .int (eI 1)) (ty := .int) (C := R_M) (T := T_M) (N := 23) hx hb htb in_M t_M t_M_ok n_M hown hK hP hD hS 0 rfl rfl 0 (by decide) (htb _ tb_588) (fun _ h9 => h9) rfl (by decide +kernel) rfl rfl (Nat.le_of_ble_eq_true rfl) d_M_border_38 (fun H locs hP hD hS => ?_)
    have hP : va_P D classes [((md 0), .inr (5, [.int (eI 1), .int (eI ((n : Nat) : Int)), .ref (md 1), .ref (md 2), .ref (md 3), .int (eI sh), .int (eI ra), .ref (md 4), .ref (md 5), .ref (md 6), .ref (md 7), .ref (md 8), .long (eL up), .long (eL lw), .ref (md 9), .ref (md 10), .ref (md 11), .ref (md 12), .ref (md 13), .ref (md 14), .ref (md 15), .int (eI kn), .int (eI fo)])), ((md 1), aI cI 25 sc), ((md 2), aI cI 4 ln), ((md 3), aI cZ 4 cb), ((md 4), aI cZ 3 th), ((md 5), aI cI 3 pl), ((md 6), aI cI 3 lo), ((md 7), aI cI 3 pr), ((md 8), aI cI 30 la)] H := hP
    have hD : va_D A [((md 0), .inr (5, [.int (eI 1), .int (eI ((n : Nat) : Int)), .ref (md 1), .ref (md 2), .ref (md 3), .int (eI sh), .int (eI ra), .ref (md 4), .ref (md 5), .ref (md 6), .ref (md 7), .ref (md 8), .long (eL up), .long (eL lw), .ref (md 9), .ref (md 10), .ref (md 11), .ref (md 12), .ref (md 13), .ref (md 14), .ref (md 15), .int (eI kn), .int (eI fo)])), ((md 1), aI cI 25 sc), ((md 2), aI cI 4 ln), ((md 3), aI cZ 4 cb), ((md 4), aI cZ 3 th), ((md 5), aI cI 3 pl), ((md 6), aI cI 3 lo), ((md 7), aI cI 3 pr), ((md 8), aI cI 30 la)] := hD
    refine lv_aload_n hx hb d_M_border_41 rfl (lv_at hl 0 rfl) ?_
    refine va_get (D := D) (ci := 5) (v := .int (eI 1)) (C := R_M) (T := T_M) (N := 23) hx hb htb in_M hown hK hP 0 rfl rfl 0 (by decide) (htb _ tb_588) (fun _ h9 => h9) rfl d_M_border_42 ?_
    refine we_if_le (tgt := 49) hx hb (by constructor <;> omega) d_M_border_45 rfl (fun hc45 => absurd hc45 (by omega)) (fun hc45 => ?_)
    subst hQ
    exact W.vret hx hb hrt (fun t9 ht hW => ⟨⟨(1, kn, cb), rfl, Or.inl ⟨by omega, rfl⟩, by rw [ht]; exact hP, hD⟩, hS.F ht⟩) hS.2.2 d_M_border_48
  ·
    have hns : ¬ (y < 0 ∨ (n : Int) ≤ y + 1) := by omega
    have hcbb := hM.1.2.2.2.2.1 y.toNat (by omega)
    by_cases hsame : cb y.toNat = 1
    ·
      refine lv_aload_n hx hb d_M_border_0 rfl (lv_at hl 0 rfl) ?_
      refine lv_aload_n hx hb d_M_border_1 rfl (lv_at hl 0 rfl) ?_
      refine lv_iload_n hx hb d_M_border_2 rfl (lv_at hl 1 rfl) ?_
      refine eh_cRV (As := [.int (eI y)]) (rest := [.ref (md 0)]) (v := .int (eI (if (y < 0 ∨ (n : Int) ≤ y + 1) then 1 else 0))) (q := (R_M, T_M, 23)) hx hb hml hown htb hN (r_M_noSpan l D cI cL cZ md co n sh ra up lw kn fo sc ln cb th pl lo pr la cu cl fu fl ys yl yp y hy hM) 1 ⟨tb_681, tb_683, ts_29, tb_7, kin_M_noSpan⟩ dv_M_noSpan ⟨by rw [hR1]; decide, by rw [hR2]; decide⟩ hK hP 0 rfl rfl [0, 1, 2, 3, 4, 5, 6, 7, 8] rfl [0, 1, 2] rfl rfl rfl hl.1 (Nat.le_of_ble_eq_true rfl) d_M_border_3 ⟨Nat.zero_le _, Nat.zero_le _⟩ ?_
      refine we_if_ne (tgt := 19) hx hb (by constructor <;> split <;> omega) d_M_border_6 rfl (fun hc6 => absurd hc6 (by rw [if_neg hns]; omega)) (fun hc6 => ?_)
      refine lv_iload_n hx hb d_M_border_9 rfl (lv_at hl 1 rfl) ?_
      refine lv_aload_n hx hb d_M_border_10 rfl (lv_at hl 0 rfl) ?_
      refine va_get (D := D) (ci := 5) (v := .int (eI ((n : Nat) : Int))) (C := R_M) (T := T_M) (N := 23) hx hb htb in_M hown hK hP 0 rfl rfl 1 (by decide) (htb _ tb_589) (fun _ h9 => h9) rfl d_M_border_11 ?_
      refine lv_iconst (v := eI 2) hx hb d_M_border_14 rfl ?_
      refine we_isub hx hb d_M_border_15 ?_
      refine we_icmp_lt (tgt := 23) hx hb (by constructor <;> omega) (by constructor <;> omega) d_M_border_16 rfl (fun hc16 => ?_) (fun hc16 => absurd hc16 (by omega))
      refine lv_aload_n hx hb d_M_border_23 rfl (lv_at hl 0 rfl) ?_
      refine va_get (D := D) (ci := 5) (v := .ref (md 3)) (C := R_M) (T := T_M) (N := 23) hx hb htb in_M hown hK hP 0 rfl rfl 4 (by decide) (htb _ tb_592) (fun _ h9 => h9) rfl d_M_border_24 ?_
      refine lv_iload_n hx hb d_M_border_27 rfl (lv_at hl 1 rfl) ?_
      refine we_zald hx hb hK hP 3 2 rfl rfl y.toNat (by omega) (by omega) (by decide) d_M_border_28 ?_
      refine lv_iload_n hx hb d_M_border_29 rfl (lv_at hl 2 rfl) ?_
      refine we_icmp_ne (tgt := 37) hx hb (by constructor <;> omega) (by constructor <;> omega) d_M_border_30 rfl (fun hc30 => absurd hc30 (by omega)) (fun hc30 => ?_)
      refine lv_iconst (v := eI 2) hx hb d_M_border_33 rfl ?_
      refine lv_goto (tgt := 38) hx hb d_M_border_34 rfl ?_
      refine va_put (D := D) (ci := 5) (v := .int (eI 2)) (ty := .int) (C := R_M) (T := T_M) (N := 23) hx hb htb in_M t_M t_M_ok n_M hown hK hP hD hS 0 rfl rfl 0 (by decide) (htb _ tb_588) (fun _ h9 => h9) rfl (by decide +kernel) rfl rfl (Nat.le_of_ble_eq_true rfl) d_M_border_38 (fun H locs hP hD hS => ?_)
      have hP : va_P D classes [((md 0), .inr (5, [.int (eI 2), .int (eI ((n : Nat) : Int)), .ref (md 1), .ref (md 2), .ref (md 3), .int (eI sh), .int (eI ra), .ref (md 4), .ref (md 5), .ref (md 6), .ref (md 7), .ref (md 8), .long (eL up), .long (eL lw), .ref (md 9), .ref (md 10), .ref (md 11), .ref (md 12), .ref (md 13), .ref (md 14), .ref (md 15), .int (eI kn), .int (eI fo)])), ((md 1), aI cI 25 sc), ((md 2), aI cI 4 ln), ((md 3), aI cZ 4 cb), ((md 4), aI cZ 3 th), ((md 5), aI cI 3 pl), ((md 6), aI cI 3 lo), ((md 7), aI cI 3 pr), ((md 8), aI cI 30 la)] H := hP
      have hD : va_D A [((md 0), .inr (5, [.int (eI 2), .int (eI ((n : Nat) : Int)), .ref (md 1), .ref (md 2), .ref (md 3), .int (eI sh), .int (eI ra), .ref (md 4), .ref (md 5), .ref (md 6), .ref (md 7), .ref (md 8), .long (eL up), .long (eL lw), .ref (md 9), .ref (md 10), .ref (md 11), .ref (md 12), .ref (md 13), .ref (md 14), .ref (md 15), .int (eI kn), .int (eI fo)])), ((md 1), aI cI 25 sc), ((md 2), aI cI 4 ln), ((md 3), aI cZ 4 cb), ((md 4), aI cZ 3 th), ((md 5), aI cI 3 pl), ((md 6), aI cI 3 lo), ((md 7), aI cI 3 pr), ((md 8), aI cI 30 la)] := hD
      refine lv_aload_n hx hb d_M_border_41 rfl (lv_at hl 0 rfl) ?_
      refine va_get (D := D) (ci := 5) (v := .int (eI 2)) (C := R_M) (T := T_M) (N := 23) hx hb htb in_M hown hK hP 0 rfl rfl 0 (by decide) (htb _ tb_588) (fun _ h9 => h9) rfl d_M_border_42 ?_
      refine we_if_le (tgt := 49) hx hb (by constructor <;> omega) d_M_border_45 rfl (fun hc45 => absurd hc45 (by omega)) (fun hc45 => ?_)
      subst hQ
      exact W.vret hx hb hrt (fun t9 ht hW => ⟨⟨(2, kn, cb), rfl, Or.inr (Or.inl ⟨hcas, hsame, rfl⟩), by rw [ht]; exact hP, hD⟩, hS.F ht⟩) hS.2.2 d_M_border_48
    ·
      refine lv_aload_n hx hb d_M_border_0 rfl (lv_at hl 0 rfl) ?_
      refine lv_aload_n hx hb d_M_border_1 rfl (lv_at hl 0 rfl) ?_
      refine lv_iload_n hx hb d_M_border_2 rfl (lv_at hl 1 rfl) ?_
      refine eh_cRV (As := [.int (eI y)]) (rest := [.ref (md 0)]) (v := .int (eI (if (y < 0 ∨ (n : Int) ≤ y + 1) then 1 else 0))) (q := (R_M, T_M, 23)) hx hb hml hown htb hN (r_M_noSpan l D cI cL cZ md co n sh ra up lw kn fo sc ln cb th pl lo pr la cu cl fu fl ys yl yp y hy hM) 1 ⟨tb_681, tb_683, ts_29, tb_7, kin_M_noSpan⟩ dv_M_noSpan ⟨by rw [hR1]; decide, by rw [hR2]; decide⟩ hK hP 0 rfl rfl [0, 1, 2, 3, 4, 5, 6, 7, 8] rfl [0, 1, 2] rfl rfl rfl hl.1 (Nat.le_of_ble_eq_true rfl) d_M_border_3 ⟨Nat.zero_le _, Nat.zero_le _⟩ ?_
      refine we_if_ne (tgt := 19) hx hb (by constructor <;> split <;> omega) d_M_border_6 rfl (fun hc6 => absurd hc6 (by rw [if_neg hns]; omega)) (fun hc6 => ?_)
      refine lv_iload_n hx hb d_M_border_9 rfl (lv_at hl 1 rfl) ?_
      refine lv_aload_n hx hb d_M_border_10 rfl (lv_at hl 0 rfl) ?_
      refine va_get (D := D) (ci := 5) (v := .int (eI ((n : Nat) : Int))) (C := R_M) (T := T_M) (N := 23) hx hb htb in_M hown hK hP 0 rfl rfl 1 (by decide) (htb _ tb_589) (fun _ h9 => h9) rfl d_M_border_11 ?_
      refine lv_iconst (v := eI 2) hx hb d_M_border_14 rfl ?_
      refine we_isub hx hb d_M_border_15 ?_
      refine we_icmp_lt (tgt := 23) hx hb (by constructor <;> omega) (by constructor <;> omega) d_M_border_16 rfl (fun hc16 => ?_) (fun hc16 => absurd hc16 (by omega))
      refine lv_aload_n hx hb d_M_border_23 rfl (lv_at hl 0 rfl) ?_
      refine va_get (D := D) (ci := 5) (v := .ref (md 3)) (C := R_M) (T := T_M) (N := 23) hx hb htb in_M hown hK hP 0 rfl rfl 4 (by decide) (htb _ tb_592) (fun _ h9 => h9) rfl d_M_border_24 ?_
      refine lv_iload_n hx hb d_M_border_27 rfl (lv_at hl 1 rfl) ?_
      refine we_zald hx hb hK hP 3 2 rfl rfl y.toNat (by omega) (by omega) (by decide) d_M_border_28 ?_
      refine lv_iload_n hx hb d_M_border_29 rfl (lv_at hl 2 rfl) ?_
      refine we_icmp_ne (tgt := 37) hx hb (by constructor <;> omega) (by constructor <;> omega) d_M_border_30 rfl (fun hc30 => ?_) (fun hc30 => absurd hc30 (by omega))
      refine lv_iconst (v := eI 0) hx hb d_M_border_37 rfl ?_
      refine va_put (D := D) (ci := 5) (v := .int (eI 0)) (ty := .int) (C := R_M) (T := T_M) (N := 23) hx hb htb in_M t_M t_M_ok n_M hown hK hP hD hS 0 rfl rfl 0 (by decide) (htb _ tb_588) (fun _ h9 => h9) rfl (by decide +kernel) rfl rfl (Nat.le_of_ble_eq_true rfl) d_M_border_38 (fun H locs hP hD hS => ?_)
      have hP : va_P D classes [((md 0), .inr (5, [.int (eI 0), .int (eI ((n : Nat) : Int)), .ref (md 1), .ref (md 2), .ref (md 3), .int (eI sh), .int (eI ra), .ref (md 4), .ref (md 5), .ref (md 6), .ref (md 7), .ref (md 8), .long (eL up), .long (eL lw), .ref (md 9), .ref (md 10), .ref (md 11), .ref (md 12), .ref (md 13), .ref (md 14), .ref (md 15), .int (eI kn), .int (eI fo)])), ((md 1), aI cI 25 sc), ((md 2), aI cI 4 ln), ((md 3), aI cZ 4 cb), ((md 4), aI cZ 3 th), ((md 5), aI cI 3 pl), ((md 6), aI cI 3 lo), ((md 7), aI cI 3 pr), ((md 8), aI cI 30 la)] H := hP
      have hD : va_D A [((md 0), .inr (5, [.int (eI 0), .int (eI ((n : Nat) : Int)), .ref (md 1), .ref (md 2), .ref (md 3), .int (eI sh), .int (eI ra), .ref (md 4), .ref (md 5), .ref (md 6), .ref (md 7), .ref (md 8), .long (eL up), .long (eL lw), .ref (md 9), .ref (md 10), .ref (md 11), .ref (md 12), .ref (md 13), .ref (md 14), .ref (md 15), .int (eI kn), .int (eI fo)])), ((md 1), aI cI 25 sc), ((md 2), aI cI 4 ln), ((md 3), aI cZ 4 cb), ((md 4), aI cZ 3 th), ((md 5), aI cI 3 pl), ((md 6), aI cI 3 lo), ((md 7), aI cI 3 pr), ((md 8), aI cI 30 la)] := hD
      refine lv_aload_n hx hb d_M_border_41 rfl (lv_at hl 0 rfl) ?_
      refine va_get (D := D) (ci := 5) (v := .int (eI 0)) (C := R_M) (T := T_M) (N := 23) hx hb htb in_M hown hK hP 0 rfl rfl 0 (by decide) (htb _ tb_588) (fun _ h9 => h9) rfl d_M_border_42 ?_
      refine we_if_le (tgt := 49) hx hb (by constructor <;> omega) d_M_border_45 rfl (fun hc45 => ?_) (fun hc45 => absurd hc45 (by omega))
      refine lv_aload_n hx hb d_M_border_49 rfl (lv_at hl 0 rfl) ?_
      refine lv_iconst (v := eI 0) hx hb d_M_border_50 rfl ?_
      refine va_put (D := D) (ci := 5) (v := .int (eI 0)) (ty := .boolean) (C := R_M) (T := T_M) (N := 23) hx hb htb in_M t_M t_M_ok n_M hown hK hP hD hS 0 rfl rfl 21 (by decide) (htb _ tb_609) (fun _ h9 => h9) rfl (by decide +kernel) rfl rfl (Nat.le_of_ble_eq_true rfl) d_M_border_51 (fun H locs hP hD hS => ?_)
      have hP : va_P D classes [((md 0), .inr (5, [.int (eI 0), .int (eI ((n : Nat) : Int)), .ref (md 1), .ref (md 2), .ref (md 3), .int (eI sh), .int (eI ra), .ref (md 4), .ref (md 5), .ref (md 6), .ref (md 7), .ref (md 8), .long (eL up), .long (eL lw), .ref (md 9), .ref (md 10), .ref (md 11), .ref (md 12), .ref (md 13), .ref (md 14), .ref (md 15), .int (eI 0), .int (eI fo)])), ((md 1), aI cI 25 sc), ((md 2), aI cI 4 ln), ((md 3), aI cZ 4 cb), ((md 4), aI cZ 3 th), ((md 5), aI cI 3 pl), ((md 6), aI cI 3 lo), ((md 7), aI cI 3 pr), ((md 8), aI cI 30 la)] H := hP
      have hD : va_D A [((md 0), .inr (5, [.int (eI 0), .int (eI ((n : Nat) : Int)), .ref (md 1), .ref (md 2), .ref (md 3), .int (eI sh), .int (eI ra), .ref (md 4), .ref (md 5), .ref (md 6), .ref (md 7), .ref (md 8), .long (eL up), .long (eL lw), .ref (md 9), .ref (md 10), .ref (md 11), .ref (md 12), .ref (md 13), .ref (md 14), .ref (md 15), .int (eI 0), .int (eI fo)])), ((md 1), aI cI 25 sc), ((md 2), aI cI 4 ln), ((md 3), aI cZ 4 cb), ((md 4), aI cZ 3 th), ((md 5), aI cI 3 pl), ((md 6), aI cI 3 lo), ((md 7), aI cI 3 pr), ((md 8), aI cI 30 la)] := hD
      refine lv_aload_n hx hb d_M_border_54 rfl (lv_at hl 0 rfl) ?_
      refine va_get (D := D) (ci := 5) (v := .ref (md 3)) (C := R_M) (T := T_M) (N := 23) hx hb htb in_M hown hK hP 0 rfl rfl 4 (by decide) (htb _ tb_592) (fun _ h9 => h9) rfl d_M_border_55 ?_
      refine lv_iload_n hx hb d_M_border_58 rfl (lv_at hl 1 rfl) ?_
      refine lv_iload_n hx hb d_M_border_59 rfl (lv_at hl 2 rfl) ?_
      refine we_zast hx hb hK hP hD hS 3 2 rfl rfl y.toNat (by omega) (by omega) (by decide) (by omega) d_M_border_60 (fun H locs hP hD hS => ?_)
      have hP : va_P D classes [((md 0), .inr (5, [.int (eI 0), .int (eI ((n : Nat) : Int)), .ref (md 1), .ref (md 2), .ref (md 3), .int (eI sh), .int (eI ra), .ref (md 4), .ref (md 5), .ref (md 6), .ref (md 7), .ref (md 8), .long (eL up), .long (eL lw), .ref (md 9), .ref (md 10), .ref (md 11), .ref (md 12), .ref (md 13), .ref (md 14), .ref (md 15), .int (eI 0), .int (eI fo)])), ((md 1), aI cI 25 sc), ((md 2), aI cI 4 ln), ((md 3), aI cZ 4 (eh_upd cb y.toNat 1)), ((md 4), aI cZ 3 th), ((md 5), aI cI 3 pl), ((md 6), aI cI 3 lo), ((md 7), aI cI 3 pr), ((md 8), aI cI 30 la)] H := hP
      have hD : va_D A [((md 0), .inr (5, [.int (eI 0), .int (eI ((n : Nat) : Int)), .ref (md 1), .ref (md 2), .ref (md 3), .int (eI sh), .int (eI ra), .ref (md 4), .ref (md 5), .ref (md 6), .ref (md 7), .ref (md 8), .long (eL up), .long (eL lw), .ref (md 9), .ref (md 10), .ref (md 11), .ref (md 12), .ref (md 13), .ref (md 14), .ref (md 15), .int (eI 0), .int (eI fo)])), ((md 1), aI cI 25 sc), ((md 2), aI cI 4 ln), ((md 3), aI cZ 4 (eh_upd cb y.toNat 1)), ((md 4), aI cZ 3 th), ((md 5), aI cI 3 pl), ((md 6), aI cI 3 lo), ((md 7), aI cI 3 pr), ((md 8), aI cI 30 la)] := hD
      subst hQ
      exact W.vret hx hb hrt (fun t9 ht hW => ⟨⟨(0, 0, (eh_upd cb y.toNat 1)), rfl, Or.inr (Or.inr ⟨hcas, hsame, rfl⟩), by rw [ht]; exact hP, hD⟩, hS.F ht⟩) hS.2.2 d_M_border_61
set_option maxHeartbeats 1000000 in
set_option maxRecDepth 100000 in
theorem m_M_border_0 (l : Launch) (D : va_G) (cI cL cZ : ClassId) (md : Nat → Nat) (co : Int) (n : Nat) (sh ra up lw kn fo : Int) (sc ln cb th pl lo pr la : Nat → Int) (cu cl fu fl : Nat → Nat) (ys yl yp : Nat → Int) (y : Int) (hy : -2147483648 ≤ y ∧ y < 2147483648) (hM : eh_MS n sh ra sc ln cb th pl lo pr la cu cl fu fl ys yl yp) : eh_M (S := Int × Int × (Nat → Int)) l y_M_border k_M_border 1 21 D classes [(cI, .int), (cL, .long), (cZ, .boolean)] [.ref (md 0), .int (eI y), .int (eI 0)] [((md 0), .inr (5, [.int (eI co), .int (eI ((n : Nat) : Int)), .ref (md 1), .ref (md 2), .ref (md 3), .int (eI sh), .int (eI ra), .ref (md 4), .ref (md 5), .ref (md 6), .ref (md 7), .ref (md 8), .long (eL up), .long (eL lw), .ref (md 9), .ref (md 10), .ref (md 11), .ref (md 12), .ref (md 13), .ref (md 14), .ref (md 15), .int (eI kn), .int (eI fo)])), ((md 1), aI cI 25 sc), ((md 2), aI cI 4 ln), ((md 3), aI cZ 4 cb), ((md 4), aI cZ 3 th), ((md 5), aI cI 3 pl), ((md 6), aI cI 3 lo), ((md 7), aI cI 3 pr), ((md 8), aI cI 30 la)] (fun u => ((y < 0 ∨ (n : Int) ≤ y + 2) ∧ u = (1, kn, cb)) ∨ (¬ (y < 0 ∨ (n : Int) ≤ y + 2) ∧ cb y.toNat = 0 ∧ u = (2, kn, cb)) ∨ (¬ (y < 0 ∨ (n : Int) ≤ y + 2) ∧ ¬ cb y.toNat = 0 ∧ u = (0, 0, eh_upd cb y.toNat 0))) (fun _ => none) (fun u => [((md 0), .inr (5, [.int (eI u.1), .int (eI ((n : Nat) : Int)), .ref (md 1), .ref (md 2), .ref (md 3), .int (eI sh), .int (eI ra), .ref (md 4), .ref (md 5), .ref (md 6), .ref (md 7), .ref (md 8), .long (eL up), .long (eL lw), .ref (md 9), .ref (md 10), .ref (md 11), .ref (md 12), .ref (md 13), .ref (md 14), .ref (md 15), .int (eI u.2.1), .int (eI fo)])), ((md 1), aI cI 25 sc), ((md 2), aI cI 4 ln), ((md 3), aI cZ 4 u.2.2), ((md 4), aI cZ 3 th), ((md 5), aI cI 3 pl), ((md 6), aI cI 3 lo), ((md 7), aI cI 3 pr), ((md 8), aI cI 30 la)]) := by
  intro sz
  refine Met.ofW (cc := c_M_border) (maxL := 3) (ret := none) (by decide) rfl ?_
  intro p e s m args below meth c s₁ B hml hv
  obtain ⟨hargs, hsz, hP, hK, hD0, hN⟩ := hv
  have hx := B.exec
  have hb := B.bytes
  have hrt := B.returns
  have hts := atoms_spec (ws := k_M_border :: ew_t) B.pre
  have htb : ∀ w ∈ ew_t, w.before args s = true := fun w h => hts w (List.mem_cons_of_mem _ h)
  have hown : s.vm.findClass "EarthHaulsModel" = some m.cls := findClass_of_methodNamed B.named
  have hlocks := B.notSynchronized
  have hE : entryFrame m args 3 = entryFrame m ([.ref (md 0), .int (eI y), .int (eI 0)] : List Value).toArray 3 := by rw [hargs]
  rw [hE]
  clear hE hts B hargs
  generalize hRe : (headSpec _ _).room = R
  have hR1 : R.frames = 1 := by rw [← hRe]; rfl
  have hR2 : R.locals = 21 := by rw [← hRe]; rfl
  clear hRe
  generalize hQ : MQ below _ _ s 0 0 _ = Q
  subst hsz
  have hD := hD0.self (sz := s.heap.size)
  generalize hAe : va_A [((md 0), .inr (5, [.int (eI co), .int (eI ((n : Nat) : Int)), .ref (md 1), .ref (md 2), .ref (md 3), .int (eI sh), .int (eI ra), .ref (md 4), .ref (md 5), .ref (md 6), .ref (md 7), .ref (md 8), .long (eL up), .long (eL lw), .ref (md 9), .ref (md 10), .ref (md 11), .ref (md 12), .ref (md 13), .ref (md 14), .ref (md 15), .int (eI kn), .int (eI fo)])), ((md 1), aI cI 25 sc), ((md 2), aI cI 4 ln), ((md 3), aI cZ 4 cb), ((md 4), aI cZ 3 th), ((md 5), aI cI 3 pl), ((md 6), aI cI 3 lo), ((md 7), aI cI 3 pr), ((md 8), aI cI 30 la)] s.heap.size = A at hD hQ
  have hA : ∀ q : Nat, s.heap.size ≤ q → A q := fun q h => by rw [← hAe]; exact Or.inr h
  have hS : va_S A s.heap s.heap [] := va_S.rf
  have hP : va_P D classes [((md 0), .inr (5, [.int (eI co), .int (eI ((n : Nat) : Int)), .ref (md 1), .ref (md 2), .ref (md 3), .int (eI sh), .int (eI ra), .ref (md 4), .ref (md 5), .ref (md 6), .ref (md 7), .ref (md 8), .long (eL up), .long (eL lw), .ref (md 9), .ref (md 10), .ref (md 11), .ref (md 12), .ref (md 13), .ref (md 14), .ref (md 15), .int (eI kn), .int (eI fo)])), ((md 1), aI cI 25 sc), ((md 2), aI cI 4 ln), ((md 3), aI cZ 4 cb), ((md 4), aI cZ 3 th), ((md 5), aI cI 3 pl), ((md 6), aI cI 3 lo), ((md 7), aI cI 3 pr), ((md 8), aI cI 30 la)] s.heap := hP
  have hl := lv_entry ([.ref (md 0), .int (eI y), .int (eI 0)]) (n := 3) (Nat.le_of_ble_eq_true rfl)
  rw [lg_entry_eq]
  generalize (lg_sl ([.ref (md 0), .int (eI y), .int (eI 0)]) ++ List.replicate (3 - (lg_sl ([.ref (md 0), .int (eI y), .int (eI 0)])).length) Slot.unset).toArray = ls at hl ⊢
  have hl : lv_has ls 3 [(0, .ref (md 0)), (1, .int (eI y)), (2, .int (eI 0))] := hl
  have hn5 := hM.1.1
  rcases (show (y < 0 ∨ (n : Int) ≤ y + 1) ∨ (¬ (y < 0 ∨ (n : Int) ≤ y + 1) ∧ (n : Int) ≤ y + 2) ∨ ¬ (y < 0 ∨ (n : Int) ≤ y + 2) by omega) with hcas | hcas | hcas
  ·
    refine lv_aload_n hx hb d_M_border_0 rfl (lv_at hl 0 rfl) ?_
    refine lv_aload_n hx hb d_M_border_1 rfl (lv_at hl 0 rfl) ?_
    refine lv_iload_n hx hb d_M_border_2 rfl (lv_at hl 1 rfl) ?_
    refine eh_cRV (As := [.int (eI y)]) (rest := [.ref (md 0)]) (v := .int (eI (if (y < 0 ∨ (n : Int) ≤ y + 1) then 1 else 0))) (q := (R_M, T_M, 23)) hx hb hml hown htb hN (r_M_noSpan l D cI cL cZ md co n sh ra up lw kn fo sc ln cb th pl lo pr la cu cl fu fl ys yl yp y hy hM) 1 ⟨tb_681, tb_683, ts_29, tb_7, kin_M_noSpan⟩ dv_M_noSpan ⟨by rw [hR1]; decide, by rw [hR2]; decide⟩ hK hP 0 rfl rfl [0, 1, 2, 3, 4, 5, 6, 7, 8] rfl [0, 1, 2] rfl rfl rfl hl.1 (Nat.le_of_ble_eq_true rfl) d_M_border_3 ⟨Nat.zero_le _, Nat.zero_le _⟩ ?_
    refine we_if_ne (tgt := 19) hx hb (by constructor <;> split <;> omega) d_M_border_6 rfl (fun hc6 => ?_) (fun hc6 => absurd hc6 (by rw [if_pos hcas]; omega))
    refine lv_iconst (v := eI 1) hx hb d_M_border_19 rfl ?_
    refine lv_goto (tgt := 38) hx hb d_M_border_20 rfl ?_
    refine va_put (D := D) (ci := 5) (v := .int (eI 1)) (ty := .int) (C := R_M) (T := T_M) (N := 23) hx hb htb in_M t_M t_M_ok n_M hown hK hP hD hS 0 rfl rfl 0 (by decide) (htb _ tb_588) (fun _ h9 => h9) rfl (by decide +kernel) rfl rfl (Nat.le_of_ble_eq_true rfl) d_M_border_38 (fun H locs hP hD hS => ?_)
    have hP : va_P D classes [((md 0), .inr (5, [.int (eI 1), .int (eI ((n : Nat) : Int)), .ref (md 1), .ref (md 2), .ref (md 3), .int (eI sh), .int (eI ra), .ref (md 4), .ref (md 5), .ref (md 6), .ref (md 7), .ref (md 8), .long (eL up), .long (eL lw), .ref (md 9), .ref (md 10), .ref (md 11), .ref (md 12), .ref (md 13), .ref (md 14), .ref (md 15), .int (eI kn), .int (eI fo)])), ((md 1), aI cI 25 sc), ((md 2), aI cI 4 ln), ((md 3), aI cZ 4 cb), ((md 4), aI cZ 3 th), ((md 5), aI cI 3 pl), ((md 6), aI cI 3 lo), ((md 7), aI cI 3 pr), ((md 8), aI cI 30 la)] H := hP
    have hD : va_D A [((md 0), .inr (5, [.int (eI 1), .int (eI ((n : Nat) : Int)), .ref (md 1), .ref (md 2), .ref (md 3), .int (eI sh), .int (eI ra), .ref (md 4), .ref (md 5), .ref (md 6), .ref (md 7), .ref (md 8), .long (eL up), .long (eL lw), .ref (md 9), .ref (md 10), .ref (md 11), .ref (md 12), .ref (md 13), .ref (md 14), .ref (md 15), .int (eI kn), .int (eI fo)])), ((md 1), aI cI 25 sc), ((md 2), aI cI 4 ln), ((md 3), aI cZ 4 cb), ((md 4), aI cZ 3 th), ((md 5), aI cI 3 pl), ((md 6), aI cI 3 lo), ((md 7), aI cI 3 pr), ((md 8), aI cI 30 la)] := hD
    refine lv_aload_n hx hb d_M_border_41 rfl (lv_at hl 0 rfl) ?_
    refine va_get (D := D) (ci := 5) (v := .int (eI 1)) (C := R_M) (T := T_M) (N := 23) hx hb htb in_M hown hK hP 0 rfl rfl 0 (by decide) (htb _ tb_588) (fun _ h9 => h9) rfl d_M_border_42 ?_
    refine we_if_le (tgt := 49) hx hb (by constructor <;> omega) d_M_border_45 rfl (fun hc45 => absurd hc45 (by omega)) (fun hc45 => ?_)
    subst hQ
    exact W.vret hx hb hrt (fun t9 ht hW => ⟨⟨(1, kn, cb), rfl, Or.inl ⟨by omega, rfl⟩, by rw [ht]; exact hP, hD⟩, hS.F ht⟩) hS.2.2 d_M_border_48
  ·
    refine lv_aload_n hx hb d_M_border_0 rfl (lv_at hl 0 rfl) ?_
    refine lv_aload_n hx hb d_M_border_1 rfl (lv_at hl 0 rfl) ?_
    refine lv_iload_n hx hb d_M_border_2 rfl (lv_at hl 1 rfl) ?_
    refine eh_cRV (As := [.int (eI y)]) (rest := [.ref (md 0)]) (v := .int (eI (if (y < 0 ∨ (n : Int) ≤ y + 1) then 1 else 0))) (q := (R_M, T_M, 23)) hx hb hml hown htb hN (r_M_noSpan l D cI cL cZ md co n sh ra up lw kn fo sc ln cb th pl lo pr la cu cl fu fl ys yl yp y hy hM) 1 ⟨tb_681, tb_683, ts_29, tb_7, kin_M_noSpan⟩ dv_M_noSpan ⟨by rw [hR1]; decide, by rw [hR2]; decide⟩ hK hP 0 rfl rfl [0, 1, 2, 3, 4, 5, 6, 7, 8] rfl [0, 1, 2] rfl rfl rfl hl.1 (Nat.le_of_ble_eq_true rfl) d_M_border_3 ⟨Nat.zero_le _, Nat.zero_le _⟩ ?_
    refine we_if_ne (tgt := 19) hx hb (by constructor <;> split <;> omega) d_M_border_6 rfl (fun hc6 => absurd hc6 (by rw [if_neg hcas.1]; omega)) (fun hc6 => ?_)
    refine lv_iload_n hx hb d_M_border_9 rfl (lv_at hl 1 rfl) ?_
    refine lv_aload_n hx hb d_M_border_10 rfl (lv_at hl 0 rfl) ?_
    refine va_get (D := D) (ci := 5) (v := .int (eI ((n : Nat) : Int))) (C := R_M) (T := T_M) (N := 23) hx hb htb in_M hown hK hP 0 rfl rfl 1 (by decide) (htb _ tb_589) (fun _ h9 => h9) rfl d_M_border_11 ?_
    refine lv_iconst (v := eI 2) hx hb d_M_border_14 rfl ?_
    refine we_isub hx hb d_M_border_15 ?_
    refine we_icmp_lt (tgt := 23) hx hb (by constructor <;> omega) (by constructor <;> omega) d_M_border_16 rfl (fun hc16 => absurd hc16 (by omega)) (fun hc16 => ?_)
    refine lv_iconst (v := eI 1) hx hb d_M_border_19 rfl ?_
    refine lv_goto (tgt := 38) hx hb d_M_border_20 rfl ?_
    refine va_put (D := D) (ci := 5) (v := .int (eI 1)) (ty := .int) (C := R_M) (T := T_M) (N := 23) hx hb htb in_M t_M t_M_ok n_M hown hK hP hD hS 0 rfl rfl 0 (by decide) (htb _ tb_588) (fun _ h9 => h9) rfl (by decide +kernel) rfl rfl (Nat.le_of_ble_eq_true rfl) d_M_border_38 (fun H locs hP hD hS => ?_)
    have hP : va_P D classes [((md 0), .inr (5, [.int (eI 1), .int (eI ((n : Nat) : Int)), .ref (md 1), .ref (md 2), .ref (md 3), .int (eI sh), .int (eI ra), .ref (md 4), .ref (md 5), .ref (md 6), .ref (md 7), .ref (md 8), .long (eL up), .long (eL lw), .ref (md 9), .ref (md 10), .ref (md 11), .ref (md 12), .ref (md 13), .ref (md 14), .ref (md 15), .int (eI kn), .int (eI fo)])), ((md 1), aI cI 25 sc), ((md 2), aI cI 4 ln), ((md 3), aI cZ 4 cb), ((md 4), aI cZ 3 th), ((md 5), aI cI 3 pl), ((md 6), aI cI 3 lo), ((md 7), aI cI 3 pr), ((md 8), aI cI 30 la)] H := hP
    have hD : va_D A [((md 0), .inr (5, [.int (eI 1), .int (eI ((n : Nat) : Int)), .ref (md 1), .ref (md 2), .ref (md 3), .int (eI sh), .int (eI ra), .ref (md 4), .ref (md 5), .ref (md 6), .ref (md 7), .ref (md 8), .long (eL up), .long (eL lw), .ref (md 9), .ref (md 10), .ref (md 11), .ref (md 12), .ref (md 13), .ref (md 14), .ref (md 15), .int (eI kn), .int (eI fo)])), ((md 1), aI cI 25 sc), ((md 2), aI cI 4 ln), ((md 3), aI cZ 4 cb), ((md 4), aI cZ 3 th), ((md 5), aI cI 3 pl), ((md 6), aI cI 3 lo), ((md 7), aI cI 3 pr), ((md 8), aI cI 30 la)] := hD
    refine lv_aload_n hx hb d_M_border_41 rfl (lv_at hl 0 rfl) ?_
    refine va_get (D := D) (ci := 5) (v := .int (eI 1)) (C := R_M) (T := T_M) (N := 23) hx hb htb in_M hown hK hP 0 rfl rfl 0 (by decide) (htb _ tb_588) (fun _ h9 => h9) rfl d_M_border_42 ?_
    refine we_if_le (tgt := 49) hx hb (by constructor <;> omega) d_M_border_45 rfl (fun hc45 => absurd hc45 (by omega)) (fun hc45 => ?_)
    subst hQ
    exact W.vret hx hb hrt (fun t9 ht hW => ⟨⟨(1, kn, cb), rfl, Or.inl ⟨by omega, rfl⟩, by rw [ht]; exact hP, hD⟩, hS.F ht⟩) hS.2.2 d_M_border_48
  ·
    have hns : ¬ (y < 0 ∨ (n : Int) ≤ y + 1) := by omega
    have hcbb := hM.1.2.2.2.2.1 y.toNat (by omega)
    by_cases hsame : cb y.toNat = 0
    ·
      refine lv_aload_n hx hb d_M_border_0 rfl (lv_at hl 0 rfl) ?_
      refine lv_aload_n hx hb d_M_border_1 rfl (lv_at hl 0 rfl) ?_
      refine lv_iload_n hx hb d_M_border_2 rfl (lv_at hl 1 rfl) ?_
      refine eh_cRV (As := [.int (eI y)]) (rest := [.ref (md 0)]) (v := .int (eI (if (y < 0 ∨ (n : Int) ≤ y + 1) then 1 else 0))) (q := (R_M, T_M, 23)) hx hb hml hown htb hN (r_M_noSpan l D cI cL cZ md co n sh ra up lw kn fo sc ln cb th pl lo pr la cu cl fu fl ys yl yp y hy hM) 1 ⟨tb_681, tb_683, ts_29, tb_7, kin_M_noSpan⟩ dv_M_noSpan ⟨by rw [hR1]; decide, by rw [hR2]; decide⟩ hK hP 0 rfl rfl [0, 1, 2, 3, 4, 5, 6, 7, 8] rfl [0, 1, 2] rfl rfl rfl hl.1 (Nat.le_of_ble_eq_true rfl) d_M_border_3 ⟨Nat.zero_le _, Nat.zero_le _⟩ ?_
      refine we_if_ne (tgt := 19) hx hb (by constructor <;> split <;> omega) d_M_border_6 rfl (fun hc6 => absurd hc6 (by rw [if_neg hns]; omega)) (fun hc6 => ?_)
      refine lv_iload_n hx hb d_M_border_9 rfl (lv_at hl 1 rfl) ?_
      refine lv_aload_n hx hb d_M_border_10 rfl (lv_at hl 0 rfl) ?_
      refine va_get (D := D) (ci := 5) (v := .int (eI ((n : Nat) : Int))) (C := R_M) (T := T_M) (N := 23) hx hb htb in_M hown hK hP 0 rfl rfl 1 (by decide) (htb _ tb_589) (fun _ h9 => h9) rfl d_M_border_11 ?_
      refine lv_iconst (v := eI 2) hx hb d_M_border_14 rfl ?_
      refine we_isub hx hb d_M_border_15 ?_
      refine we_icmp_lt (tgt := 23) hx hb (by constructor <;> omega) (by constructor <;> omega) d_M_border_16 rfl (fun hc16 => ?_) (fun hc16 => absurd hc16 (by omega))
      refine lv_aload_n hx hb d_M_border_23 rfl (lv_at hl 0 rfl) ?_
      refine va_get (D := D) (ci := 5) (v := .ref (md 3)) (C := R_M) (T := T_M) (N := 23) hx hb htb in_M hown hK hP 0 rfl rfl 4 (by decide) (htb _ tb_592) (fun _ h9 => h9) rfl d_M_border_24 ?_
      refine lv_iload_n hx hb d_M_border_27 rfl (lv_at hl 1 rfl) ?_
      refine we_zald hx hb hK hP 3 2 rfl rfl y.toNat (by omega) (by omega) (by decide) d_M_border_28 ?_
      refine lv_iload_n hx hb d_M_border_29 rfl (lv_at hl 2 rfl) ?_
      refine we_icmp_ne (tgt := 37) hx hb (by constructor <;> omega) (by constructor <;> omega) d_M_border_30 rfl (fun hc30 => absurd hc30 (by omega)) (fun hc30 => ?_)
      refine lv_iconst (v := eI 2) hx hb d_M_border_33 rfl ?_
      refine lv_goto (tgt := 38) hx hb d_M_border_34 rfl ?_
      refine va_put (D := D) (ci := 5) (v := .int (eI 2)) (ty := .int) (C := R_M) (T := T_M) (N := 23) hx hb htb in_M t_M t_M_ok n_M hown hK hP hD hS 0 rfl rfl 0 (by decide) (htb _ tb_588) (fun _ h9 => h9) rfl (by decide +kernel) rfl rfl (Nat.le_of_ble_eq_true rfl) d_M_border_38 (fun H locs hP hD hS => ?_)
      have hP : va_P D classes [((md 0), .inr (5, [.int (eI 2), .int (eI ((n : Nat) : Int)), .ref (md 1), .ref (md 2), .ref (md 3), .int (eI sh), .int (eI ra), .ref (md 4), .ref (md 5), .ref (md 6), .ref (md 7), .ref (md 8), .long (eL up), .long (eL lw), .ref (md 9), .ref (md 10), .ref (md 11), .ref (md 12), .ref (md 13), .ref (md 14), .ref (md 15), .int (eI kn), .int (eI fo)])), ((md 1), aI cI 25 sc), ((md 2), aI cI 4 ln), ((md 3), aI cZ 4 cb), ((md 4), aI cZ 3 th), ((md 5), aI cI 3 pl), ((md 6), aI cI 3 lo), ((md 7), aI cI 3 pr), ((md 8), aI cI 30 la)] H := hP
      have hD : va_D A [((md 0), .inr (5, [.int (eI 2), .int (eI ((n : Nat) : Int)), .ref (md 1), .ref (md 2), .ref (md 3), .int (eI sh), .int (eI ra), .ref (md 4), .ref (md 5), .ref (md 6), .ref (md 7), .ref (md 8), .long (eL up), .long (eL lw), .ref (md 9), .ref (md 10), .ref (md 11), .ref (md 12), .ref (md 13), .ref (md 14), .ref (md 15), .int (eI kn), .int (eI fo)])), ((md 1), aI cI 25 sc), ((md 2), aI cI 4 ln), ((md 3), aI cZ 4 cb), ((md 4), aI cZ 3 th), ((md 5), aI cI 3 pl), ((md 6), aI cI 3 lo), ((md 7), aI cI 3 pr), ((md 8), aI cI 30 la)] := hD
      refine lv_aload_n hx hb d_M_border_41 rfl (lv_at hl 0 rfl) ?_
      refine va_get (D := D) (ci := 5) (v := .int (eI 2)) (C := R_M) (T := T_M) (N := 23) hx hb htb in_M hown hK hP 0 rfl rfl 0 (by decide) (htb _ tb_588) (fun _ h9 => h9) rfl d_M_border_42 ?_
      refine we_if_le (tgt := 49) hx hb (by constructor <;> omega) d_M_border_45 rfl (fun hc45 => absurd hc45 (by omega)) (fun hc45 => ?_)
      subst hQ
      exact W.vret hx hb hrt (fun t9 ht hW => ⟨⟨(2, kn, cb), rfl, Or.inr (Or.inl ⟨hcas, hsame, rfl⟩), by rw [ht]; exact hP, hD⟩, hS.F ht⟩) hS.2.2 d_M_border_48
    ·
      refine lv_aload_n hx hb d_M_border_0 rfl (lv_at hl 0 rfl) ?_
      refine lv_aload_n hx hb d_M_border_1 rfl (lv_at hl 0 rfl) ?_
      refine lv_iload_n hx hb d_M_border_2 rfl (lv_at hl 1 rfl) ?_
      refine eh_cRV (As := [.int (eI y)]) (rest := [.ref (md 0)]) (v := .int (eI (if (y < 0 ∨ (n : Int) ≤ y + 1) then 1 else 0))) (q := (R_M, T_M, 23)) hx hb hml hown htb hN (r_M_noSpan l D cI cL cZ md co n sh ra up lw kn fo sc ln cb th pl lo pr la cu cl fu fl ys yl yp y hy hM) 1 ⟨tb_681, tb_683, ts_29, tb_7, kin_M_noSpan⟩ dv_M_noSpan ⟨by rw [hR1]; decide, by rw [hR2]; decide⟩ hK hP 0 rfl rfl [0, 1, 2, 3, 4, 5, 6, 7, 8] rfl [0, 1, 2] rfl rfl rfl hl.1 (Nat.le_of_ble_eq_true rfl) d_M_border_3 ⟨Nat.zero_le _, Nat.zero_le _⟩ ?_
      refine we_if_ne (tgt := 19) hx hb (by constructor <;> split <;> omega) d_M_border_6 rfl (fun hc6 => absurd hc6 (by rw [if_neg hns]; omega)) (fun hc6 => ?_)
      refine lv_iload_n hx hb d_M_border_9 rfl (lv_at hl 1 rfl) ?_
      refine lv_aload_n hx hb d_M_border_10 rfl (lv_at hl 0 rfl) ?_
      refine va_get (D := D) (ci := 5) (v := .int (eI ((n : Nat) : Int))) (C := R_M) (T := T_M) (N := 23) hx hb htb in_M hown hK hP 0 rfl rfl 1 (by decide) (htb _ tb_589) (fun _ h9 => h9) rfl d_M_border_11 ?_
      refine lv_iconst (v := eI 2) hx hb d_M_border_14 rfl ?_
      refine we_isub hx hb d_M_border_15 ?_
      refine we_icmp_lt (tgt := 23) hx hb (by constructor <;> omega) (by constructor <;> omega) d_M_border_16 rfl (fun hc16 => ?_) (fun hc16 => absurd hc16 (by omega))
      refine lv_aload_n hx hb d_M_border_23 rfl (lv_at hl 0 rfl) ?_
      refine va_get (D := D) (ci := 5) (v := .ref (md 3)) (C := R_M) (T := T_M) (N := 23) hx hb htb in_M hown hK hP 0 rfl rfl 4 (by decide) (htb _ tb_592) (fun _ h9 => h9) rfl d_M_border_24 ?_
      refine lv_iload_n hx hb d_M_border_27 rfl (lv_at hl 1 rfl) ?_
      refine we_zald hx hb hK hP 3 2 rfl rfl y.toNat (by omega) (by omega) (by decide) d_M_border_28 ?_
      refine lv_iload_n hx hb d_M_border_29 rfl (lv_at hl 2 rfl) ?_
      refine we_icmp_ne (tgt := 37) hx hb (by constructor <;> omega) (by constructor <;> omega) d_M_border_30 rfl (fun hc30 => ?_) (fun hc30 => absurd hc30 (by omega))
      refine lv_iconst (v := eI 0) hx hb d_M_border_37 rfl ?_
      refine va_put (D := D) (ci := 5) (v := .int (eI 0)) (ty := .int) (C := R_M) (T := T_M) (N := 23) hx hb htb in_M t_M t_M_ok n_M hown hK hP hD hS 0 rfl rfl 0 (by decide) (htb _ tb_588) (fun _ h9 => h9) rfl (by decide +kernel) rfl rfl (Nat.le_of_ble_eq_true rfl) d_M_border_38 (fun H locs hP hD hS => ?_)
      have hP : va_P D classes [((md 0), .inr (5, [.int (eI 0), .int (eI ((n : Nat) : Int)), .ref (md 1), .ref (md 2), .ref (md 3), .int (eI sh), .int (eI ra), .ref (md 4), .ref (md 5), .ref (md 6), .ref (md 7), .ref (md 8), .long (eL up), .long (eL lw), .ref (md 9), .ref (md 10), .ref (md 11), .ref (md 12), .ref (md 13), .ref (md 14), .ref (md 15), .int (eI kn), .int (eI fo)])), ((md 1), aI cI 25 sc), ((md 2), aI cI 4 ln), ((md 3), aI cZ 4 cb), ((md 4), aI cZ 3 th), ((md 5), aI cI 3 pl), ((md 6), aI cI 3 lo), ((md 7), aI cI 3 pr), ((md 8), aI cI 30 la)] H := hP
      have hD : va_D A [((md 0), .inr (5, [.int (eI 0), .int (eI ((n : Nat) : Int)), .ref (md 1), .ref (md 2), .ref (md 3), .int (eI sh), .int (eI ra), .ref (md 4), .ref (md 5), .ref (md 6), .ref (md 7), .ref (md 8), .long (eL up), .long (eL lw), .ref (md 9), .ref (md 10), .ref (md 11), .ref (md 12), .ref (md 13), .ref (md 14), .ref (md 15), .int (eI kn), .int (eI fo)])), ((md 1), aI cI 25 sc), ((md 2), aI cI 4 ln), ((md 3), aI cZ 4 cb), ((md 4), aI cZ 3 th), ((md 5), aI cI 3 pl), ((md 6), aI cI 3 lo), ((md 7), aI cI 3 pr), ((md 8), aI cI 30 la)] := hD
      refine lv_aload_n hx hb d_M_border_41 rfl (lv_at hl 0 rfl) ?_
      refine va_get (D := D) (ci := 5) (v := .int (eI 0)) (C := R_M) (T := T_M) (N := 23) hx hb htb in_M hown hK hP 0 rfl rfl 0 (by decide) (htb _ tb_588) (fun _ h9 => h9) rfl d_M_border_42 ?_
      refine we_if_le (tgt := 49) hx hb (by constructor <;> omega) d_M_border_45 rfl (fun hc45 => ?_) (fun hc45 => absurd hc45 (by omega))
      refine lv_aload_n hx hb d_M_border_49 rfl (lv_at hl 0 rfl) ?_
      refine lv_iconst (v := eI 0) hx hb d_M_border_50 rfl ?_
      refine va_put (D := D) (ci := 5) (v := .int (eI 0)) (ty := .boolean) (C := R_M) (T := T_M) (N := 23) hx hb htb in_M t_M t_M_ok n_M hown hK hP hD hS 0 rfl rfl 21 (by decide) (htb _ tb_609) (fun _ h9 => h9) rfl (by decide +kernel) rfl rfl (Nat.le_of_ble_eq_true rfl) d_M_border_51 (fun H locs hP hD hS => ?_)
      have hP : va_P D classes [((md 0), .inr (5, [.int (eI 0), .int (eI ((n : Nat) : Int)), .ref (md 1), .ref (md 2), .ref (md 3), .int (eI sh), .int (eI ra), .ref (md 4), .ref (md 5), .ref (md 6), .ref (md 7), .ref (md 8), .long (eL up), .long (eL lw), .ref (md 9), .ref (md 10), .ref (md 11), .ref (md 12), .ref (md 13), .ref (md 14), .ref (md 15), .int (eI 0), .int (eI fo)])), ((md 1), aI cI 25 sc), ((md 2), aI cI 4 ln), ((md 3), aI cZ 4 cb), ((md 4), aI cZ 3 th), ((md 5), aI cI 3 pl), ((md 6), aI cI 3 lo), ((md 7), aI cI 3 pr), ((md 8), aI cI 30 la)] H := hP
      have hD : va_D A [((md 0), .inr (5, [.int (eI 0), .int (eI ((n : Nat) : Int)), .ref (md 1), .ref (md 2), .ref (md 3), .int (eI sh), .int (eI ra), .ref (md 4), .ref (md 5), .ref (md 6), .ref (md 7), .ref (md 8), .long (eL up), .long (eL lw), .ref (md 9), .ref (md 10), .ref (md 11), .ref (md 12), .ref (md 13), .ref (md 14), .ref (md 15), .int (eI 0), .int (eI fo)])), ((md 1), aI cI 25 sc), ((md 2), aI cI 4 ln), ((md 3), aI cZ 4 cb), ((md 4), aI cZ 3 th), ((md 5), aI cI 3 pl), ((md 6), aI cI 3 lo), ((md 7), aI cI 3 pr), ((md 8), aI cI 30 la)] := hD
      refine lv_aload_n hx hb d_M_border_54 rfl (lv_at hl 0 rfl) ?_
      refine va_get (D := D) (ci := 5) (v := .ref (md 3)) (C := R_M) (T := T_M) (N := 23) hx hb htb in_M hown hK hP 0 rfl rfl 4 (by decide) (htb _ tb_592) (fun _ h9 => h9) rfl d_M_border_55 ?_
      refine lv_iload_n hx hb d_M_border_58 rfl (lv_at hl 1 rfl) ?_
      refine lv_iload_n hx hb d_M_border_59 rfl (lv_at hl 2 rfl) ?_
      refine we_zast hx hb hK hP hD hS 3 2 rfl rfl y.toNat (by omega) (by omega) (by decide) (by omega) d_M_border_60 (fun H locs hP hD hS => ?_)
      have hP : va_P D classes [((md 0), .inr (5, [.int (eI 0), .int (eI ((n : Nat) : Int)), .ref (md 1), .ref (md 2), .ref (md 3), .int (eI sh), .int (eI ra), .ref (md 4), .ref (md 5), .ref (md 6), .ref (md 7), .ref (md 8), .long (eL up), .long (eL lw), .ref (md 9), .ref (md 10), .ref (md 11), .ref (md 12), .ref (md 13), .ref (md 14), .ref (md 15), .int (eI 0), .int (eI fo)])), ((md 1), aI cI 25 sc), ((md 2), aI cI 4 ln), ((md 3), aI cZ 4 (eh_upd cb y.toNat 0)), ((md 4), aI cZ 3 th), ((md 5), aI cI 3 pl), ((md 6), aI cI 3 lo), ((md 7), aI cI 3 pr), ((md 8), aI cI 30 la)] H := hP
      have hD : va_D A [((md 0), .inr (5, [.int (eI 0), .int (eI ((n : Nat) : Int)), .ref (md 1), .ref (md 2), .ref (md 3), .int (eI sh), .int (eI ra), .ref (md 4), .ref (md 5), .ref (md 6), .ref (md 7), .ref (md 8), .long (eL up), .long (eL lw), .ref (md 9), .ref (md 10), .ref (md 11), .ref (md 12), .ref (md 13), .ref (md 14), .ref (md 15), .int (eI 0), .int (eI fo)])), ((md 1), aI cI 25 sc), ((md 2), aI cI 4 ln), ((md 3), aI cZ 4 (eh_upd cb y.toNat 0)), ((md 4), aI cZ 3 th), ((md 5), aI cI 3 pl), ((md 6), aI cI 3 lo), ((md 7), aI cI 3 pr), ((md 8), aI cI 30 la)] := hD
      subst hQ
      exact W.vret hx hb hrt (fun t9 ht hW => ⟨⟨(0, 0, (eh_upd cb y.toNat 0)), rfl, Or.inr (Or.inr ⟨hcas, hsame, rfl⟩), by rw [ht]; exact hP, hD⟩, hS.F ht⟩) hS.2.2 d_M_border_61
