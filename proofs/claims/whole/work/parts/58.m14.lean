abbrev c_M_clear : ByteArray := prog_7_method_10_code
def y_M_clear : MethodName := ⟨"EarthHaulsModel", "clear", "()V"⟩
abbrev k_M_clear : Cond := .code y_M_clear c_M_clear 2 none
theorem kin_M_clear : k_M_clear ∈ ew_t := tb_665
theorem dv_M_clear : eh_dV y_M_clear "EarthHaulsModel" 0 := ⟨rfl, by decide, by decide, by decide +kernel⟩
theorem d_M_clear_0 : decode c_M_clear 0 = .ok (.aload_n 0, 1) := by decide +kernel
theorem d_M_clear_1 : decode c_M_clear 1 = .ok (.iconst 0, 1) := by decide +kernel
theorem d_M_clear_2 : decode c_M_clear 2 = .ok (.putfield 64, 3) := by decide +kernel
theorem d_M_clear_5 : decode c_M_clear 5 = .ok (.aload_n 0, 1) := by decide +kernel
theorem d_M_clear_6 : decode c_M_clear 6 = .ok (.iconst 0, 1) := by decide +kernel
theorem d_M_clear_7 : decode c_M_clear 7 = .ok (.putfield 103, 3) := by decide +kernel
theorem d_M_clear_10 : decode c_M_clear 10 = .ok (.aload_n 0, 1) := by decide +kernel
theorem d_M_clear_11 : decode c_M_clear 11 = .ok (.iconst 0, 1) := by decide +kernel
theorem d_M_clear_12 : decode c_M_clear 12 = .ok (.putfield 86, 3) := by decide +kernel
theorem d_M_clear_15 : decode c_M_clear 15 = .ok (.aload_n 0, 1) := by decide +kernel
theorem d_M_clear_16 : decode c_M_clear 16 = .ok (.sipush 1000, 3) := by decide +kernel
theorem d_M_clear_19 : decode c_M_clear 19 = .ok (.putfield 20, 3) := by decide +kernel
theorem d_M_clear_22 : decode c_M_clear 22 = .ok (.aload_n 0, 1) := by decide +kernel
theorem d_M_clear_23 : decode c_M_clear 23 = .ok (.iconst 1, 1) := by decide +kernel
theorem d_M_clear_24 : decode c_M_clear 24 = .ok (.putfield 24, 3) := by decide +kernel
theorem d_M_clear_27 : decode c_M_clear 27 = .ok (.iconst 0, 1) := by decide +kernel
theorem d_M_clear_28 : decode c_M_clear 28 = .ok (.istore_n 1, 1) := by decide +kernel
theorem d_M_clear_29 : decode c_M_clear 29 = .ok (.iload_n 1, 1) := by decide +kernel
theorem d_M_clear_30 : decode c_M_clear 30 = .ok (.iconst 4, 1) := by decide +kernel
theorem d_M_clear_31 : decode c_M_clear 31 = .ok (.if_icmp .ge 16, 3) := by decide +kernel
theorem d_M_clear_34 : decode c_M_clear 34 = .ok (.aload_n 0, 1) := by decide +kernel
theorem d_M_clear_35 : decode c_M_clear 35 = .ok (.getfield 16, 3) := by decide +kernel
theorem d_M_clear_38 : decode c_M_clear 38 = .ok (.iload_n 1, 1) := by decide +kernel
theorem d_M_clear_39 : decode c_M_clear 39 = .ok (.iconst 0, 1) := by decide +kernel
theorem d_M_clear_40 : decode c_M_clear 40 = .ok (.bastore, 1) := by decide +kernel
theorem d_M_clear_41 : decode c_M_clear 41 = .ok (.iinc 1 1, 3) := by decide +kernel
theorem d_M_clear_44 : decode c_M_clear 44 = .ok (.goto (-15), 3) := by decide +kernel
theorem d_M_clear_47 : decode c_M_clear 47 = .ok (.iconst 0, 1) := by decide +kernel
theorem d_M_clear_48 : decode c_M_clear 48 = .ok (.istore_n 1, 1) := by decide +kernel
theorem d_M_clear_49 : decode c_M_clear 49 = .ok (.iload_n 1, 1) := by decide +kernel
theorem d_M_clear_50 : decode c_M_clear 50 = .ok (.iconst 3, 1) := by decide +kernel
theorem d_M_clear_51 : decode c_M_clear 51 = .ok (.if_icmp .ge 16, 3) := by decide +kernel
theorem d_M_clear_54 : decode c_M_clear 54 = .ok (.aload_n 0, 1) := by decide +kernel
theorem d_M_clear_55 : decode c_M_clear 55 = .ok (.getfield 27, 3) := by decide +kernel
theorem d_M_clear_58 : decode c_M_clear 58 = .ok (.iload_n 1, 1) := by decide +kernel
theorem d_M_clear_59 : decode c_M_clear 59 = .ok (.iconst 0, 1) := by decide +kernel
theorem d_M_clear_60 : decode c_M_clear 60 = .ok (.bastore, 1) := by decide +kernel
theorem d_M_clear_61 : decode c_M_clear 61 = .ok (.iinc 1 1, 3) := by decide +kernel
theorem d_M_clear_64 : decode c_M_clear 64 = .ok (.goto (-15), 3) := by decide +kernel
theorem d_M_clear_67 : decode c_M_clear 67 = .ok (.iconst 0, 1) := by decide +kernel
theorem d_M_clear_68 : decode c_M_clear 68 = .ok (.istore_n 1, 1) := by decide +kernel
theorem d_M_clear_69 : decode c_M_clear 69 = .ok (.iload_n 1, 1) := by decide +kernel
theorem d_M_clear_70 : decode c_M_clear 70 = .ok (.bipush 30, 2) := by decide +kernel
theorem d_M_clear_72 : decode c_M_clear 72 = .ok (.if_icmp .ge 16, 3) := by decide +kernel
theorem d_M_clear_75 : decode c_M_clear 75 = .ok (.aload_n 0, 1) := by decide +kernel
theorem d_M_clear_76 : decode c_M_clear 76 = .ok (.getfield 39, 3) := by decide +kernel
theorem d_M_clear_79 : decode c_M_clear 79 = .ok (.iload_n 1, 1) := by decide +kernel
theorem d_M_clear_80 : decode c_M_clear 80 = .ok (.iconst 0, 1) := by decide +kernel
theorem d_M_clear_81 : decode c_M_clear 81 = .ok (.iastore, 1) := by decide +kernel
theorem d_M_clear_82 : decode c_M_clear 82 = .ok (.iinc 1 1, 3) := by decide +kernel
theorem d_M_clear_85 : decode c_M_clear 85 = .ok (.goto (-16), 3) := by decide +kernel
theorem d_M_clear_88 : decode c_M_clear 88 = .ok (.return_, 1) := by decide +kernel
set_option maxHeartbeats 1000000 in
set_option maxRecDepth 100000 in
theorem m_M_clear (l : Launch) (D : va_G) (cI cL cZ : ClassId) (md : Nat → Nat) (co : Int) (n : Nat) (sh ra up lw kn fo : Int) (sc ln cb th pl lo pr la : Nat → Int) (cu cl fu fl : Nat → Nat) (ys yl yp : Nat → Int) : eh_M (S := (Nat → Int) × (Nat → Int) × (Nat → Int)) l y_M_clear k_M_clear 0 0 D classes [(cI, .int), (cL, .long), (cZ, .boolean)] [.ref (md 0)] [((md 0), .inr (5, [.int (eI co), .int (eI ((n : Nat) : Int)), .ref (md 1), .ref (md 2), .ref (md 3), .int (eI sh), .int (eI ra), .ref (md 4), .ref (md 5), .ref (md 6), .ref (md 7), .ref (md 8), .long (eL up), .long (eL lw), .ref (md 9), .ref (md 10), .ref (md 11), .ref (md 12), .ref (md 13), .ref (md 14), .ref (md 15), .int (eI kn), .int (eI fo)])), ((md 1), aI cI 25 sc), ((md 2), aI cI 4 ln), ((md 3), aI cZ 4 cb), ((md 4), aI cZ 3 th), ((md 5), aI cI 3 pl), ((md 6), aI cI 3 lo), ((md 7), aI cI 3 pr), ((md 8), aI cI 30 la)] (fun u => (∀ d, d < 4 → u.1 d = 0) ∧ (∀ d, d < 3 → u.2.1 d = 0) ∧ (∀ d, d < 30 → u.2.2 d = 0)) (fun _ => none) (fun u => [((md 0), .inr (5, [.int (eI 0), .int (eI 0), .ref (md 1), .ref (md 2), .ref (md 3), .int (eI 1000), .int (eI 1), .ref (md 4), .ref (md 5), .ref (md 6), .ref (md 7), .ref (md 8), .long (eL up), .long (eL lw), .ref (md 9), .ref (md 10), .ref (md 11), .ref (md 12), .ref (md 13), .ref (md 14), .ref (md 15), .int (eI 0), .int (eI fo)])), ((md 1), aI cI 25 sc), ((md 2), aI cI 4 ln), ((md 3), aI cZ 4 u.1), ((md 4), aI cZ 3 u.2.1), ((md 5), aI cI 3 pl), ((md 6), aI cI 3 lo), ((md 7), aI cI 3 pr), ((md 8), aI cI 30 u.2.2)]) := by
  intro sz
  refine Met.ofW (cc := c_M_clear) (maxL := 2) (ret := none) (by decide) rfl ?_
  intro p e s m args below meth c s₁ B hml hv
  obtain ⟨hargs, hsz, hP, hK, hD0, hN⟩ := hv
  have hx := B.exec
  have hb := B.bytes
  have hrt := B.returns
  have hts := atoms_spec (ws := k_M_clear :: ew_t) B.pre
  have htb : ∀ w ∈ ew_t, w.before args s = true := fun w h => hts w (List.mem_cons_of_mem _ h)
  have hown : s.vm.findClass "EarthHaulsModel" = some m.cls := findClass_of_methodNamed B.named
  have hlocks := B.notSynchronized
  have hE : entryFrame m args 2 = entryFrame m ([.ref (md 0)] : List Value).toArray 2 := by rw [hargs]
  rw [hE]
  clear hE hts B hargs
  generalize hRe : (headSpec _ _).room = R
  have hR1 : R.frames = 0 := by rw [← hRe]; rfl
  have hR2 : R.locals = 0 := by rw [← hRe]; rfl
  clear hRe
  generalize hQ : MQ below _ _ s 0 0 _ = Q
  subst hsz
  have hD := hD0.self (sz := s.heap.size)
  generalize hAe : va_A [((md 0), .inr (5, [.int (eI co), .int (eI ((n : Nat) : Int)), .ref (md 1), .ref (md 2), .ref (md 3), .int (eI sh), .int (eI ra), .ref (md 4), .ref (md 5), .ref (md 6), .ref (md 7), .ref (md 8), .long (eL up), .long (eL lw), .ref (md 9), .ref (md 10), .ref (md 11), .ref (md 12), .ref (md 13), .ref (md 14), .ref (md 15), .int (eI kn), .int (eI fo)])), ((md 1), aI cI 25 sc), ((md 2), aI cI 4 ln), ((md 3), aI cZ 4 cb), ((md 4), aI cZ 3 th), ((md 5), aI cI 3 pl), ((md 6), aI cI 3 lo), ((md 7), aI cI 3 pr), ((md 8), aI cI 30 la)] s.heap.size = A at hD hQ
  have hA : ∀ q : Nat, s.heap.size ≤ q → A q := fun q h => by rw [← hAe]; exact Or.inr h
  have hS : va_S A s.heap s.heap [] := va_S.rf
  have hP : va_P D classes [((md 0), .inr (5, [.int (eI co), .int (eI ((n : Nat) : Int)), .ref (md 1), .ref (md 2), .ref (md 3), .int (eI sh), .int (eI ra), .ref (md 4), .ref (md 5), .ref (md 6), .ref (md 7), .ref (md 8), .long (eL up), .long (eL lw), .ref (md 9), .ref (md 10), .ref (md 11), .ref (md 12), .ref (md 13), .ref (md 14), .ref (md 15), .int (eI kn), .int (eI fo)])), ((md 1), aI cI 25 sc), ((md 2), aI cI 4 ln), ((md 3), aI cZ 4 cb), ((md 4), aI cZ 3 th), ((md 5), aI cI 3 pl), ((md 6), aI cI 3 lo), ((md 7), aI cI 3 pr), ((md 8), aI cI 30 la)] s.heap := hP
  have hl := lv_entry ([.ref (md 0)]) (n := 2) (Nat.le_of_ble_eq_true rfl)
  rw [lg_entry_eq]
  generalize (lg_sl ([.ref (md 0)]) ++ List.replicate (2 - (lg_sl ([.ref (md 0)])).length) Slot.unset).toArray = ls at hl ⊢
  have hl : lv_has ls 2 [(0, .ref (md 0))] := hl
  refine lv_aload_n hx hb d_M_clear_0 rfl (lv_at hl 0 rfl) ?_
  refine lv_iconst (v := eI 0) hx hb d_M_clear_1 rfl ?_
  refine va_put (D := D) (ci := 5) (v := .int (eI 0)) (ty := .int) (C := R_M) (T := T_M) (N := 23) hx hb htb in_M t_M t_M_ok n_M hown hK hP hD hS 0 rfl rfl 0 (by decide) (htb _ tb_588) (fun _ h9 => h9) rfl (by decide +kernel) rfl rfl (Nat.le_of_ble_eq_true rfl) d_M_clear_2 (fun H locs hP hD hS => ?_)
  have hP : va_P D classes [((md 0), .inr (5, [.int (eI 0), .int (eI ((n : Nat) : Int)), .ref (md 1), .ref (md 2), .ref (md 3), .int (eI sh), .int (eI ra), .ref (md 4), .ref (md 5), .ref (md 6), .ref (md 7), .ref (md 8), .long (eL up), .long (eL lw), .ref (md 9), .ref (md 10), .ref (md 11), .ref (md 12), .ref (md 13), .ref (md 14), .ref (md 15), .int (eI kn), .int (eI fo)])), ((md 1), aI cI 25 sc), ((md 2), aI cI 4 ln), ((md 3), aI cZ 4 cb), ((md 4), aI cZ 3 th), ((md 5), aI cI 3 pl), ((md 6), aI cI 3 lo), ((md 7), aI cI 3 pr), ((md 8), aI cI 30 la)] H := hP
  have hD : va_D A [((md 0), .inr (5, [.int (eI 0), .int (eI ((n : Nat) : Int)), .ref (md 1), .ref (md 2), .ref (md 3), .int (eI sh), .int (eI ra), .ref (md 4), .ref (md 5), .ref (md 6), .ref (md 7), .ref (md 8), .long (eL up), .long (eL lw), .ref (md 9), .ref (md 10), .ref (md 11), .ref (md 12), .ref (md 13), .ref (md 14), .ref (md 15), .int (eI kn), .int (eI fo)])), ((md 1), aI cI 25 sc), ((md 2), aI cI 4 ln), ((md 3), aI cZ 4 cb), ((md 4), aI cZ 3 th), ((md 5), aI cI 3 pl), ((md 6), aI cI 3 lo), ((md 7), aI cI 3 pr), ((md 8), aI cI 30 la)] := hD
  refine lv_aload_n hx hb d_M_clear_5 rfl (lv_at hl 0 rfl) ?_
  refine lv_iconst (v := eI 0) hx hb d_M_clear_6 rfl ?_
  refine va_put (D := D) (ci := 5) (v := .int (eI 0)) (ty := .boolean) (C := R_M) (T := T_M) (N := 23) hx hb htb in_M t_M t_M_ok n_M hown hK hP hD hS 0 rfl rfl 21 (by decide) (htb _ tb_609) (fun _ h9 => h9) rfl (by decide +kernel) rfl rfl (Nat.le_of_ble_eq_true rfl) d_M_clear_7 (fun H locs hP hD hS => ?_)
  have hP : va_P D classes [((md 0), .inr (5, [.int (eI 0), .int (eI ((n : Nat) : Int)), .ref (md 1), .ref (md 2), .ref (md 3), .int (eI sh), .int (eI ra), .ref (md 4), .ref (md 5), .ref (md 6), .ref (md 7), .ref (md 8), .long (eL up), .long (eL lw), .ref (md 9), .ref (md 10), .ref (md 11), .ref (md 12), .ref (md 13), .ref (md 14), .ref (md 15), .int (eI 0), .int (eI fo)])), ((md 1), aI cI 25 sc), ((md 2), aI cI 4 ln), ((md 3), aI cZ 4 cb), ((md 4), aI cZ 3 th), ((md 5), aI cI 3 pl), ((md 6), aI cI 3 lo), ((md 7), aI cI 3 pr), ((md 8), aI cI 30 la)] H := hP
  have hD : va_D A [((md 0), .inr (5, [.int (eI 0), .int (eI ((n : Nat) : Int)), .ref (md 1), .ref (md 2), .ref (md 3), .int (eI sh), .int (eI ra), .ref (md 4), .ref (md 5), .ref (md 6), .ref (md 7), .ref (md 8), .long (eL up), .long (eL lw), .ref (md 9), .ref (md 10), .ref (md 11), .ref (md 12), .ref (md 13), .ref (md 14), .ref (md 15), .int (eI 0), .int (eI fo)])), ((md 1), aI cI 25 sc), ((md 2), aI cI 4 ln), ((md 3), aI cZ 4 cb), ((md 4), aI cZ 3 th), ((md 5), aI cI 3 pl), ((md 6), aI cI 3 lo), ((md 7), aI cI 3 pr), ((md 8), aI cI 30 la)] := hD
  refine lv_aload_n hx hb d_M_clear_10 rfl (lv_at hl 0 rfl) ?_
  refine lv_iconst (v := eI 0) hx hb d_M_clear_11 rfl ?_
  refine va_put (D := D) (ci := 5) (v := .int (eI 0)) (ty := .int) (C := R_M) (T := T_M) (N := 23) hx hb htb in_M t_M t_M_ok n_M hown hK hP hD hS 0 rfl rfl 1 (by decide) (htb _ tb_589) (fun _ h9 => h9) rfl (by decide +kernel) rfl rfl (Nat.le_of_ble_eq_true rfl) d_M_clear_12 (fun H locs hP hD hS => ?_)
  have hP : va_P D classes [((md 0), .inr (5, [.int (eI 0), .int (eI 0), .ref (md 1), .ref (md 2), .ref (md 3), .int (eI sh), .int (eI ra), .ref (md 4), .ref (md 5), .ref (md 6), .ref (md 7), .ref (md 8), .long (eL up), .long (eL lw), .ref (md 9), .ref (md 10), .ref (md 11), .ref (md 12), .ref (md 13), .ref (md 14), .ref (md 15), .int (eI 0), .int (eI fo)])), ((md 1), aI cI 25 sc), ((md 2), aI cI 4 ln), ((md 3), aI cZ 4 cb), ((md 4), aI cZ 3 th), ((md 5), aI cI 3 pl), ((md 6), aI cI 3 lo), ((md 7), aI cI 3 pr), ((md 8), aI cI 30 la)] H := hP
  have hD : va_D A [((md 0), .inr (5, [.int (eI 0), .int (eI 0), .ref (md 1), .ref (md 2), .ref (md 3), .int (eI sh), .int (eI ra), .ref (md 4), .ref (md 5), .ref (md 6), .ref (md 7), .ref (md 8), .long (eL up), .long (eL lw), .ref (md 9), .ref (md 10), .ref (md 11), .ref (md 12), .ref (md 13), .ref (md 14), .ref (md 15), .int (eI 0), .int (eI fo)])), ((md 1), aI cI 25 sc), ((md 2), aI cI 4 ln), ((md 3), aI cZ 4 cb), ((md 4), aI cZ 3 th), ((md 5), aI cI 3 pl), ((md 6), aI cI 3 lo), ((md 7), aI cI 3 pr), ((md 8), aI cI 30 la)] := hD
  refine lv_aload_n hx hb d_M_clear_15 rfl (lv_at hl 0 rfl) ?_
  refine lv_sipush (v := eI 1000) hx hb d_M_clear_16 (by decide) ?_
  refine va_put (D := D) (ci := 5) (v := .int (eI 1000)) (ty := .int) (C := R_M) (T := T_M) (N := 23) hx hb htb in_M t_M t_M_ok n_M hown hK hP hD hS 0 rfl rfl 5 (by decide) (htb _ tb_593) (fun _ h9 => h9) rfl (by decide +kernel) rfl rfl (Nat.le_of_ble_eq_true rfl) d_M_clear_19 (fun H locs hP hD hS => ?_)
  have hP : va_P D classes [((md 0), .inr (5, [.int (eI 0), .int (eI 0), .ref (md 1), .ref (md 2), .ref (md 3), .int (eI 1000), .int (eI ra), .ref (md 4), .ref (md 5), .ref (md 6), .ref (md 7), .ref (md 8), .long (eL up), .long (eL lw), .ref (md 9), .ref (md 10), .ref (md 11), .ref (md 12), .ref (md 13), .ref (md 14), .ref (md 15), .int (eI 0), .int (eI fo)])), ((md 1), aI cI 25 sc), ((md 2), aI cI 4 ln), ((md 3), aI cZ 4 cb), ((md 4), aI cZ 3 th), ((md 5), aI cI 3 pl), ((md 6), aI cI 3 lo), ((md 7), aI cI 3 pr), ((md 8), aI cI 30 la)] H := hP
  have hD : va_D A [((md 0), .inr (5, [.int (eI 0), .int (eI 0), .ref (md 1), .ref (md 2), .ref (md 3), .int (eI 1000), .int (eI ra), .ref (md 4), .ref (md 5), .ref (md 6), .ref (md 7), .ref (md 8), .long (eL up), .long (eL lw), .ref (md 9), .ref (md 10), .ref (md 11), .ref (md 12), .ref (md 13), .ref (md 14), .ref (md 15), .int (eI 0), .int (eI fo)])), ((md 1), aI cI 25 sc), ((md 2), aI cI 4 ln), ((md 3), aI cZ 4 cb), ((md 4), aI cZ 3 th), ((md 5), aI cI 3 pl), ((md 6), aI cI 3 lo), ((md 7), aI cI 3 pr), ((md 8), aI cI 30 la)] := hD
  refine lv_aload_n hx hb d_M_clear_22 rfl (lv_at hl 0 rfl) ?_
  refine lv_iconst (v := eI 1) hx hb d_M_clear_23 rfl ?_
  refine va_put (D := D) (ci := 5) (v := .int (eI 1)) (ty := .int) (C := R_M) (T := T_M) (N := 23) hx hb htb in_M t_M t_M_ok n_M hown hK hP hD hS 0 rfl rfl 6 (by decide) (htb _ tb_594) (fun _ h9 => h9) rfl (by decide +kernel) rfl rfl (Nat.le_of_ble_eq_true rfl) d_M_clear_24 (fun H locs hP hD hS => ?_)
  have hP : va_P D classes [((md 0), .inr (5, [.int (eI 0), .int (eI 0), .ref (md 1), .ref (md 2), .ref (md 3), .int (eI 1000), .int (eI 1), .ref (md 4), .ref (md 5), .ref (md 6), .ref (md 7), .ref (md 8), .long (eL up), .long (eL lw), .ref (md 9), .ref (md 10), .ref (md 11), .ref (md 12), .ref (md 13), .ref (md 14), .ref (md 15), .int (eI 0), .int (eI fo)])), ((md 1), aI cI 25 sc), ((md 2), aI cI 4 ln), ((md 3), aI cZ 4 cb), ((md 4), aI cZ 3 th), ((md 5), aI cI 3 pl), ((md 6), aI cI 3 lo), ((md 7), aI cI 3 pr), ((md 8), aI cI 30 la)] H := hP
  have hD : va_D A [((md 0), .inr (5, [.int (eI 0), .int (eI 0), .ref (md 1), .ref (md 2), .ref (md 3), .int (eI 1000), .int (eI 1), .ref (md 4), .ref (md 5), .ref (md 6), .ref (md 7), .ref (md 8), .long (eL up), .long (eL lw), .ref (md 9), .ref (md 10), .ref (md 11), .ref (md 12), .ref (md 13), .ref (md 14), .ref (md 15), .int (eI 0), .int (eI fo)])), ((md 1), aI cI 25 sc), ((md 2), aI cI 4 ln), ((md 3), aI cZ 4 cb), ((md 4), aI cZ 3 th), ((md 5), aI cI 3 pl), ((md 6), aI cI 3 lo), ((md 7), aI cI 3 pr), ((md 8), aI cI 30 la)] := hD
  refine lv_iconst (v := eI 0) hx hb d_M_clear_27 rfl ?_
  refine lv_istore_n hx hb d_M_clear_28 rfl hl (by decide) rfl (fun ls hl => ?_)
  have hl : lv_has ls 2 [(1, .int (eI 0)), (0, .ref (md 0))] := hl
  have l1 : ∀ (q i : Nat) (cb9 : Nat → Int) (H : Heap) (locs : List Loc) (ls : Array Slot), 4 - i = q → i ≤ 4 → (∀ d, d < i → cb9 d = 0) → lv_has ls 2 [(1, .int (eI ((i : Nat) : Int))), (0, .ref (md 0))] → va_P D classes [((md 0), .inr (5, [.int (eI 0), .int (eI 0), .ref (md 1), .ref (md 2), .ref (md 3), .int (eI 1000), .int (eI 1), .ref (md 4), .ref (md 5), .ref (md 6), .ref (md 7), .ref (md 8), .long (eL up), .long (eL lw), .ref (md 9), .ref (md 10), .ref (md 11), .ref (md 12), .ref (md 13), .ref (md 14), .ref (md 15), .int (eI 0), .int (eI fo)])), ((md 1), aI cI 25 sc), ((md 2), aI cI 4 ln), ((md 3), aI cZ 4 cb9), ((md 4), aI cZ 3 th), ((md 5), aI cI 3 pl), ((md 6), aI cI 3 lo), ((md 7), aI cI 3 pr), ((md 8), aI cI 30 la)] H → va_D A [((md 0), .inr (5, [.int (eI 0), .int (eI 0), .ref (md 1), .ref (md 2), .ref (md 3), .int (eI 1000), .int (eI 1), .ref (md 4), .ref (md 5), .ref (md 6), .ref (md 7), .ref (md 8), .long (eL up), .long (eL lw), .ref (md 9), .ref (md 10), .ref (md 11), .ref (md 12), .ref (md 13), .ref (md 14), .ref (md 15), .int (eI 0), .int (eI fo)])), ((md 1), aI cI 25 sc), ((md 2), aI cI 4 ln), ((md 3), aI cZ 4 cb9), ((md 4), aI cZ 3 th), ((md 5), aI cI 3 pl), ((md 6), aI cI 3 lo), ((md 7), aI cI 3 pr), ((md 8), aI cI 30 la)] → va_S A s.heap H locs → W p l e R s m args below meth c H locs 0 0 Q (F0 m 29 ls []) := by
    intro q
    induction q with
    | zero =>
      intro i cb9 H locs ls hq hi hcb9 hl hP hD hS
      have hiN : i = 4 := by omega
      subst hiN
      refine lv_iload_n hx hb d_M_clear_29 rfl (lv_at hl 0 rfl) ?_
      refine lv_iconst (v := eI 4) hx hb d_M_clear_30 rfl ?_
      refine we_icmp_ge (tgt := 47) hx hb (by constructor <;> omega) (by constructor <;> omega) d_M_clear_31 rfl (fun hc31 => ?_) (fun hc31 => absurd hc31 (by omega))
      refine lv_iconst (v := eI 0) hx hb d_M_clear_47 rfl ?_
      refine lv_istore_n hx hb d_M_clear_48 rfl hl (by decide) rfl (fun ls hl => ?_)
      have hl : lv_has ls 2 [(1, .int (eI 0)), (0, .ref (md 0))] := hl
      have l2 : ∀ (q i : Nat) (th9 : Nat → Int) (H : Heap) (locs : List Loc) (ls : Array Slot), 3 - i = q → i ≤ 3 → (∀ d, d < i → th9 d = 0) → lv_has ls 2 [(1, .int (eI ((i : Nat) : Int))), (0, .ref (md 0))] → va_P D classes [((md 0), .inr (5, [.int (eI 0), .int (eI 0), .ref (md 1), .ref (md 2), .ref (md 3), .int (eI 1000), .int (eI 1), .ref (md 4), .ref (md 5), .ref (md 6), .ref (md 7), .ref (md 8), .long (eL up), .long (eL lw), .ref (md 9), .ref (md 10), .ref (md 11), .ref (md 12), .ref (md 13), .ref (md 14), .ref (md 15), .int (eI 0), .int (eI fo)])), ((md 1), aI cI 25 sc), ((md 2), aI cI 4 ln), ((md 3), aI cZ 4 cb9), ((md 4), aI cZ 3 th9), ((md 5), aI cI 3 pl), ((md 6), aI cI 3 lo), ((md 7), aI cI 3 pr), ((md 8), aI cI 30 la)] H → va_D A [((md 0), .inr (5, [.int (eI 0), .int (eI 0), .ref (md 1), .ref (md 2), .ref (md 3), .int (eI 1000), .int (eI 1), .ref (md 4), .ref (md 5), .ref (md 6), .ref (md 7), .ref (md 8), .long (eL up), .long (eL lw), .ref (md 9), .ref (md 10), .ref (md 11), .ref (md 12), .ref (md 13), .ref (md 14), .ref (md 15), .int (eI 0), .int (eI fo)])), ((md 1), aI cI 25 sc), ((md 2), aI cI 4 ln), ((md 3), aI cZ 4 cb9), ((md 4), aI cZ 3 th9), ((md 5), aI cI 3 pl), ((md 6), aI cI 3 lo), ((md 7), aI cI 3 pr), ((md 8), aI cI 30 la)] → va_S A s.heap H locs → W p l e R s m args below meth c H locs 0 0 Q (F0 m 49 ls []) := by
        intro q
        induction q with
        | zero =>
          intro i th9 H locs ls hq hi hth9 hl hP hD hS
          have hiN : i = 3 := by omega
          subst hiN
          refine lv_iload_n hx hb d_M_clear_49 rfl (lv_at hl 0 rfl) ?_
          refine lv_iconst (v := eI 3) hx hb d_M_clear_50 rfl ?_
          refine we_icmp_ge (tgt := 67) hx hb (by constructor <;> omega) (by constructor <;> omega) d_M_clear_51 rfl (fun hc51 => ?_) (fun hc51 => absurd hc51 (by omega))
          refine lv_iconst (v := eI 0) hx hb d_M_clear_67 rfl ?_
          refine lv_istore_n hx hb d_M_clear_68 rfl hl (by decide) rfl (fun ls hl => ?_)
          have hl : lv_has ls 2 [(1, .int (eI 0)), (0, .ref (md 0))] := hl
          have l3 : ∀ (q i : Nat) (la9 : Nat → Int) (H : Heap) (locs : List Loc) (ls : Array Slot), 30 - i = q → i ≤ 30 → (∀ d, d < i → la9 d = 0) → lv_has ls 2 [(1, .int (eI ((i : Nat) : Int))), (0, .ref (md 0))] → va_P D classes [((md 0), .inr (5, [.int (eI 0), .int (eI 0), .ref (md 1), .ref (md 2), .ref (md 3), .int (eI 1000), .int (eI 1), .ref (md 4), .ref (md 5), .ref (md 6), .ref (md 7), .ref (md 8), .long (eL up), .long (eL lw), .ref (md 9), .ref (md 10), .ref (md 11), .ref (md 12), .ref (md 13), .ref (md 14), .ref (md 15), .int (eI 0), .int (eI fo)])), ((md 1), aI cI 25 sc), ((md 2), aI cI 4 ln), ((md 3), aI cZ 4 cb9), ((md 4), aI cZ 3 th9), ((md 5), aI cI 3 pl), ((md 6), aI cI 3 lo), ((md 7), aI cI 3 pr), ((md 8), aI cI 30 la9)] H → va_D A [((md 0), .inr (5, [.int (eI 0), .int (eI 0), .ref (md 1), .ref (md 2), .ref (md 3), .int (eI 1000), .int (eI 1), .ref (md 4), .ref (md 5), .ref (md 6), .ref (md 7), .ref (md 8), .long (eL up), .long (eL lw), .ref (md 9), .ref (md 10), .ref (md 11), .ref (md 12), .ref (md 13), .ref (md 14), .ref (md 15), .int (eI 0), .int (eI fo)])), ((md 1), aI cI 25 sc), ((md 2), aI cI 4 ln), ((md 3), aI cZ 4 cb9), ((md 4), aI cZ 3 th9), ((md 5), aI cI 3 pl), ((md 6), aI cI 3 lo), ((md 7), aI cI 3 pr), ((md 8), aI cI 30 la9)] → va_S A s.heap H locs → W p l e R s m args below meth c H locs 0 0 Q (F0 m 69 ls []) := by
            intro q
            induction q with
            | zero =>
              intro i la9 H locs ls hq hi hla9 hl hP hD hS
              have hiN : i = 30 := by omega
              subst hiN
              refine lv_iload_n hx hb d_M_clear_69 rfl (lv_at hl 0 rfl) ?_
              refine lv_bipush (v := eI 30) hx hb d_M_clear_70 (by decide) ?_
              refine we_icmp_ge (tgt := 88) hx hb (by constructor <;> omega) (by constructor <;> omega) d_M_clear_72 rfl (fun hc72 => ?_) (fun hc72 => absurd hc72 (by omega))
              subst hQ
              exact W.vret hx hb hrt (fun t9 ht hW => ⟨⟨(cb9, th9, la9), rfl, ⟨hcb9, hth9, hla9⟩, by rw [ht]; exact hP, hD⟩, hS.F ht⟩) hS.2.2 d_M_clear_88
            | succ q ih =>
              intro i la9 H locs ls hq hi hla9 hl hP hD hS
              refine lv_iload_n hx hb d_M_clear_69 rfl (lv_at hl 0 rfl) ?_
              refine lv_bipush (v := eI 30) hx hb d_M_clear_70 (by decide) ?_
              refine we_icmp_ge (tgt := 88) hx hb (by constructor <;> omega) (by constructor <;> omega) d_M_clear_72 rfl (fun hc72 => absurd hc72 (by omega)) (fun hc72 => ?_)
              refine lv_aload_n hx hb d_M_clear_75 rfl (lv_at hl 1 rfl) ?_
              refine va_get (D := D) (ci := 5) (v := .ref (md 8)) (C := R_M) (T := T_M) (N := 23) hx hb htb in_M hown hK hP 0 rfl rfl 11 (by decide) (htb _ tb_599) (fun _ h9 => h9) rfl d_M_clear_76 ?_
              refine lv_iload_n hx hb d_M_clear_79 rfl (lv_at hl 0 rfl) ?_
              refine lv_iconst (v := eI 0) hx hb d_M_clear_80 rfl ?_
              refine we_iast hx hb hK hP hD hS 8 0 rfl rfl i rfl (by omega) (by decide) d_M_clear_81 (fun H locs hP hD hS => ?_)
              have hP : va_P D classes [((md 0), .inr (5, [.int (eI 0), .int (eI 0), .ref (md 1), .ref (md 2), .ref (md 3), .int (eI 1000), .int (eI 1), .ref (md 4), .ref (md 5), .ref (md 6), .ref (md 7), .ref (md 8), .long (eL up), .long (eL lw), .ref (md 9), .ref (md 10), .ref (md 11), .ref (md 12), .ref (md 13), .ref (md 14), .ref (md 15), .int (eI 0), .int (eI fo)])), ((md 1), aI cI 25 sc), ((md 2), aI cI 4 ln), ((md 3), aI cZ 4 cb9), ((md 4), aI cZ 3 th9), ((md 5), aI cI 3 pl), ((md 6), aI cI 3 lo), ((md 7), aI cI 3 pr), ((md 8), aI cI 30 (eh_upd la9 i 0))] H := hP
              have hD : va_D A [((md 0), .inr (5, [.int (eI 0), .int (eI 0), .ref (md 1), .ref (md 2), .ref (md 3), .int (eI 1000), .int (eI 1), .ref (md 4), .ref (md 5), .ref (md 6), .ref (md 7), .ref (md 8), .long (eL up), .long (eL lw), .ref (md 9), .ref (md 10), .ref (md 11), .ref (md 12), .ref (md 13), .ref (md 14), .ref (md 15), .int (eI 0), .int (eI fo)])), ((md 1), aI cI 25 sc), ((md 2), aI cI 4 ln), ((md 3), aI cZ 4 cb9), ((md 4), aI cZ 3 th9), ((md 5), aI cI 3 pl), ((md 6), aI cI 3 lo), ((md 7), aI cI 3 pr), ((md 8), aI cI 30 (eh_upd la9 i 0))] := hD
              refine lv_iinc (v := eI (((i : Nat) : Int) + 1)) hx hb d_M_clear_82 hl (k := 0) rfl (eI_add _ _) (by decide) rfl (fun ls hl => ?_)
              have hl : lv_has ls 2 [(1, .int (eI (((i : Nat) : Int) + 1))), (0, .ref (md 0))] := hl
              refine lv_goto (tgt := 69) hx hb d_M_clear_85 rfl ?_
              exact ih (i + 1) _ H locs ls (by omega) (by omega) (fun d hd => by
                by_cases w : d = i
                · rw [w, eh_upd_s]
                · rw [eh_upd_n _ _ w]; exact hla9 d (by omega)) (lv_sub hl [0, 1] rfl) hP hD hS
          exact l3 30 0 la H locs ls (by omega) (by omega) (fun d hd => by omega) (lv_sub hl [0, 1] rfl) hP hD hS
        | succ q ih =>
          intro i th9 H locs ls hq hi hth9 hl hP hD hS
          refine lv_iload_n hx hb d_M_clear_49 rfl (lv_at hl 0 rfl) ?_
          refine lv_iconst (v := eI 3) hx hb d_M_clear_50 rfl ?_
          refine we_icmp_ge (tgt := 67) hx hb (by constructor <;> omega) (by constructor <;> omega) d_M_clear_51 rfl (fun hc51 => absurd hc51 (by omega)) (fun hc51 => ?_)
          refine lv_aload_n hx hb d_M_clear_54 rfl (lv_at hl 1 rfl) ?_
          refine va_get (D := D) (ci := 5) (v := .ref (md 4)) (C := R_M) (T := T_M) (N := 23) hx hb htb in_M hown hK hP 0 rfl rfl 7 (by decide) (htb _ tb_595) (fun _ h9 => h9) rfl d_M_clear_55 ?_
          refine lv_iload_n hx hb d_M_clear_58 rfl (lv_at hl 0 rfl) ?_
          refine lv_iconst (v := eI 0) hx hb d_M_clear_59 rfl ?_
          refine we_zast hx hb hK hP hD hS 4 2 rfl rfl i rfl (by omega) (by decide) (by omega) d_M_clear_60 (fun H locs hP hD hS => ?_)
          have hP : va_P D classes [((md 0), .inr (5, [.int (eI 0), .int (eI 0), .ref (md 1), .ref (md 2), .ref (md 3), .int (eI 1000), .int (eI 1), .ref (md 4), .ref (md 5), .ref (md 6), .ref (md 7), .ref (md 8), .long (eL up), .long (eL lw), .ref (md 9), .ref (md 10), .ref (md 11), .ref (md 12), .ref (md 13), .ref (md 14), .ref (md 15), .int (eI 0), .int (eI fo)])), ((md 1), aI cI 25 sc), ((md 2), aI cI 4 ln), ((md 3), aI cZ 4 cb9), ((md 4), aI cZ 3 (eh_upd th9 i 0)), ((md 5), aI cI 3 pl), ((md 6), aI cI 3 lo), ((md 7), aI cI 3 pr), ((md 8), aI cI 30 la)] H := hP
          have hD : va_D A [((md 0), .inr (5, [.int (eI 0), .int (eI 0), .ref (md 1), .ref (md 2), .ref (md 3), .int (eI 1000), .int (eI 1), .ref (md 4), .ref (md 5), .ref (md 6), .ref (md 7), .ref (md 8), .long (eL up), .long (eL lw), .ref (md 9), .ref (md 10), .ref (md 11), .ref (md 12), .ref (md 13), .ref (md 14), .ref (md 15), .int (eI 0), .int (eI fo)])), ((md 1), aI cI 25 sc), ((md 2), aI cI 4 ln), ((md 3), aI cZ 4 cb9), ((md 4), aI cZ 3 (eh_upd th9 i 0)), ((md 5), aI cI 3 pl), ((md 6), aI cI 3 lo), ((md 7), aI cI 3 pr), ((md 8), aI cI 30 la)] := hD
          refine lv_iinc (v := eI (((i : Nat) : Int) + 1)) hx hb d_M_clear_61 hl (k := 0) rfl (eI_add _ _) (by decide) rfl (fun ls hl => ?_)
          have hl : lv_has ls 2 [(1, .int (eI (((i : Nat) : Int) + 1))), (0, .ref (md 0))] := hl
          refine lv_goto (tgt := 49) hx hb d_M_clear_64 rfl ?_
          exact ih (i + 1) _ H locs ls (by omega) (by omega) (fun d hd => by
            by_cases w : d = i
            · rw [w, eh_upd_s]
            · rw [eh_upd_n _ _ w]; exact hth9 d (by omega)) (lv_sub hl [0, 1] rfl) hP hD hS
      exact l2 3 0 th H locs ls (by omega) (by omega) (fun d hd => by omega) (lv_sub hl [0, 1] rfl) hP hD hS
    | succ q ih =>
      intro i cb9 H locs ls hq hi hcb9 hl hP hD hS
      refine lv_iload_n hx hb d_M_clear_29 rfl (lv_at hl 0 rfl) ?_
      refine lv_iconst (v := eI 4) hx hb d_M_clear_30 rfl ?_
      refine we_icmp_ge (tgt := 47) hx hb (by constructor <;> omega) (by constructor <;> omega) d_M_clear_31 rfl (fun hc31 => absurd hc31 (by omega)) (fun hc31 => ?_)
      refine lv_aload_n hx hb d_M_clear_34 rfl (lv_at hl 1 rfl) ?_
      refine va_get (D := D) (ci := 5) (v := .ref (md 3)) (C := R_M) (T := T_M) (N := 23) hx hb htb in_M hown hK hP 0 rfl rfl 4 (by decide) (htb _ tb_592) (fun _ h9 => h9) rfl d_M_clear_35 ?_
      refine lv_iload_n hx hb d_M_clear_38 rfl (lv_at hl 0 rfl) ?_
      refine lv_iconst (v := eI 0) hx hb d_M_clear_39 rfl ?_
      refine we_zast hx hb hK hP hD hS 3 2 rfl rfl i rfl (by omega) (by decide) (by omega) d_M_clear_40 (fun H locs hP hD hS => ?_)
      have hP : va_P D classes [((md 0), .inr (5, [.int (eI 0), .int (eI 0), .ref (md 1), .ref (md 2), .ref (md 3), .int (eI 1000), .int (eI 1), .ref (md 4), .ref (md 5), .ref (md 6), .ref (md 7), .ref (md 8), .long (eL up), .long (eL lw), .ref (md 9), .ref (md 10), .ref (md 11), .ref (md 12), .ref (md 13), .ref (md 14), .ref (md 15), .int (eI 0), .int (eI fo)])), ((md 1), aI cI 25 sc), ((md 2), aI cI 4 ln), ((md 3), aI cZ 4 (eh_upd cb9 i 0)), ((md 4), aI cZ 3 th), ((md 5), aI cI 3 pl), ((md 6), aI cI 3 lo), ((md 7), aI cI 3 pr), ((md 8), aI cI 30 la)] H := hP
      have hD : va_D A [((md 0), .inr (5, [.int (eI 0), .int (eI 0), .ref (md 1), .ref (md 2), .ref (md 3), .int (eI 1000), .int (eI 1), .ref (md 4), .ref (md 5), .ref (md 6), .ref (md 7), .ref (md 8), .long (eL up), .long (eL lw), .ref (md 9), .ref (md 10), .ref (md 11), .ref (md 12), .ref (md 13), .ref (md 14), .ref (md 15), .int (eI 0), .int (eI fo)])), ((md 1), aI cI 25 sc), ((md 2), aI cI 4 ln), ((md 3), aI cZ 4 (eh_upd cb9 i 0)), ((md 4), aI cZ 3 th), ((md 5), aI cI 3 pl), ((md 6), aI cI 3 lo), ((md 7), aI cI 3 pr), ((md 8), aI cI 30 la)] := hD
      refine lv_iinc (v := eI (((i : Nat) : Int) + 1)) hx hb d_M_clear_41 hl (k := 0) rfl (eI_add _ _) (by decide) rfl (fun ls hl => ?_)
      have hl : lv_has ls 2 [(1, .int (eI (((i : Nat) : Int) + 1))), (0, .ref (md 0))] := hl
      refine lv_goto (tgt := 29) hx hb d_M_clear_44 rfl ?_
      exact ih (i + 1) _ H locs ls (by omega) (by omega) (fun d hd => by
        by_cases w : d = i
        · rw [w, eh_upd_s]
        · rw [eh_upd_n _ _ w]; exact hcb9 d (by omega)) (lv_sub hl [0, 1] rfl) hP hD hS
  exact l1 4 0 cb H locs ls (by omega) (by omega) (fun d hd => by omega) (lv_sub hl [0, 1] rfl) hP hD hS
