abbrev c_M_beside : ByteArray := prog_7_method_15_code
def y_M_beside : MethodName := ⟨"EarthHaulsModel", "beside", "(IIII)V"⟩
abbrev k_M_beside : Cond := .code y_M_beside c_M_beside 5 none
theorem kin_M_beside : k_M_beside ∈ ew_t := tb_688
theorem dv_M_beside : eh_dV y_M_beside "EarthHaulsModel" 4 := ⟨rfl, by decide, by decide, by decide +kernel⟩
theorem d_M_beside_0 : decode c_M_beside 0 = .ok (.aload_n 0, 1) := by decide +kernel
theorem d_M_beside_1 : decode c_M_beside 1 = .ok (.iload_n 1, 1) := by decide +kernel
theorem d_M_beside_2 : decode c_M_beside 2 = .ok (.ifCond .lt 16, 3) := by decide +kernel
theorem d_M_beside_5 : decode c_M_beside 5 = .ok (.iload_n 1, 1) := by decide +kernel
theorem d_M_beside_6 : decode c_M_beside 6 = .ok (.iconst 2, 1) := by decide +kernel
theorem d_M_beside_7 : decode c_M_beside 7 = .ok (.if_icmp .gt 11, 3) := by decide +kernel
theorem d_M_beside_10 : decode c_M_beside 10 = .ok (.aload_n 0, 1) := by decide +kernel
theorem d_M_beside_11 : decode c_M_beside 11 = .ok (.iload_n 2, 1) := by decide +kernel
theorem d_M_beside_12 : decode c_M_beside 12 = .ok (.invokevirtual 111, 3) := by decide +kernel
theorem d_M_beside_15 : decode c_M_beside 15 = .ok (.ifCond .eq 7, 3) := by decide +kernel
theorem d_M_beside_18 : decode c_M_beside 18 = .ok (.iconst 1, 1) := by decide +kernel
theorem d_M_beside_19 : decode c_M_beside 19 = .ok (.goto 30, 3) := by decide +kernel
theorem d_M_beside_22 : decode c_M_beside 22 = .ok (.iload_n 3, 1) := by decide +kernel
theorem d_M_beside_23 : decode c_M_beside 23 = .ok (.iconst 0, 1) := by decide +kernel
theorem d_M_beside_24 : decode c_M_beside 24 = .ok (.ldc 115, 2) := by decide +kernel
theorem d_M_beside_26 : decode c_M_beside 26 = .ok (.invokestatic 107, 3) := by decide +kernel
theorem d_M_beside_29 : decode c_M_beside 29 = .ok (.ifCond .eq 15, 3) := by decide +kernel
theorem d_M_beside_32 : decode c_M_beside 32 = .ok (.iload 4, 2) := by decide +kernel
theorem d_M_beside_34 : decode c_M_beside 34 = .ok (.iconst 0, 1) := by decide +kernel
theorem d_M_beside_35 : decode c_M_beside 35 = .ok (.sipush 1000, 3) := by decide +kernel
theorem d_M_beside_38 : decode c_M_beside 38 = .ok (.invokestatic 107, 3) := by decide +kernel
theorem d_M_beside_41 : decode c_M_beside 41 = .ok (.ifCond .ne 7, 3) := by decide +kernel
theorem d_M_beside_44 : decode c_M_beside 44 = .ok (.iconst 2, 1) := by decide +kernel
theorem d_M_beside_45 : decode c_M_beside 45 = .ok (.goto 4, 3) := by decide +kernel
theorem d_M_beside_48 : decode c_M_beside 48 = .ok (.iconst 0, 1) := by decide +kernel
theorem d_M_beside_49 : decode c_M_beside 49 = .ok (.putfield 64, 3) := by decide +kernel
theorem d_M_beside_52 : decode c_M_beside 52 = .ok (.aload_n 0, 1) := by decide +kernel
theorem d_M_beside_53 : decode c_M_beside 53 = .ok (.getfield 64, 3) := by decide +kernel
theorem d_M_beside_56 : decode c_M_beside 56 = .ok (.ifCond .le 4, 3) := by decide +kernel
theorem d_M_beside_59 : decode c_M_beside 59 = .ok (.return_, 1) := by decide +kernel
theorem d_M_beside_60 : decode c_M_beside 60 = .ok (.aload_n 0, 1) := by decide +kernel
theorem d_M_beside_61 : decode c_M_beside 61 = .ok (.iconst 0, 1) := by decide +kernel
theorem d_M_beside_62 : decode c_M_beside 62 = .ok (.putfield 103, 3) := by decide +kernel
theorem d_M_beside_65 : decode c_M_beside 65 = .ok (.aload_n 0, 1) := by decide +kernel
theorem d_M_beside_66 : decode c_M_beside 66 = .ok (.getfield 27, 3) := by decide +kernel
theorem d_M_beside_69 : decode c_M_beside 69 = .ok (.iload_n 1, 1) := by decide +kernel
theorem d_M_beside_70 : decode c_M_beside 70 = .ok (.iconst 1, 1) := by decide +kernel
theorem d_M_beside_71 : decode c_M_beside 71 = .ok (.bastore, 1) := by decide +kernel
theorem d_M_beside_72 : decode c_M_beside 72 = .ok (.aload_n 0, 1) := by decide +kernel
theorem d_M_beside_73 : decode c_M_beside 73 = .ok (.getfield 30, 3) := by decide +kernel
theorem d_M_beside_76 : decode c_M_beside 76 = .ok (.iload_n 1, 1) := by decide +kernel
theorem d_M_beside_77 : decode c_M_beside 77 = .ok (.iload_n 2, 1) := by decide +kernel
theorem d_M_beside_78 : decode c_M_beside 78 = .ok (.iastore, 1) := by decide +kernel
theorem d_M_beside_79 : decode c_M_beside 79 = .ok (.aload_n 0, 1) := by decide +kernel
theorem d_M_beside_80 : decode c_M_beside 80 = .ok (.getfield 33, 3) := by decide +kernel
theorem d_M_beside_83 : decode c_M_beside 83 = .ok (.iload_n 1, 1) := by decide +kernel
theorem d_M_beside_84 : decode c_M_beside 84 = .ok (.iload_n 3, 1) := by decide +kernel
theorem d_M_beside_85 : decode c_M_beside 85 = .ok (.iastore, 1) := by decide +kernel
theorem d_M_beside_86 : decode c_M_beside 86 = .ok (.aload_n 0, 1) := by decide +kernel
theorem d_M_beside_87 : decode c_M_beside 87 = .ok (.getfield 36, 3) := by decide +kernel
theorem d_M_beside_90 : decode c_M_beside 90 = .ok (.iload_n 1, 1) := by decide +kernel
theorem d_M_beside_91 : decode c_M_beside 91 = .ok (.iload 4, 2) := by decide +kernel
theorem d_M_beside_93 : decode c_M_beside 93 = .ok (.iastore, 1) := by decide +kernel
theorem d_M_beside_94 : decode c_M_beside 94 = .ok (.return_, 1) := by decide +kernel
set_option maxHeartbeats 1000000 in
set_option maxRecDepth 100000 in
theorem m_M_beside (l : Launch) (D : va_G) (cI cL cZ : ClassId) (md : Nat → Nat) (co : Int) (n : Nat) (sh ra up lw kn fo : Int) (sc ln cb th pl lo pr la : Nat → Int) (cu cl fu fl : Nat → Nat) (ys yl yp : Nat → Int) (y z v w : Int) (hy : -2147483648 ≤ y ∧ y < 2147483648) (hz : -2147483648 ≤ z ∧ z < 2147483648) (hv : -2147483648 ≤ v ∧ v < 2147483648) (hw : -2147483648 ≤ w ∧ w < 2147483648) (hM : eh_MS n sh ra sc ln cb th pl lo pr la cu cl fu fl ys yl yp) : eh_M (S := Int × Int × (Nat → Int) × (Nat → Int) × (Nat → Int) × (Nat → Int)) l y_M_beside k_M_beside 1 22 D classes [(cI, .int), (cL, .long), (cZ, .boolean)] [.ref (md 0), .int (eI y), .int (eI z), .int (eI v), .int (eI w)] [((md 0), .inr (5, [.int (eI co), .int (eI ((n : Nat) : Int)), .ref (md 1), .ref (md 2), .ref (md 3), .int (eI sh), .int (eI ra), .ref (md 4), .ref (md 5), .ref (md 6), .ref (md 7), .ref (md 8), .long (eL up), .long (eL lw), .ref (md 9), .ref (md 10), .ref (md 11), .ref (md 12), .ref (md 13), .ref (md 14), .ref (md 15), .int (eI kn), .int (eI fo)])), ((md 1), aI cI 25 sc), ((md 2), aI cI 4 ln), ((md 3), aI cZ 4 cb), ((md 4), aI cZ 3 th), ((md 5), aI cI 3 pl), ((md 6), aI cI 3 lo), ((md 7), aI cI 3 pr), ((md 8), aI cI 30 la)] (fun u => ((y < 0 ∨ 2 < y ∨ z < 0 ∨ (n : Int) ≤ z + 1) ∧ u = (1, kn, th, pl, lo, pr)) ∨ (¬ (y < 0 ∨ 2 < y ∨ z < 0 ∨ (n : Int) ≤ z + 1) ∧ ¬ ((0 ≤ v ∧ v ≤ 100000000) ∧ (0 ≤ w ∧ w ≤ 1000)) ∧ u = (2, kn, th, pl, lo, pr)) ∨ (¬ (y < 0 ∨ 2 < y ∨ z < 0 ∨ (n : Int) ≤ z + 1) ∧ ((0 ≤ v ∧ v ≤ 100000000) ∧ (0 ≤ w ∧ w ≤ 1000)) ∧ u = (0, 0, (eh_upd th y.toNat 1), (eh_upd pl y.toNat z), (eh_upd lo y.toNat v), (eh_upd pr y.toNat w)))) (fun _ => none) (fun u => [((md 0), .inr (5, [.int (eI u.1), .int (eI ((n : Nat) : Int)), .ref (md 1), .ref (md 2), .ref (md 3), .int (eI sh), .int (eI ra), .ref (md 4), .ref (md 5), .ref (md 6), .ref (md 7), .ref (md 8), .long (eL up), .long (eL lw), .ref (md 9), .ref (md 10), .ref (md 11), .ref (md 12), .ref (md 13), .ref (md 14), .ref (md 15), .int (eI u.2.1), .int (eI fo)])), ((md 1), aI cI 25 sc), ((md 2), aI cI 4 ln), ((md 3), aI cZ 4 cb), ((md 4), aI cZ 3 u.2.2.1), ((md 5), aI cI 3 u.2.2.2.1), ((md 6), aI cI 3 u.2.2.2.2.1), ((md 7), aI cI 3 u.2.2.2.2.2), ((md 8), aI cI 30 la)]) := by
  intro sz
  refine Met.ofW (cc := c_M_beside) (maxL := 5) (ret := none) (by decide) rfl ?_
  intro p e s m args below meth c s₁ B hml hv
  obtain ⟨hargs, hsz, hP, hK, hD0, hN⟩ := hv
  have hx := B.exec
  have hb := B.bytes
  have hrt := B.returns
  have hts := atoms_spec (ws := k_M_beside :: ew_t) B.pre
  have htb : ∀ w ∈ ew_t, w.before args s = true := fun w h => hts w (List.mem_cons_of_mem _ h)
  have hown : s.vm.findClass "EarthHaulsModel" = some m.cls := findClass_of_methodNamed B.named
  have hlocks := B.notSynchronized
  have hE : entryFrame m args 5 = entryFrame m ([.ref (md 0), .int (eI y), .int (eI z), .int (eI v), .int (eI w)] : List Value).toArray 5 := by rw [hargs]
  rw [hE]
  clear hE hts B hargs
  generalize hRe : (headSpec _ _).room = R
  have hR1 : R.frames = 1 := by rw [← hRe]; rfl
  have hR2 : R.locals = 22 := by rw [← hRe]; rfl
  clear hRe
  generalize hQ : MQ below _ _ s 0 0 _ = Q
  subst hsz
  have hD := hD0.self (sz := s.heap.size)
  generalize hAe : va_A [((md 0), .inr (5, [.int (eI co), .int (eI ((n : Nat) : Int)), .ref (md 1), .ref (md 2), .ref (md 3), .int (eI sh), .int (eI ra), .ref (md 4), .ref (md 5), .ref (md 6), .ref (md 7), .ref (md 8), .long (eL up), .long (eL lw), .ref (md 9), .ref (md 10), .ref (md 11), .ref (md 12), .ref (md 13), .ref (md 14), .ref (md 15), .int (eI kn), .int (eI fo)])), ((md 1), aI cI 25 sc), ((md 2), aI cI 4 ln), ((md 3), aI cZ 4 cb), ((md 4), aI cZ 3 th), ((md 5), aI cI 3 pl), ((md 6), aI cI 3 lo), ((md 7), aI cI 3 pr), ((md 8), aI cI 30 la)] s.heap.size = A at hD hQ
  have hA : ∀ q : Nat, s.heap.size ≤ q → A q := fun q h => by rw [← hAe]; exact Or.inr h
  have hS : va_S A s.heap s.heap [] := va_S.rf
  have hP : va_P D classes [((md 0), .inr (5, [.int (eI co), .int (eI ((n : Nat) : Int)), .ref (md 1), .ref (md 2), .ref (md 3), .int (eI sh), .int (eI ra), .ref (md 4), .ref (md 5), .ref (md 6), .ref (md 7), .ref (md 8), .long (eL up), .long (eL lw), .ref (md 9), .ref (md 10), .ref (md 11), .ref (md 12), .ref (md 13), .ref (md 14), .ref (md 15), .int (eI kn), .int (eI fo)])), ((md 1), aI cI 25 sc), ((md 2), aI cI 4 ln), ((md 3), aI cZ 4 cb), ((md 4), aI cZ 3 th), ((md 5), aI cI 3 pl), ((md 6), aI cI 3 lo), ((md 7), aI cI 3 pr), ((md 8), aI cI 30 la)] s.heap := hP
  have hl := lv_entry ([.ref (md 0), .int (eI y), .int (eI z), .int (eI v), .int (eI w)]) (n := 5) (Nat.le_of_ble_eq_true rfl)
  rw [lg_entry_eq]
  generalize (lg_sl ([.ref (md 0), .int (eI y), .int (eI z), .int (eI v), .int (eI w)]) ++ List.replicate (5 - (lg_sl ([.ref (md 0), .int (eI y), .int (eI z), .int (eI v), .int (eI w)])).length) Slot.unset).toArray = ls at hl ⊢
  have hl : lv_has ls 5 [(0, .ref (md 0)), (1, .int (eI y)), (2, .int (eI z)), (3, .int (eI v)), (4, .int (eI w))] := hl
  have hn5 := hM.1.1
  rcases (show y < 0 ∨ 2 < y ∨ (0 ≤ y ∧ y ≤ 2 ∧ (z < 0 ∨ (n : Int) ≤ z + 1)) ∨ ¬ (y < 0 ∨ 2 < y ∨ z < 0 ∨ (n : Int) ≤ z + 1) by omega) with hcas | hcas | hcas | hcas
  ·
    refine lv_aload_n hx hb d_M_beside_0 rfl (lv_at hl 0 rfl) ?_
    refine lv_iload_n hx hb d_M_beside_1 rfl (lv_at hl 1 rfl) ?_
    refine we_if_lt (tgt := 18) hx hb (by constructor <;> omega) d_M_beside_2 rfl (fun hc2 => ?_) (fun hc2 => absurd hc2 (by omega))
    refine lv_iconst (v := eI 1) hx hb d_M_beside_18 rfl ?_
    refine lv_goto (tgt := 49) hx hb d_M_beside_19 rfl ?_
    refine va_put (D := D) (ci := 5) (v := .int (eI 1)) (ty := .int) (C := R_M) (T := T_M) (N := 23) hx hb htb in_M t_M t_M_ok n_M hown hK hP hD hS 0 rfl rfl 0 (by decide) (htb _ tb_588) (fun _ h9 => h9) rfl (by decide +kernel) rfl rfl (Nat.le_of_ble_eq_true rfl) d_M_beside_49 (fun H locs hP hD hS => ?_)
    have hP : va_P D classes [((md 0), .inr (5, [.int (eI 1), .int (eI ((n : Nat) : Int)), .ref (md 1), .ref (md 2), .ref (md 3), .int (eI sh), .int (eI ra), .ref (md 4), .ref (md 5), .ref (md 6), .ref (md 7), .ref (md 8), .long (eL up), .long (eL lw), .ref (md 9), .ref (md 10), .ref (md 11), .ref (md 12), .ref (md 13), .ref (md 14), .ref (md 15), .int (eI kn), .int (eI fo)])), ((md 1), aI cI 25 sc), ((md 2), aI cI 4 ln), ((md 3), aI cZ 4 cb), ((md 4), aI cZ 3 th), ((md 5), aI cI 3 pl), ((md 6), aI cI 3 lo), ((md 7), aI cI 3 pr), ((md 8), aI cI 30 la)] H := hP
    have hD : va_D A [((md 0), .inr (5, [.int (eI 1), .int (eI ((n : Nat) : Int)), .ref (md 1), .ref (md 2), .ref (md 3), .int (eI sh), .int (eI ra), .ref (md 4), .ref (md 5), .ref (md 6), .ref (md 7), .ref (md 8), .long (eL up), .long (eL lw), .ref (md 9), .ref (md 10), .ref (md 11), .ref (md 12), .ref (md 13), .ref (md 14), .ref (md 15), .int (eI kn), .int (eI fo)])), ((md 1), aI cI 25 sc), ((md 2), aI cI 4 ln), ((md 3), aI cZ 4 cb), ((md 4), aI cZ 3 th), ((md 5), aI cI 3 pl), ((md 6), aI cI 3 lo), ((md 7), aI cI 3 pr), ((md 8), aI cI 30 la)] := hD
    refine lv_aload_n hx hb d_M_beside_52 rfl (lv_at hl 0 rfl) ?_
    refine va_get (D := D) (ci := 5) (v := .int (eI 1)) (C := R_M) (T := T_M) (N := 23) hx hb htb in_M hown hK hP 0 rfl rfl 0 (by decide) (htb _ tb_588) (fun _ h9 => h9) rfl d_M_beside_53 ?_
    refine we_if_le (tgt := 60) hx hb (by constructor <;> omega) d_M_beside_56 rfl (fun hc56 => absurd hc56 (by omega)) (fun hc56 => ?_)
    subst hQ
    exact W.vret hx hb hrt (fun t9 ht hW => ⟨⟨(1, kn, th, pl, lo, pr), rfl, Or.inl ⟨by omega, rfl⟩, by rw [ht]; exact hP, hD⟩, hS.F ht⟩) hS.2.2 d_M_beside_59
  ·
    refine lv_aload_n hx hb d_M_beside_0 rfl (lv_at hl 0 rfl) ?_
    refine lv_iload_n hx hb d_M_beside_1 rfl (lv_at hl 1 rfl) ?_
    refine we_if_lt (tgt := 18) hx hb (by constructor <;> omega) d_M_beside_2 rfl (fun hc2 => absurd hc2 (by omega)) (fun hc2 => ?_)
    refine lv_iload_n hx hb d_M_beside_5 rfl (lv_at hl 1 rfl) ?_
    refine lv_iconst (v := eI 2) hx hb d_M_beside_6 rfl ?_
    refine we_icmp_gt (tgt := 18) hx hb (by constructor <;> omega) (by constructor <;> omega) d_M_beside_7 rfl (fun hc7 => ?_) (fun hc7 => absurd hc7 (by omega))
    refine lv_iconst (v := eI 1) hx hb d_M_beside_18 rfl ?_
    refine lv_goto (tgt := 49) hx hb d_M_beside_19 rfl ?_
    refine va_put (D := D) (ci := 5) (v := .int (eI 1)) (ty := .int) (C := R_M) (T := T_M) (N := 23) hx hb htb in_M t_M t_M_ok n_M hown hK hP hD hS 0 rfl rfl 0 (by decide) (htb _ tb_588) (fun _ h9 => h9) rfl (by decide +kernel) rfl rfl (Nat.le_of_ble_eq_true rfl) d_M_beside_49 (fun H locs hP hD hS => ?_)
    have hP : va_P D classes [((md 0), .inr (5, [.int (eI 1), .int (eI ((n : Nat) : Int)), .ref (md 1), .ref (md 2), .ref (md 3), .int (eI sh), .int (eI ra), .ref (md 4), .ref (md 5), .ref (md 6), .ref (md 7), .ref (md 8), .long (eL up), .long (eL lw), .ref (md 9), .ref (md 10), .ref (md 11), .ref (md 12), .ref (md 13), .ref (md 14), .ref (md 15), .int (eI kn), .int (eI fo)])), ((md 1), aI cI 25 sc), ((md 2), aI cI 4 ln), ((md 3), aI cZ 4 cb), ((md 4), aI cZ 3 th), ((md 5), aI cI 3 pl), ((md 6), aI cI 3 lo), ((md 7), aI cI 3 pr), ((md 8), aI cI 30 la)] H := hP
    have hD : va_D A [((md 0), .inr (5, [.int (eI 1), .int (eI ((n : Nat) : Int)), .ref (md 1), .ref (md 2), .ref (md 3), .int (eI sh), .int (eI ra), .ref (md 4), .ref (md 5), .ref (md 6), .ref (md 7), .ref (md 8), .long (eL up), .long (eL lw), .ref (md 9), .ref (md 10), .ref (md 11), .ref (md 12), .ref (md 13), .ref (md 14), .ref (md 15), .int (eI kn), .int (eI fo)])), ((md 1), aI cI 25 sc), ((md 2), aI cI 4 ln), ((md 3), aI cZ 4 cb), ((md 4), aI cZ 3 th), ((md 5), aI cI 3 pl), ((md 6), aI cI 3 lo), ((md 7), aI cI 3 pr), ((md 8), aI cI 30 la)] := hD
    refine lv_aload_n hx hb d_M_beside_52 rfl (lv_at hl 0 rfl) ?_
    refine va_get (D := D) (ci := 5) (v := .int (eI 1)) (C := R_M) (T := T_M) (N := 23) hx hb htb in_M hown hK hP 0 rfl rfl 0 (by decide) (htb _ tb_588) (fun _ h9 => h9) rfl d_M_beside_53 ?_
    refine we_if_le (tgt := 60) hx hb (by constructor <;> omega) d_M_beside_56 rfl (fun hc56 => absurd hc56 (by omega)) (fun hc56 => ?_)
    subst hQ
    exact W.vret hx hb hrt (fun t9 ht hW => ⟨⟨(1, kn, th, pl, lo, pr), rfl, Or.inl ⟨by omega, rfl⟩, by rw [ht]; exact hP, hD⟩, hS.F ht⟩) hS.2.2 d_M_beside_59
  ·
    refine lv_aload_n hx hb d_M_beside_0 rfl (lv_at hl 0 rfl) ?_
    refine lv_iload_n hx hb d_M_beside_1 rfl (lv_at hl 1 rfl) ?_
    refine we_if_lt (tgt := 18) hx hb (by constructor <;> omega) d_M_beside_2 rfl (fun hc2 => absurd hc2 (by omega)) (fun hc2 => ?_)
    refine lv_iload_n hx hb d_M_beside_5 rfl (lv_at hl 1 rfl) ?_
    refine lv_iconst (v := eI 2) hx hb d_M_beside_6 rfl ?_
    refine we_icmp_gt (tgt := 18) hx hb (by constructor <;> omega) (by constructor <;> omega) d_M_beside_7 rfl (fun hc7 => absurd hc7 (by omega)) (fun hc7 => ?_)
    refine lv_aload_n hx hb d_M_beside_10 rfl (lv_at hl 0 rfl) ?_
    refine lv_iload_n hx hb d_M_beside_11 rfl (lv_at hl 2 rfl) ?_
    refine eh_cRV (As := [.int (eI z)]) (rest := [.ref (md 0)]) (v := .int (eI (if (z < 0 ∨ (n : Int) ≤ z + 1) then 1 else 0))) (q := (R_M, T_M, 23)) hx hb hml hown htb hN (r_M_noSpan l D cI cL cZ md co n sh ra up lw kn fo sc ln cb th pl lo pr la cu cl fu fl ys yl yp z hz hM) 1 ⟨tb_681, tb_683, ts_29, tb_7, kin_M_noSpan⟩ dv_M_noSpan ⟨by rw [hR1]; decide, by rw [hR2]; decide⟩ hK hP 0 rfl rfl [0, 1, 2, 3, 4, 5, 6, 7, 8] rfl [0, 1, 2] rfl rfl rfl hl.1 (Nat.le_of_ble_eq_true rfl) d_M_beside_12 ⟨Nat.zero_le _, Nat.zero_le _⟩ ?_
    refine we_if_eq (tgt := 22) hx hb (by constructor <;> split <;> omega) d_M_beside_15 rfl (fun hc15 => absurd hc15 (by rw [if_pos hcas.2.2]; omega)) (fun hc15 => ?_)
    refine lv_iconst (v := eI 1) hx hb d_M_beside_18 rfl ?_
    refine lv_goto (tgt := 49) hx hb d_M_beside_19 rfl ?_
    refine va_put (D := D) (ci := 5) (v := .int (eI 1)) (ty := .int) (C := R_M) (T := T_M) (N := 23) hx hb htb in_M t_M t_M_ok n_M hown hK hP hD hS 0 rfl rfl 0 (by decide) (htb _ tb_588) (fun _ h9 => h9) rfl (by decide +kernel) rfl rfl (Nat.le_of_ble_eq_true rfl) d_M_beside_49 (fun H locs hP hD hS => ?_)
    have hP : va_P D classes [((md 0), .inr (5, [.int (eI 1), .int (eI ((n : Nat) : Int)), .ref (md 1), .ref (md 2), .ref (md 3), .int (eI sh), .int (eI ra), .ref (md 4), .ref (md 5), .ref (md 6), .ref (md 7), .ref (md 8), .long (eL up), .long (eL lw), .ref (md 9), .ref (md 10), .ref (md 11), .ref (md 12), .ref (md 13), .ref (md 14), .ref (md 15), .int (eI kn), .int (eI fo)])), ((md 1), aI cI 25 sc), ((md 2), aI cI 4 ln), ((md 3), aI cZ 4 cb), ((md 4), aI cZ 3 th), ((md 5), aI cI 3 pl), ((md 6), aI cI 3 lo), ((md 7), aI cI 3 pr), ((md 8), aI cI 30 la)] H := hP
    have hD : va_D A [((md 0), .inr (5, [.int (eI 1), .int (eI ((n : Nat) : Int)), .ref (md 1), .ref (md 2), .ref (md 3), .int (eI sh), .int (eI ra), .ref (md 4), .ref (md 5), .ref (md 6), .ref (md 7), .ref (md 8), .long (eL up), .long (eL lw), .ref (md 9), .ref (md 10), .ref (md 11), .ref (md 12), .ref (md 13), .ref (md 14), .ref (md 15), .int (eI kn), .int (eI fo)])), ((md 1), aI cI 25 sc), ((md 2), aI cI 4 ln), ((md 3), aI cZ 4 cb), ((md 4), aI cZ 3 th), ((md 5), aI cI 3 pl), ((md 6), aI cI 3 lo), ((md 7), aI cI 3 pr), ((md 8), aI cI 30 la)] := hD
    refine lv_aload_n hx hb d_M_beside_52 rfl (lv_at hl 0 rfl) ?_
    refine va_get (D := D) (ci := 5) (v := .int (eI 1)) (C := R_M) (T := T_M) (N := 23) hx hb htb in_M hown hK hP 0 rfl rfl 0 (by decide) (htb _ tb_588) (fun _ h9 => h9) rfl d_M_beside_53 ?_
    refine we_if_le (tgt := 60) hx hb (by constructor <;> omega) d_M_beside_56 rfl (fun hc56 => absurd hc56 (by omega)) (fun hc56 => ?_)
    subst hQ
    exact W.vret hx hb hrt (fun t9 ht hW => ⟨⟨(1, kn, th, pl, lo, pr), rfl, Or.inl ⟨by omega, rfl⟩, by rw [ht]; exact hP, hD⟩, hS.F ht⟩) hS.2.2 d_M_beside_59
  ·
    have hns : ¬ (z < 0 ∨ (n : Int) ≤ z + 1) := by omega
    by_cases hv9 : (0 ≤ v ∧ v ≤ 100000000)
    ·
      by_cases hw9 : (0 ≤ w ∧ w ≤ 1000)
      ·
        refine lv_aload_n hx hb d_M_beside_0 rfl (lv_at hl 0 rfl) ?_
        refine lv_iload_n hx hb d_M_beside_1 rfl (lv_at hl 1 rfl) ?_
        refine we_if_lt (tgt := 18) hx hb (by constructor <;> omega) d_M_beside_2 rfl (fun hc2 => absurd hc2 (by omega)) (fun hc2 => ?_)
        refine lv_iload_n hx hb d_M_beside_5 rfl (lv_at hl 1 rfl) ?_
        refine lv_iconst (v := eI 2) hx hb d_M_beside_6 rfl ?_
        refine we_icmp_gt (tgt := 18) hx hb (by constructor <;> omega) (by constructor <;> omega) d_M_beside_7 rfl (fun hc7 => absurd hc7 (by omega)) (fun hc7 => ?_)
        refine lv_aload_n hx hb d_M_beside_10 rfl (lv_at hl 0 rfl) ?_
        refine lv_iload_n hx hb d_M_beside_11 rfl (lv_at hl 2 rfl) ?_
        refine eh_cRV (As := [.int (eI z)]) (rest := [.ref (md 0)]) (v := .int (eI (if (z < 0 ∨ (n : Int) ≤ z + 1) then 1 else 0))) (q := (R_M, T_M, 23)) hx hb hml hown htb hN (r_M_noSpan l D cI cL cZ md co n sh ra up lw kn fo sc ln cb th pl lo pr la cu cl fu fl ys yl yp z hz hM) 1 ⟨tb_681, tb_683, ts_29, tb_7, kin_M_noSpan⟩ dv_M_noSpan ⟨by rw [hR1]; decide, by rw [hR2]; decide⟩ hK hP 0 rfl rfl [0, 1, 2, 3, 4, 5, 6, 7, 8] rfl [0, 1, 2] rfl rfl rfl hl.1 (Nat.le_of_ble_eq_true rfl) d_M_beside_12 ⟨Nat.zero_le _, Nat.zero_le _⟩ ?_
        refine we_if_eq (tgt := 22) hx hb (by constructor <;> split <;> omega) d_M_beside_15 rfl (fun hc15 => ?_) (fun hc15 => absurd hc15 (by rw [if_neg hns]; omega))
        refine lv_iload_n hx hb d_M_beside_22 rfl (lv_at hl 3 rfl) ?_
        refine lv_iconst (v := eI 0) hx hb d_M_beside_23 rfl ?_
        refine we_ldc (a := 100000000) hx hb hown (htb _ tb_689) (by decide) d_M_beside_24 ?_
        refine eh_cRS (As := [.int (eI v), .int (eI 0), .int (eI 100000000)]) (rest := [.ref (md 0)]) (v := .int (eI (if 0 ≤ v ∧ v ≤ 100000000 then 1 else 0))) hx hb hml hown htb hN (r_M_within l D v 0 100000000 hv (by omega) (by omega)) 3 ⟨tb_670, tb_671, tb_7, kin_M_within⟩ dv_M_within ⟨by rw [hR1]; decide, by rw [hR2]; decide⟩ hK hP [] rfl [] rfl rfl rfl hl.1 (Nat.le_of_ble_eq_true rfl) d_M_beside_26 ⟨Nat.zero_le _, Nat.zero_le _⟩ ?_
        refine we_if_eq (tgt := 44) hx hb (by constructor <;> split <;> omega) d_M_beside_29 rfl (fun hc29 => absurd hc29 (by rw [if_pos hv9]; omega)) (fun hc29 => ?_)
        refine lv_iload hx hb d_M_beside_32 (lv_at hl 4 rfl) ?_
        refine lv_iconst (v := eI 0) hx hb d_M_beside_34 rfl ?_
        refine lv_sipush (v := eI 1000) hx hb d_M_beside_35 (by decide) ?_
        refine eh_cRS (As := [.int (eI w), .int (eI 0), .int (eI 1000)]) (rest := [.ref (md 0)]) (v := .int (eI (if 0 ≤ w ∧ w ≤ 1000 then 1 else 0))) hx hb hml hown htb hN (r_M_within l D w 0 1000 hw (by omega) (by omega)) 3 ⟨tb_670, tb_671, tb_7, kin_M_within⟩ dv_M_within ⟨by rw [hR1]; decide, by rw [hR2]; decide⟩ hK hP [] rfl [] rfl rfl rfl hl.1 (Nat.le_of_ble_eq_true rfl) d_M_beside_38 ⟨Nat.zero_le _, Nat.zero_le _⟩ ?_
        refine we_if_ne (tgt := 48) hx hb (by constructor <;> split <;> omega) d_M_beside_41 rfl (fun hc41 => ?_) (fun hc41 => absurd hc41 (by rw [if_pos hw9]; omega))
        refine lv_iconst (v := eI 0) hx hb d_M_beside_48 rfl ?_
        refine va_put (D := D) (ci := 5) (v := .int (eI 0)) (ty := .int) (C := R_M) (T := T_M) (N := 23) hx hb htb in_M t_M t_M_ok n_M hown hK hP hD hS 0 rfl rfl 0 (by decide) (htb _ tb_588) (fun _ h9 => h9) rfl (by decide +kernel) rfl rfl (Nat.le_of_ble_eq_true rfl) d_M_beside_49 (fun H locs hP hD hS => ?_)
        have hP : va_P D classes [((md 0), .inr (5, [.int (eI 0), .int (eI ((n : Nat) : Int)), .ref (md 1), .ref (md 2), .ref (md 3), .int (eI sh), .int (eI ra), .ref (md 4), .ref (md 5), .ref (md 6), .ref (md 7), .ref (md 8), .long (eL up), .long (eL lw), .ref (md 9), .ref (md 10), .ref (md 11), .ref (md 12), .ref (md 13), .ref (md 14), .ref (md 15), .int (eI kn), .int (eI fo)])), ((md 1), aI cI 25 sc), ((md 2), aI cI 4 ln), ((md 3), aI cZ 4 cb), ((md 4), aI cZ 3 th), ((md 5), aI cI 3 pl), ((md 6), aI cI 3 lo), ((md 7), aI cI 3 pr), ((md 8), aI cI 30 la)] H := hP
        have hD : va_D A [((md 0), .inr (5, [.int (eI 0), .int (eI ((n : Nat) : Int)), .ref (md 1), .ref (md 2), .ref (md 3), .int (eI sh), .int (eI ra), .ref (md 4), .ref (md 5), .ref (md 6), .ref (md 7), .ref (md 8), .long (eL up), .long (eL lw), .ref (md 9), .ref (md 10), .ref (md 11), .ref (md 12), .ref (md 13), .ref (md 14), .ref (md 15), .int (eI kn), .int (eI fo)])), ((md 1), aI cI 25 sc), ((md 2), aI cI 4 ln), ((md 3), aI cZ 4 cb), ((md 4), aI cZ 3 th), ((md 5), aI cI 3 pl), ((md 6), aI cI 3 lo), ((md 7), aI cI 3 pr), ((md 8), aI cI 30 la)] := hD
        refine lv_aload_n hx hb d_M_beside_52 rfl (lv_at hl 0 rfl) ?_
        refine va_get (D := D) (ci := 5) (v := .int (eI 0)) (C := R_M) (T := T_M) (N := 23) hx hb htb in_M hown hK hP 0 rfl rfl 0 (by decide) (htb _ tb_588) (fun _ h9 => h9) rfl d_M_beside_53 ?_
        refine we_if_le (tgt := 60) hx hb (by constructor <;> omega) d_M_beside_56 rfl (fun hc56 => ?_) (fun hc56 => absurd hc56 (by omega))
        refine lv_aload_n hx hb d_M_beside_60 rfl (lv_at hl 0 rfl) ?_
        refine lv_iconst (v := eI 0) hx hb d_M_beside_61 rfl ?_
        refine va_put (D := D) (ci := 5) (v := .int (eI 0)) (ty := .boolean) (C := R_M) (T := T_M) (N := 23) hx hb htb in_M t_M t_M_ok n_M hown hK hP hD hS 0 rfl rfl 21 (by decide) (htb _ tb_609) (fun _ h9 => h9) rfl (by decide +kernel) rfl rfl (Nat.le_of_ble_eq_true rfl) d_M_beside_62 (fun H locs hP hD hS => ?_)
        have hP : va_P D classes [((md 0), .inr (5, [.int (eI 0), .int (eI ((n : Nat) : Int)), .ref (md 1), .ref (md 2), .ref (md 3), .int (eI sh), .int (eI ra), .ref (md 4), .ref (md 5), .ref (md 6), .ref (md 7), .ref (md 8), .long (eL up), .long (eL lw), .ref (md 9), .ref (md 10), .ref (md 11), .ref (md 12), .ref (md 13), .ref (md 14), .ref (md 15), .int (eI 0), .int (eI fo)])), ((md 1), aI cI 25 sc), ((md 2), aI cI 4 ln), ((md 3), aI cZ 4 cb), ((md 4), aI cZ 3 th), ((md 5), aI cI 3 pl), ((md 6), aI cI 3 lo), ((md 7), aI cI 3 pr), ((md 8), aI cI 30 la)] H := hP
        have hD : va_D A [((md 0), .inr (5, [.int (eI 0), .int (eI ((n : Nat) : Int)), .ref (md 1), .ref (md 2), .ref (md 3), .int (eI sh), .int (eI ra), .ref (md 4), .ref (md 5), .ref (md 6), .ref (md 7), .ref (md 8), .long (eL up), .long (eL lw), .ref (md 9), .ref (md 10), .ref (md 11), .ref (md 12), .ref (md 13), .ref (md 14), .ref (md 15), .int (eI 0), .int (eI fo)])), ((md 1), aI cI 25 sc), ((md 2), aI cI 4 ln), ((md 3), aI cZ 4 cb), ((md 4), aI cZ 3 th), ((md 5), aI cI 3 pl), ((md 6), aI cI 3 lo), ((md 7), aI cI 3 pr), ((md 8), aI cI 30 la)] := hD
        refine lv_aload_n hx hb d_M_beside_65 rfl (lv_at hl 0 rfl) ?_
        refine va_get (D := D) (ci := 5) (v := .ref (md 4)) (C := R_M) (T := T_M) (N := 23) hx hb htb in_M hown hK hP 0 rfl rfl 7 (by decide) (htb _ tb_595) (fun _ h9 => h9) rfl d_M_beside_66 ?_
        refine lv_iload_n hx hb d_M_beside_69 rfl (lv_at hl 1 rfl) ?_
        refine lv_iconst (v := eI 1) hx hb d_M_beside_70 rfl ?_
        refine we_zast hx hb hK hP hD hS 4 2 rfl rfl y.toNat (by omega) (by omega) (by decide) (by omega) d_M_beside_71 (fun H locs hP hD hS => ?_)
        have hP : va_P D classes [((md 0), .inr (5, [.int (eI 0), .int (eI ((n : Nat) : Int)), .ref (md 1), .ref (md 2), .ref (md 3), .int (eI sh), .int (eI ra), .ref (md 4), .ref (md 5), .ref (md 6), .ref (md 7), .ref (md 8), .long (eL up), .long (eL lw), .ref (md 9), .ref (md 10), .ref (md 11), .ref (md 12), .ref (md 13), .ref (md 14), .ref (md 15), .int (eI 0), .int (eI fo)])), ((md 1), aI cI 25 sc), ((md 2), aI cI 4 ln), ((md 3), aI cZ 4 cb), ((md 4), aI cZ 3 (eh_upd th y.toNat 1)), ((md 5), aI cI 3 pl), ((md 6), aI cI 3 lo), ((md 7), aI cI 3 pr), ((md 8), aI cI 30 la)] H := hP
        have hD : va_D A [((md 0), .inr (5, [.int (eI 0), .int (eI ((n : Nat) : Int)), .ref (md 1), .ref (md 2), .ref (md 3), .int (eI sh), .int (eI ra), .ref (md 4), .ref (md 5), .ref (md 6), .ref (md 7), .ref (md 8), .long (eL up), .long (eL lw), .ref (md 9), .ref (md 10), .ref (md 11), .ref (md 12), .ref (md 13), .ref (md 14), .ref (md 15), .int (eI 0), .int (eI fo)])), ((md 1), aI cI 25 sc), ((md 2), aI cI 4 ln), ((md 3), aI cZ 4 cb), ((md 4), aI cZ 3 (eh_upd th y.toNat 1)), ((md 5), aI cI 3 pl), ((md 6), aI cI 3 lo), ((md 7), aI cI 3 pr), ((md 8), aI cI 30 la)] := hD
        refine lv_aload_n hx hb d_M_beside_72 rfl (lv_at hl 0 rfl) ?_
        refine va_get (D := D) (ci := 5) (v := .ref (md 5)) (C := R_M) (T := T_M) (N := 23) hx hb htb in_M hown hK hP 0 rfl rfl 8 (by decide) (htb _ tb_596) (fun _ h9 => h9) rfl d_M_beside_73 ?_
        refine lv_iload_n hx hb d_M_beside_76 rfl (lv_at hl 1 rfl) ?_
        refine lv_iload_n hx hb d_M_beside_77 rfl (lv_at hl 2 rfl) ?_
        refine we_iast hx hb hK hP hD hS 5 0 rfl rfl y.toNat (by omega) (by omega) (by decide) d_M_beside_78 (fun H locs hP hD hS => ?_)
        have hP : va_P D classes [((md 0), .inr (5, [.int (eI 0), .int (eI ((n : Nat) : Int)), .ref (md 1), .ref (md 2), .ref (md 3), .int (eI sh), .int (eI ra), .ref (md 4), .ref (md 5), .ref (md 6), .ref (md 7), .ref (md 8), .long (eL up), .long (eL lw), .ref (md 9), .ref (md 10), .ref (md 11), .ref (md 12), .ref (md 13), .ref (md 14), .ref (md 15), .int (eI 0), .int (eI fo)])), ((md 1), aI cI 25 sc), ((md 2), aI cI 4 ln), ((md 3), aI cZ 4 cb), ((md 4), aI cZ 3 (eh_upd th y.toNat 1)), ((md 5), aI cI 3 (eh_upd pl y.toNat z)), ((md 6), aI cI 3 lo), ((md 7), aI cI 3 pr), ((md 8), aI cI 30 la)] H := hP
        have hD : va_D A [((md 0), .inr (5, [.int (eI 0), .int (eI ((n : Nat) : Int)), .ref (md 1), .ref (md 2), .ref (md 3), .int (eI sh), .int (eI ra), .ref (md 4), .ref (md 5), .ref (md 6), .ref (md 7), .ref (md 8), .long (eL up), .long (eL lw), .ref (md 9), .ref (md 10), .ref (md 11), .ref (md 12), .ref (md 13), .ref (md 14), .ref (md 15), .int (eI 0), .int (eI fo)])), ((md 1), aI cI 25 sc), ((md 2), aI cI 4 ln), ((md 3), aI cZ 4 cb), ((md 4), aI cZ 3 (eh_upd th y.toNat 1)), ((md 5), aI cI 3 (eh_upd pl y.toNat z)), ((md 6), aI cI 3 lo), ((md 7), aI cI 3 pr), ((md 8), aI cI 30 la)] := hD
        refine lv_aload_n hx hb d_M_beside_79 rfl (lv_at hl 0 rfl) ?_
        refine va_get (D := D) (ci := 5) (v := .ref (md 6)) (C := R_M) (T := T_M) (N := 23) hx hb htb in_M hown hK hP 0 rfl rfl 9 (by decide) (htb _ tb_597) (fun _ h9 => h9) rfl d_M_beside_80 ?_
        refine lv_iload_n hx hb d_M_beside_83 rfl (lv_at hl 1 rfl) ?_
        refine lv_iload_n hx hb d_M_beside_84 rfl (lv_at hl 3 rfl) ?_
        refine we_iast hx hb hK hP hD hS 6 0 rfl rfl y.toNat (by omega) (by omega) (by decide) d_M_beside_85 (fun H locs hP hD hS => ?_)
        have hP : va_P D classes [((md 0), .inr (5, [.int (eI 0), .int (eI ((n : Nat) : Int)), .ref (md 1), .ref (md 2), .ref (md 3), .int (eI sh), .int (eI ra), .ref (md 4), .ref (md 5), .ref (md 6), .ref (md 7), .ref (md 8), .long (eL up), .long (eL lw), .ref (md 9), .ref (md 10), .ref (md 11), .ref (md 12), .ref (md 13), .ref (md 14), .ref (md 15), .int (eI 0), .int (eI fo)])), ((md 1), aI cI 25 sc), ((md 2), aI cI 4 ln), ((md 3), aI cZ 4 cb), ((md 4), aI cZ 3 (eh_upd th y.toNat 1)), ((md 5), aI cI 3 (eh_upd pl y.toNat z)), ((md 6), aI cI 3 (eh_upd lo y.toNat v)), ((md 7), aI cI 3 pr), ((md 8), aI cI 30 la)] H := hP
        have hD : va_D A [((md 0), .inr (5, [.int (eI 0), .int (eI ((n : Nat) : Int)), .ref (md 1), .ref (md 2), .ref (md 3), .int (eI sh), .int (eI ra), .ref (md 4), .ref (md 5), .ref (md 6), .ref (md 7), .ref (md 8), .long (eL up), .long (eL lw), .ref (md 9), .ref (md 10), .ref (md 11), .ref (md 12), .ref (md 13), .ref (md 14), .ref (md 15), .int (eI 0), .int (eI fo)])), ((md 1), aI cI 25 sc), ((md 2), aI cI 4 ln), ((md 3), aI cZ 4 cb), ((md 4), aI cZ 3 (eh_upd th y.toNat 1)), ((md 5), aI cI 3 (eh_upd pl y.toNat z)), ((md 6), aI cI 3 (eh_upd lo y.toNat v)), ((md 7), aI cI 3 pr), ((md 8), aI cI 30 la)] := hD
        refine lv_aload_n hx hb d_M_beside_86 rfl (lv_at hl 0 rfl) ?_
        refine va_get (D := D) (ci := 5) (v := .ref (md 7)) (C := R_M) (T := T_M) (N := 23) hx hb htb in_M hown hK hP 0 rfl rfl 10 (by decide) (htb _ tb_598) (fun _ h9 => h9) rfl d_M_beside_87 ?_
        refine lv_iload_n hx hb d_M_beside_90 rfl (lv_at hl 1 rfl) ?_
        refine lv_iload hx hb d_M_beside_91 (lv_at hl 4 rfl) ?_
        refine we_iast hx hb hK hP hD hS 7 0 rfl rfl y.toNat (by omega) (by omega) (by decide) d_M_beside_93 (fun H locs hP hD hS => ?_)
        have hP : va_P D classes [((md 0), .inr (5, [.int (eI 0), .int (eI ((n : Nat) : Int)), .ref (md 1), .ref (md 2), .ref (md 3), .int (eI sh), .int (eI ra), .ref (md 4), .ref (md 5), .ref (md 6), .ref (md 7), .ref (md 8), .long (eL up), .long (eL lw), .ref (md 9), .ref (md 10), .ref (md 11), .ref (md 12), .ref (md 13), .ref (md 14), .ref (md 15), .int (eI 0), .int (eI fo)])), ((md 1), aI cI 25 sc), ((md 2), aI cI 4 ln), ((md 3), aI cZ 4 cb), ((md 4), aI cZ 3 (eh_upd th y.toNat 1)), ((md 5), aI cI 3 (eh_upd pl y.toNat z)), ((md 6), aI cI 3 (eh_upd lo y.toNat v)), ((md 7), aI cI 3 (eh_upd pr y.toNat w)), ((md 8), aI cI 30 la)] H := hP
        have hD : va_D A [((md 0), .inr (5, [.int (eI 0), .int (eI ((n : Nat) : Int)), .ref (md 1), .ref (md 2), .ref (md 3), .int (eI sh), .int (eI ra), .ref (md 4), .ref (md 5), .ref (md 6), .ref (md 7), .ref (md 8), .long (eL up), .long (eL lw), .ref (md 9), .ref (md 10), .ref (md 11), .ref (md 12), .ref (md 13), .ref (md 14), .ref (md 15), .int (eI 0), .int (eI fo)])), ((md 1), aI cI 25 sc), ((md 2), aI cI 4 ln), ((md 3), aI cZ 4 cb), ((md 4), aI cZ 3 (eh_upd th y.toNat 1)), ((md 5), aI cI 3 (eh_upd pl y.toNat z)), ((md 6), aI cI 3 (eh_upd lo y.toNat v)), ((md 7), aI cI 3 (eh_upd pr y.toNat w)), ((md 8), aI cI 30 la)] := hD
        subst hQ
        exact W.vret hx hb hrt (fun t9 ht hW => ⟨⟨(0, 0, (eh_upd th y.toNat 1), (eh_upd pl y.toNat z), (eh_upd lo y.toNat v), (eh_upd pr y.toNat w)), rfl, Or.inr (Or.inr ⟨hcas, ⟨hv9, hw9⟩, rfl⟩), by rw [ht]; exact hP, hD⟩, hS.F ht⟩) hS.2.2 d_M_beside_94
      ·
        have hno : ¬ ((0 ≤ v ∧ v ≤ 100000000) ∧ (0 ≤ w ∧ w ≤ 1000)) := fun q9 => hw9 q9.2
        refine lv_aload_n hx hb d_M_beside_0 rfl (lv_at hl 0 rfl) ?_
        refine lv_iload_n hx hb d_M_beside_1 rfl (lv_at hl 1 rfl) ?_
        refine we_if_lt (tgt := 18) hx hb (by constructor <;> omega) d_M_beside_2 rfl (fun hc2 => absurd hc2 (by omega)) (fun hc2 => ?_)
        refine lv_iload_n hx hb d_M_beside_5 rfl (lv_at hl 1 rfl) ?_
        refine lv_iconst (v := eI 2) hx hb d_M_beside_6 rfl ?_
        refine we_icmp_gt (tgt := 18) hx hb (by constructor <;> omega) (by constructor <;> omega) d_M_beside_7 rfl (fun hc7 => absurd hc7 (by omega)) (fun hc7 => ?_)
        refine lv_aload_n hx hb d_M_beside_10 rfl (lv_at hl 0 rfl) ?_
        refine lv_iload_n hx hb d_M_beside_11 rfl (lv_at hl 2 rfl) ?_
        refine eh_cRV (As := [.int (eI z)]) (rest := [.ref (md 0)]) (v := .int (eI (if (z < 0 ∨ (n : Int) ≤ z + 1) then 1 else 0))) (q := (R_M, T_M, 23)) hx hb hml hown htb hN (r_M_noSpan l D cI cL cZ md co n sh ra up lw kn fo sc ln cb th pl lo pr la cu cl fu fl ys yl yp z hz hM) 1 ⟨tb_681, tb_683, ts_29, tb_7, kin_M_noSpan⟩ dv_M_noSpan ⟨by rw [hR1]; decide, by rw [hR2]; decide⟩ hK hP 0 rfl rfl [0, 1, 2, 3, 4, 5, 6, 7, 8] rfl [0, 1, 2] rfl rfl rfl hl.1 (Nat.le_of_ble_eq_true rfl) d_M_beside_12 ⟨Nat.zero_le _, Nat.zero_le _⟩ ?_
        refine we_if_eq (tgt := 22) hx hb (by constructor <;> split <;> omega) d_M_beside_15 rfl (fun hc15 => ?_) (fun hc15 => absurd hc15 (by rw [if_neg hns]; omega))
        refine lv_iload_n hx hb d_M_beside_22 rfl (lv_at hl 3 rfl) ?_
        refine lv_iconst (v := eI 0) hx hb d_M_beside_23 rfl ?_
        refine we_ldc (a := 100000000) hx hb hown (htb _ tb_689) (by decide) d_M_beside_24 ?_
        refine eh_cRS (As := [.int (eI v), .int (eI 0), .int (eI 100000000)]) (rest := [.ref (md 0)]) (v := .int (eI (if 0 ≤ v ∧ v ≤ 100000000 then 1 else 0))) hx hb hml hown htb hN (r_M_within l D v 0 100000000 hv (by omega) (by omega)) 3 ⟨tb_670, tb_671, tb_7, kin_M_within⟩ dv_M_within ⟨by rw [hR1]; decide, by rw [hR2]; decide⟩ hK hP [] rfl [] rfl rfl rfl hl.1 (Nat.le_of_ble_eq_true rfl) d_M_beside_26 ⟨Nat.zero_le _, Nat.zero_le _⟩ ?_
        refine we_if_eq (tgt := 44) hx hb (by constructor <;> split <;> omega) d_M_beside_29 rfl (fun hc29 => absurd hc29 (by rw [if_pos hv9]; omega)) (fun hc29 => ?_)
        refine lv_iload hx hb d_M_beside_32 (lv_at hl 4 rfl) ?_
        refine lv_iconst (v := eI 0) hx hb d_M_beside_34 rfl ?_
        refine lv_sipush (v := eI 1000) hx hb d_M_beside_35 (by decide) ?_
        refine eh_cRS (As := [.int (eI w), .int (eI 0), .int (eI 1000)]) (rest := [.ref (md 0)]) (v := .int (eI (if 0 ≤ w ∧ w ≤ 1000 then 1 else 0))) hx hb hml hown htb hN (r_M_within l D w 0 1000 hw (by omega) (by omega)) 3 ⟨tb_670, tb_671, tb_7, kin_M_within⟩ dv_M_within ⟨by rw [hR1]; decide, by rw [hR2]; decide⟩ hK hP [] rfl [] rfl rfl rfl hl.1 (Nat.le_of_ble_eq_true rfl) d_M_beside_38 ⟨Nat.zero_le _, Nat.zero_le _⟩ ?_
        refine we_if_ne (tgt := 48) hx hb (by constructor <;> split <;> omega) d_M_beside_41 rfl (fun hc41 => absurd hc41 (by rw [if_neg hw9]; omega)) (fun hc41 => ?_)
        refine lv_iconst (v := eI 2) hx hb d_M_beside_44 rfl ?_
        refine lv_goto (tgt := 49) hx hb d_M_beside_45 rfl ?_
        refine va_put (D := D) (ci := 5) (v := .int (eI 2)) (ty := .int) (C := R_M) (T := T_M) (N := 23) hx hb htb in_M t_M t_M_ok n_M hown hK hP hD hS 0 rfl rfl 0 (by decide) (htb _ tb_588) (fun _ h9 => h9) rfl (by decide +kernel) rfl rfl (Nat.le_of_ble_eq_true rfl) d_M_beside_49 (fun H locs hP hD hS => ?_)
        have hP : va_P D classes [((md 0), .inr (5, [.int (eI 2), .int (eI ((n : Nat) : Int)), .ref (md 1), .ref (md 2), .ref (md 3), .int (eI sh), .int (eI ra), .ref (md 4), .ref (md 5), .ref (md 6), .ref (md 7), .ref (md 8), .long (eL up), .long (eL lw), .ref (md 9), .ref (md 10), .ref (md 11), .ref (md 12), .ref (md 13), .ref (md 14), .ref (md 15), .int (eI kn), .int (eI fo)])), ((md 1), aI cI 25 sc), ((md 2), aI cI 4 ln), ((md 3), aI cZ 4 cb), ((md 4), aI cZ 3 th), ((md 5), aI cI 3 pl), ((md 6), aI cI 3 lo), ((md 7), aI cI 3 pr), ((md 8), aI cI 30 la)] H := hP
        have hD : va_D A [((md 0), .inr (5, [.int (eI 2), .int (eI ((n : Nat) : Int)), .ref (md 1), .ref (md 2), .ref (md 3), .int (eI sh), .int (eI ra), .ref (md 4), .ref (md 5), .ref (md 6), .ref (md 7), .ref (md 8), .long (eL up), .long (eL lw), .ref (md 9), .ref (md 10), .ref (md 11), .ref (md 12), .ref (md 13), .ref (md 14), .ref (md 15), .int (eI kn), .int (eI fo)])), ((md 1), aI cI 25 sc), ((md 2), aI cI 4 ln), ((md 3), aI cZ 4 cb), ((md 4), aI cZ 3 th), ((md 5), aI cI 3 pl), ((md 6), aI cI 3 lo), ((md 7), aI cI 3 pr), ((md 8), aI cI 30 la)] := hD
        refine lv_aload_n hx hb d_M_beside_52 rfl (lv_at hl 0 rfl) ?_
        refine va_get (D := D) (ci := 5) (v := .int (eI 2)) (C := R_M) (T := T_M) (N := 23) hx hb htb in_M hown hK hP 0 rfl rfl 0 (by decide) (htb _ tb_588) (fun _ h9 => h9) rfl d_M_beside_53 ?_
        refine we_if_le (tgt := 60) hx hb (by constructor <;> omega) d_M_beside_56 rfl (fun hc56 => absurd hc56 (by omega)) (fun hc56 => ?_)
        subst hQ
        exact W.vret hx hb hrt (fun t9 ht hW => ⟨⟨(2, kn, th, pl, lo, pr), rfl, Or.inr (Or.inl ⟨hcas, fun q9 => hno q9, rfl⟩), by rw [ht]; exact hP, hD⟩, hS.F ht⟩) hS.2.2 d_M_beside_59
    ·
      have hno : ¬ ((0 ≤ v ∧ v ≤ 100000000) ∧ (0 ≤ w ∧ w ≤ 1000)) := fun q9 => hv9 q9.1
      refine lv_aload_n hx hb d_M_beside_0 rfl (lv_at hl 0 rfl) ?_
      refine lv_iload_n hx hb d_M_beside_1 rfl (lv_at hl 1 rfl) ?_
      refine we_if_lt (tgt := 18) hx hb (by constructor <;> omega) d_M_beside_2 rfl (fun hc2 => absurd hc2 (by omega)) (fun hc2 => ?_)
      refine lv_iload_n hx hb d_M_beside_5 rfl (lv_at hl 1 rfl) ?_
      refine lv_iconst (v := eI 2) hx hb d_M_beside_6 rfl ?_
      refine we_icmp_gt (tgt := 18) hx hb (by constructor <;> omega) (by constructor <;> omega) d_M_beside_7 rfl (fun hc7 => absurd hc7 (by omega)) (fun hc7 => ?_)
      refine lv_aload_n hx hb d_M_beside_10 rfl (lv_at hl 0 rfl) ?_
      refine lv_iload_n hx hb d_M_beside_11 rfl (lv_at hl 2 rfl) ?_
      refine eh_cRV (As := [.int (eI z)]) (rest := [.ref (md 0)]) (v := .int (eI (if (z < 0 ∨ (n : Int) ≤ z + 1) then 1 else 0))) (q := (R_M, T_M, 23)) hx hb hml hown htb hN (r_M_noSpan l D cI cL cZ md co n sh ra up lw kn fo sc ln cb th pl lo pr la cu cl fu fl ys yl yp z hz hM) 1 ⟨tb_681, tb_683, ts_29, tb_7, kin_M_noSpan⟩ dv_M_noSpan ⟨by rw [hR1]; decide, by rw [hR2]; decide⟩ hK hP 0 rfl rfl [0, 1, 2, 3, 4, 5, 6, 7, 8] rfl [0, 1, 2] rfl rfl rfl hl.1 (Nat.le_of_ble_eq_true rfl) d_M_beside_12 ⟨Nat.zero_le _, Nat.zero_le _⟩ ?_
      refine we_if_eq (tgt := 22) hx hb (by constructor <;> split <;> omega) d_M_beside_15 rfl (fun hc15 => ?_) (fun hc15 => absurd hc15 (by rw [if_neg hns]; omega))
      refine lv_iload_n hx hb d_M_beside_22 rfl (lv_at hl 3 rfl) ?_
      refine lv_iconst (v := eI 0) hx hb d_M_beside_23 rfl ?_
      refine we_ldc (a := 100000000) hx hb hown (htb _ tb_689) (by decide) d_M_beside_24 ?_
      refine eh_cRS (As := [.int (eI v), .int (eI 0), .int (eI 100000000)]) (rest := [.ref (md 0)]) (v := .int (eI (if 0 ≤ v ∧ v ≤ 100000000 then 1 else 0))) hx hb hml hown htb hN (r_M_within l D v 0 100000000 hv (by omega) (by omega)) 3 ⟨tb_670, tb_671, tb_7, kin_M_within⟩ dv_M_within ⟨by rw [hR1]; decide, by rw [hR2]; decide⟩ hK hP [] rfl [] rfl rfl rfl hl.1 (Nat.le_of_ble_eq_true rfl) d_M_beside_26 ⟨Nat.zero_le _, Nat.zero_le _⟩ ?_
      refine we_if_eq (tgt := 44) hx hb (by constructor <;> split <;> omega) d_M_beside_29 rfl (fun hc29 => ?_) (fun hc29 => absurd hc29 (by rw [if_neg hv9]; omega))
      refine lv_iconst (v := eI 2) hx hb d_M_beside_44 rfl ?_
      refine lv_goto (tgt := 49) hx hb d_M_beside_45 rfl ?_
      refine va_put (D := D) (ci := 5) (v := .int (eI 2)) (ty := .int) (C := R_M) (T := T_M) (N := 23) hx hb htb in_M t_M t_M_ok n_M hown hK hP hD hS 0 rfl rfl 0 (by decide) (htb _ tb_588) (fun _ h9 => h9) rfl (by decide +kernel) rfl rfl (Nat.le_of_ble_eq_true rfl) d_M_beside_49 (fun H locs hP hD hS => ?_)
      have hP : va_P D classes [((md 0), .inr (5, [.int (eI 2), .int (eI ((n : Nat) : Int)), .ref (md 1), .ref (md 2), .ref (md 3), .int (eI sh), .int (eI ra), .ref (md 4), .ref (md 5), .ref (md 6), .ref (md 7), .ref (md 8), .long (eL up), .long (eL lw), .ref (md 9), .ref (md 10), .ref (md 11), .ref (md 12), .ref (md 13), .ref (md 14), .ref (md 15), .int (eI kn), .int (eI fo)])), ((md 1), aI cI 25 sc), ((md 2), aI cI 4 ln), ((md 3), aI cZ 4 cb), ((md 4), aI cZ 3 th), ((md 5), aI cI 3 pl), ((md 6), aI cI 3 lo), ((md 7), aI cI 3 pr), ((md 8), aI cI 30 la)] H := hP
      have hD : va_D A [((md 0), .inr (5, [.int (eI 2), .int (eI ((n : Nat) : Int)), .ref (md 1), .ref (md 2), .ref (md 3), .int (eI sh), .int (eI ra), .ref (md 4), .ref (md 5), .ref (md 6), .ref (md 7), .ref (md 8), .long (eL up), .long (eL lw), .ref (md 9), .ref (md 10), .ref (md 11), .ref (md 12), .ref (md 13), .ref (md 14), .ref (md 15), .int (eI kn), .int (eI fo)])), ((md 1), aI cI 25 sc), ((md 2), aI cI 4 ln), ((md 3), aI cZ 4 cb), ((md 4), aI cZ 3 th), ((md 5), aI cI 3 pl), ((md 6), aI cI 3 lo), ((md 7), aI cI 3 pr), ((md 8), aI cI 30 la)] := hD
      refine lv_aload_n hx hb d_M_beside_52 rfl (lv_at hl 0 rfl) ?_
      refine va_get (D := D) (ci := 5) (v := .int (eI 2)) (C := R_M) (T := T_M) (N := 23) hx hb htb in_M hown hK hP 0 rfl rfl 0 (by decide) (htb _ tb_588) (fun _ h9 => h9) rfl d_M_beside_53 ?_
      refine we_if_le (tgt := 60) hx hb (by constructor <;> omega) d_M_beside_56 rfl (fun hc56 => absurd hc56 (by omega)) (fun hc56 => ?_)
      subst hQ
      exact W.vret hx hb hrt (fun t9 ht hW => ⟨⟨(2, kn, th, pl, lo, pr), rfl, Or.inr (Or.inl ⟨hcas, fun q9 => hno q9, rfl⟩), by rw [ht]; exact hP, hD⟩, hS.F ht⟩) hS.2.2 d_M_beside_59
