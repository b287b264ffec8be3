abbrev c_M_placedAt : ByteArray := prog_7_method_9_code
def y_M_placedAt : MethodName := ⟨"EarthHaulsModel", "placedAt", "(I)I"⟩
abbrev k_M_placedAt : Cond := .code y_M_placedAt c_M_placedAt 2 (some .int)
theorem kin_M_placedAt : k_M_placedAt ∈ ew_t := tb_714
theorem dv_M_placedAt : eh_dV y_M_placedAt "EarthHaulsModel" 1 := ⟨rfl, by decide, by decide, by decide +kernel⟩
theorem d_M_placedAt_0 : decode c_M_placedAt 0 = .ok (.aload_n 0, 1) := by decide +kernel
theorem d_M_placedAt_1 : decode c_M_placedAt 1 = .ok (.iload_n 1, 1) := by decide +kernel
theorem d_M_placedAt_2 : decode c_M_placedAt 2 = .ok (.iconst 1, 1) := by decide +kernel
theorem d_M_placedAt_3 : decode c_M_placedAt 3 = .ok (.invokevirtual 97, 3) := by decide +kernel
theorem d_M_placedAt_6 : decode c_M_placedAt 6 = .ok (.i2l, 1) := by decide +kernel
theorem d_M_placedAt_7 : decode c_M_placedAt 7 = .ok (.aload_n 0, 1) := by decide +kernel
theorem d_M_placedAt_8 : decode c_M_placedAt 8 = .ok (.getfield 20, 3) := by decide +kernel
theorem d_M_placedAt_11 : decode c_M_placedAt 11 = .ok (.i2l, 1) := by decide +kernel
theorem d_M_placedAt_12 : decode c_M_placedAt 12 = .ok (.lmul, 1) := by decide +kernel
theorem d_M_placedAt_13 : decode c_M_placedAt 13 = .ok (.ldc2_w 101, 3) := by decide +kernel
theorem d_M_placedAt_16 : decode c_M_placedAt 16 = .ok (.ldiv, 1) := by decide +kernel
theorem d_M_placedAt_17 : decode c_M_placedAt 17 = .ok (.l2i, 1) := by decide +kernel
theorem d_M_placedAt_18 : decode c_M_placedAt 18 = .ok (.ireturn, 1) := by decide +kernel
set_option maxHeartbeats 1000000 in
set_option maxRecDepth 100000 in
theorem m_M_placedAt (l : Launch) (D : va_G) (cI cL cZ : ClassId) (md : Nat → Nat) (co : Int) (n : Nat) (sh ra up lw kn fo : Int) (sc ln cb th pl lo pr la : Nat → Int) (cu cl fu fl : Nat → Nat) (ys yl yp : Nat → Int) (k : Nat) (hk : k + 1 < n) (hM : eh_MS n sh ra sc ln cb th pl lo pr la cu cl fu fl ys yl yp) : eh_M (S := Int × Int) l y_M_placedAt k_M_placedAt 3 93 D classes [(cI, .int), (cL, .long), (cZ, .boolean)] [.ref (md 0), .int (eI ((k : Nat) : Int))] [((md 0), .inr (5, [.int (eI co), .int (eI ((n : Nat) : Int)), .ref (md 1), .ref (md 2), .ref (md 3), .int (eI sh), .int (eI ra), .ref (md 4), .ref (md 5), .ref (md 6), .ref (md 7), .ref (md 8), .long (eL up), .long (eL lw), .ref (md 9), .ref (md 10), .ref (md 11), .ref (md 12), .ref (md 13), .ref (md 14), .ref (md 15), .int (eI kn), .int (eI fo)])), ((md 1), aI cI 25 sc), ((md 2), aI cI 4 ln), ((md 3), aI cZ 4 cb), ((md 4), aI cZ 3 th), ((md 5), aI cI 3 pl), ((md 6), aI cI 3 lo), ((md 7), aI cI 3 pr), ((md 8), aI cI 30 la)] (fun _ => True) (fun _ => some (.int (eI (eh_plc cu cl ln sh k)))) (fun u => [((md 0), .inr (5, [.int (eI co), .int (eI ((n : Nat) : Int)), .ref (md 1), .ref (md 2), .ref (md 3), .int (eI sh), .int (eI ra), .ref (md 4), .ref (md 5), .ref (md 6), .ref (md 7), .ref (md 8), .long (eL u.1), .long (eL u.2), .ref (md 9), .ref (md 10), .ref (md 11), .ref (md 12), .ref (md 13), .ref (md 14), .ref (md 15), .int (eI kn), .int (eI fo)])), ((md 1), aI cI 25 sc), ((md 2), aI cI 4 ln), ((md 3), aI cZ 4 cb), ((md 4), aI cZ 3 th), ((md 5), aI cI 3 pl), ((md 6), aI cI 3 lo), ((md 7), aI cI 3 pr), ((md 8), aI cI 30 la)]) := by
  intro sz
  refine Met.ofW (cc := c_M_placedAt) (maxL := 2) (ret := (some .int)) (by decide) rfl ?_
  intro p e s m args below meth c s₁ B hml hv
  obtain ⟨hargs, hsz, hP, hK, hD0, hN⟩ := hv
  have hx := B.exec
  have hb := B.bytes
  have hrt := B.returns
  have hts := atoms_spec (ws := k_M_placedAt :: ew_t) B.pre
  have htb : ∀ w ∈ ew_t, w.before args s = true := fun w h => hts w (List.mem_cons_of_mem _ h)
  have hown : s.vm.findClass "EarthHaulsModel" = some m.cls := findClass_of_methodNamed B.named
  have hlocks := B.notSynchronized
  have hE : entryFrame m args 2 = entryFrame m ([.ref (md 0), .int (eI ((k : Nat) : Int))] : List Value).toArray 2 := by rw [hargs]
  rw [hE]
  clear hE hts B hargs
  generalize hRe : (headSpec _ _).room = R
  have hR1 : R.frames = 3 := by rw [← hRe]; rfl
  have hR2 : R.locals = 93 := by rw [← hRe]; rfl
  clear hRe
  generalize hQ : MQ below _ _ s 0 0 _ = Q
  subst hsz
  have hD := hD0.self (sz := s.heap.size)
  generalize hAe : va_A [((md 0), .inr (5, [.int (eI co), .int (eI ((n : Nat) : Int)), .ref (md 1), .ref (md 2), .ref (md 3), .int (eI sh), .int (eI ra), .ref (md 4), .ref (md 5), .ref (md 6), .ref (md 7), .ref (md 8), .long (eL up), .long (eL lw), .ref (md 9), .ref (md 10), .ref (md 11), .ref (md 12), .ref (md 13), .ref (md 14), .ref (md 15), .int (eI kn), .int (eI fo)])), ((md 1), aI cI 25 sc), ((md 2), aI cI 4 ln), ((md 3), aI cZ 4 cb), ((md 4), aI cZ 3 th), ((md 5), aI cI 3 pl), ((md 6), aI cI 3 lo), ((md 7), aI cI 3 pr), ((md 8), aI cI 30 la)] s.heap.size = A at hD hQ
  have hA : ∀ q : Nat, s.heap.size ≤ q → A q := fun q h => by rw [← hAe]; exact Or.inr h
  have hS : va_S A s.heap s.heap [] := va_S.rf
  have hP : va_P D classes [((md 0), .inr (5, [.int (eI co), .int (eI ((n : Nat) : Int)), .ref (md 1), .ref (md 2), .ref (md 3), .int (eI sh), .int (eI ra), .ref (md 4), .ref (md 5), .ref (md 6), .ref (md 7), .ref (md 8), .long (eL up), .long (eL lw), .ref (md 9), .ref (md 10), .ref (md 11), .ref (md 12), .ref (md 13), .ref (md 14), .ref (md 15), .int (eI kn), .int (eI fo)])), ((md 1), aI cI 25 sc), ((md 2), aI cI 4 ln), ((md 3), aI cZ 4 cb), ((md 4), aI cZ 3 th), ((md 5), aI cI 3 pl), ((md 6), aI cI 3 lo), ((md 7), aI cI 3 pr), ((md 8), aI cI 30 la)] s.heap := hP
  have hl := lv_entry ([.ref (md 0), .int (eI ((k : Nat) : Int))]) (n := 2) (Nat.le_of_ble_eq_true rfl)
  rw [lg_entry_eq]
  generalize (lg_sl ([.ref (md 0), .int (eI ((k : Nat) : Int))]) ++ List.replicate (2 - (lg_sl ([.ref (md 0), .int (eI ((k : Nat) : Int))])).length) Slot.unset).toArray = ls at hl ⊢
  have hl : lv_has ls 2 [(0, .ref (md 0)), (1, .int (eI ((k : Nat) : Int)))] := hl
  have hn5 := hM.1.1
  have hcb := eh_kut_b hM.1 hk
  have hpb := eh_plc_b hM.1 hk
  have hsh := hM.1.2.1
  refine lv_aload_n hx hb d_M_placedAt_0 rfl (lv_at hl 0 rfl) ?_
  refine lv_iload_n hx hb d_M_placedAt_1 rfl (lv_at hl 1 rfl) ?_
  refine lv_iconst (v := eI 1) hx hb d_M_placedAt_2 rfl ?_
  refine eh_cMV (As := [.int (eI ((k : Nat) : Int)), .int (eI 1)]) (rest := []) (q := (R_M, T_M, 23)) (wr := []) hx hb hml hown htb hN (m_M_litresAt_1 l D cI cL cZ md co n sh ra up lw kn fo sc ln cb th pl lo pr la cu cl fu fl ys yl yp k hk hM) 2 ⟨tb_715, tb_717, ts_32, tb_7, kin_M_litresAt⟩ dv_M_litresAt ⟨by rw [hR1]; decide, by rw [hR2]; decide⟩ hK hP hD hS hA 0 rfl rfl [0, 1, 2, 3, 4, 5, 6, 7, 8] [] rfl rfl (by decide) rfl (by decide) (by decide) [0, 1, 2] rfl rfl rfl hl.1 (Nat.le_of_ble_eq_true rfl) d_M_placedAt_3 ⟨Nat.zero_le _, Nat.zero_le _⟩ (fun u H locs hu hP hD hS => ?_)
  have hP := hP.sub (ws' := [((md 0), .inr (5, [.int (eI co), .int (eI ((n : Nat) : Int)), .ref (md 1), .ref (md 2), .ref (md 3), .int (eI sh), .int (eI ra), .ref (md 4), .ref (md 5), .ref (md 6), .ref (md 7), .ref (md 8), .long (eL ((cu (k + 1) : Nat) : Int)), .long (eL ((cl (k + 1) : Nat) : Int)), .ref (md 9), .ref (md 10), .ref (md 11), .ref (md 12), .ref (md 13), .ref (md 14), .ref (md 15), .int (eI kn), .int (eI fo)])), ((md 1), aI cI 25 sc), ((md 2), aI cI 4 ln), ((md 3), aI cZ 4 cb), ((md 4), aI cZ 3 th), ((md 5), aI cI 3 pl), ((md 6), aI cI 3 lo), ((md 7), aI cI 3 pr), ((md 8), aI cI 30 la)]) [0, 1, 2, 3, 4, 5, 6, 7, 8] rfl
  have hD := hD.sub (ws' := [((md 0), .inr (5, [.int (eI co), .int (eI ((n : Nat) : Int)), .ref (md 1), .ref (md 2), .ref (md 3), .int (eI sh), .int (eI ra), .ref (md 4), .ref (md 5), .ref (md 6), .ref (md 7), .ref (md 8), .long (eL ((cu (k + 1) : Nat) : Int)), .long (eL ((cl (k + 1) : Nat) : Int)), .ref (md 9), .ref (md 10), .ref (md 11), .ref (md 12), .ref (md 13), .ref (md 14), .ref (md 15), .int (eI kn), .int (eI fo)])), ((md 1), aI cI 25 sc), ((md 2), aI cI 4 ln), ((md 3), aI cZ 4 cb), ((md 4), aI cZ 3 th), ((md 5), aI cI 3 pl), ((md 6), aI cI 3 lo), ((md 7), aI cI 3 pr), ((md 8), aI cI 30 la)]) [0, 1, 2, 3, 4, 5, 6, 7, 8] (by decide) rfl
  refine we_i2l hx hb (by constructor <;> omega) d_M_placedAt_6 ?_
  refine lv_aload_n hx hb d_M_placedAt_7 rfl (lv_at hl 0 rfl) ?_
  refine va_get (D := D) (ci := 5) (v := .int (eI sh)) (C := R_M) (T := T_M) (N := 23) hx hb htb in_M hown hK hP 0 rfl rfl 5 (by decide) (htb _ tb_593) (fun _ h9 => h9) rfl d_M_placedAt_8 ?_
  refine we_i2l hx hb (by constructor <;> omega) d_M_placedAt_11 ?_
  refine we_lmul hx hb d_M_placedAt_12 ?_
  refine we_ldc2 (a := 1000) hx hb hown (htb _ tb_721) (by decide) d_M_placedAt_13 ?_
  refine we_ldiv hx hb (by constructor <;> omega) (by constructor <;> omega) (by omega) (by omega) d_M_placedAt_16 ?_
  refine we_l2i hx hb d_M_placedAt_17 ?_
  have hres : (((eh_kut cu cl ln k) * sh) / 1000) = (eh_plc cu cl ln sh k) := rfl
  rw [hres]
  subst hQ
  exact W.iret hx hb hrt (fun t9 ht hW => ⟨⟨(((cu (k + 1) : Nat) : Int), ((cl (k + 1) : Nat) : Int)), rfl, trivial, by rw [ht]; exact hP, hD⟩, hS.F ht⟩) hS.2.2 d_M_placedAt_18
abbrev c_M_curveOf : ByteArray := prog_7_method_18_code
def y_M_curveOf : MethodName := ⟨"EarthHaulsModel", "curveOf", "(I)I"⟩
abbrev k_M_curveOf : Cond := .code y_M_curveOf c_M_curveOf 4 (some .int)
theorem kin_M_curveOf : k_M_curveOf ∈ ew_t := tb_729
theorem dv_M_curveOf : eh_dV y_M_curveOf "EarthHaulsModel" 1 := ⟨rfl, by decide, by decide, by decide +kernel⟩
theorem d_M_curveOf_0 : decode c_M_curveOf 0 = .ok (.iconst 0, 1) := by decide +kernel
theorem d_M_curveOf_1 : decode c_M_curveOf 1 = .ok (.istore_n 2, 1) := by decide +kernel
theorem d_M_curveOf_2 : decode c_M_curveOf 2 = .ok (.iconst 0, 1) := by decide +kernel
theorem d_M_curveOf_3 : decode c_M_curveOf 3 = .ok (.istore_n 3, 1) := by decide +kernel
theorem d_M_curveOf_4 : decode c_M_curveOf 4 = .ok (.iload_n 3, 1) := by decide +kernel
theorem d_M_curveOf_5 : decode c_M_curveOf 5 = .ok (.iload_n 1, 1) := by decide +kernel
theorem d_M_curveOf_6 : decode c_M_curveOf 6 = .ok (.if_icmp .ge 24, 3) := by decide +kernel
theorem d_M_curveOf_9 : decode c_M_curveOf 9 = .ok (.iload_n 2, 1) := by decide +kernel
theorem d_M_curveOf_10 : decode c_M_curveOf 10 = .ok (.aload_n 0, 1) := by decide +kernel
theorem d_M_curveOf_11 : decode c_M_curveOf 11 = .ok (.iload_n 3, 1) := by decide +kernel
theorem d_M_curveOf_12 : decode c_M_curveOf 12 = .ok (.invokevirtual 116, 3) := by decide +kernel
theorem d_M_curveOf_15 : decode c_M_curveOf 15 = .ok (.iadd, 1) := by decide +kernel
theorem d_M_curveOf_16 : decode c_M_curveOf 16 = .ok (.aload_n 0, 1) := by decide +kernel
theorem d_M_curveOf_17 : decode c_M_curveOf 17 = .ok (.iload_n 3, 1) := by decide +kernel
theorem d_M_curveOf_18 : decode c_M_curveOf 18 = .ok (.iconst 0, 1) := by decide +kernel
theorem d_M_curveOf_19 : decode c_M_curveOf 19 = .ok (.invokevirtual 97, 3) := by decide +kernel
theorem d_M_curveOf_22 : decode c_M_curveOf 22 = .ok (.isub, 1) := by decide +kernel
theorem d_M_curveOf_23 : decode c_M_curveOf 23 = .ok (.istore_n 2, 1) := by decide +kernel
theorem d_M_curveOf_24 : decode c_M_curveOf 24 = .ok (.iinc 3 1, 3) := by decide +kernel
theorem d_M_curveOf_27 : decode c_M_curveOf 27 = .ok (.goto (-23), 3) := by decide +kernel
theorem d_M_curveOf_30 : decode c_M_curveOf 30 = .ok (.iload_n 2, 1) := by decide +kernel
theorem d_M_curveOf_31 : decode c_M_curveOf 31 = .ok (.ireturn, 1) := by decide +kernel
set_option maxHeartbeats 1000000 in
set_option maxRecDepth 100000 in
theorem m_M_curveOf (l : Launch) (D : va_G) (cI cL cZ : ClassId) (md : Nat → Nat) (co : Int) (n : Nat) (sh ra up lw kn fo : Int) (sc ln cb th pl lo pr la : Nat → Int) (cu cl fu fl : Nat → Nat) (ys yl yp : Nat → Int) (k : Nat) (hk : k < n) (hM : eh_MS n sh ra sc ln cb th pl lo pr la cu cl fu fl ys yl yp) : eh_M (S := Int × Int) l y_M_curveOf k_M_curveOf 4 114 D classes [(cI, .int), (cL, .long), (cZ, .boolean)] [.ref (md 0), .int (eI ((k : Nat) : Int))] [((md 0), .inr (5, [.int (eI co), .int (eI ((n : Nat) : Int)), .ref (md 1), .ref (md 2), .ref (md 3), .int (eI sh), .int (eI ra), .ref (md 4), .ref (md 5), .ref (md 6), .ref (md 7), .ref (md 8), .long (eL up), .long (eL lw), .ref (md 9), .ref (md 10), .ref (md 11), .ref (md 12), .ref (md 13), .ref (md 14), .ref (md 15), .int (eI kn), .int (eI fo)])), ((md 1), aI cI 25 sc), ((md 2), aI cI 4 ln), ((md 3), aI cZ 4 cb), ((md 4), aI cZ 3 th), ((md 5), aI cI 3 pl), ((md 6), aI cI 3 lo), ((md 7), aI cI 3 pr), ((md 8), aI cI 30 la)] (fun _ => True) (fun _ => some (.int (eI (eh_cv cu cl fu fl ln sh k)))) (fun u => [((md 0), .inr (5, [.int (eI co), .int (eI ((n : Nat) : Int)), .ref (md 1), .ref (md 2), .ref (md 3), .int (eI sh), .int (eI ra), .ref (md 4), .ref (md 5), .ref (md 6), .ref (md 7), .ref (md 8), .long (eL u.1), .long (eL u.2), .ref (md 9), .ref (md 10), .ref (md 11), .ref (md 12), .ref (md 13), .ref (md 14), .ref (md 15), .int (eI kn), .int (eI fo)])), ((md 1), aI cI 25 sc), ((md 2), aI cI 4 ln), ((md 3), aI cZ 4 cb), ((md 4), aI cZ 3 th), ((md 5), aI cI 3 pl), ((md 6), aI cI 3 lo), ((md 7), aI cI 3 pr), ((md 8), aI cI 30 la)]) := by
  intro sz
  refine Met.ofW (cc := c_M_curveOf) (maxL := 4) (ret := (some .int)) (by decide) rfl ?_
  intro p e s m args below meth c s₁ B hml hv
  obtain ⟨hargs, hsz, hP, hK, hD0, hN⟩ := hv
  have hx := B.exec
  have hb := B.bytes
  have hrt := B.returns
  have hts := atoms_spec (ws := k_M_curveOf :: ew_t) B.pre
  have htb : ∀ w ∈ ew_t, w.before args s = true := fun w h => hts w (List.mem_cons_of_mem _ h)
  have hown : s.vm.findClass "EarthHaulsModel" = some m.cls := findClass_of_methodNamed B.named
  have hlocks := B.notSynchronized
  have hE : entryFrame m args 4 = entryFrame m ([.ref (md 0), .int (eI ((k : Nat) : Int))] : List Value).toArray 4 := by rw [hargs]
  rw [hE]
  clear hE hts B hargs
  generalize hRe : (headSpec _ _).room = R
  have hR1 : R.frames = 4 := by rw [← hRe]; rfl
  have hR2 : R.locals = 114 := by rw [← hRe]; rfl
  clear hRe
  generalize hQ : MQ below _ _ s 0 0 _ = Q
  subst hsz
  have hD := hD0.self (sz := s.heap.size)
  generalize hAe : va_A [((md 0), .inr (5, [.int (eI co), .int (eI ((n : Nat) : Int)), .ref (md 1), .ref (md 2), .ref (md 3), .int (eI sh), .int (eI ra), .ref (md 4), .ref (md 5), .ref (md 6), .ref (md 7), .ref (md 8), .long (eL up), .long (eL lw), .ref (md 9), .ref (md 10), .ref (md 11), .ref (md 12), .ref (md 13), .ref (md 14), .ref (md 15), .int (eI kn), .int (eI fo)])), ((md 1), aI cI 25 sc), ((md 2), aI cI 4 ln), ((md 3), aI cZ 4 cb), ((md 4), aI cZ 3 th), ((md 5), aI cI 3 pl), ((md 6), aI cI 3 lo), ((md 7), aI cI 3 pr), ((md 8), aI cI 30 la)] s.heap.size = A at hD hQ
  have hA : ∀ q : Nat, s.heap.size ≤ q → A q := fun q h => by rw [← hAe]; exact Or.inr h
  have hS : va_S A s.heap s.heap [] := va_S.rf
  have hP : va_P D classes [((md 0), .inr (5, [.int (eI co), .int (eI ((n : Nat) : Int)), .ref (md 1), .ref (md 2), .ref (md 3), .int (eI sh), .int (eI ra), .ref (md 4), .ref (md 5), .ref (md 6), .ref (md 7), .ref (md 8), .long (eL up), .long (eL lw), .ref (md 9), .ref (md 10), .ref (md 11), .ref (md 12), .ref (md 13), .ref (md 14), .ref (md 15), .int (eI kn), .int (eI fo)])), ((md 1), aI cI 25 sc), ((md 2), aI cI 4 ln), ((md 3), aI cZ 4 cb), ((md 4), aI cZ 3 th), ((md 5), aI cI 3 pl), ((md 6), aI cI 3 lo), ((md 7), aI cI 3 pr), ((md 8), aI cI 30 la)] s.heap := hP
  have hl := lv_entry ([.ref (md 0), .int (eI ((k : Nat) : Int))]) (n := 4) (Nat.le_of_ble_eq_true rfl)
  rw [lg_entry_eq]
  generalize (lg_sl ([.ref (md 0), .int (eI ((k : Nat) : Int))]) ++ List.replicate (4 - (lg_sl ([.ref (md 0), .int (eI ((k : Nat) : Int))])).length) Slot.unset).toArray = ls at hl ⊢
  have hl : lv_has ls 4 [(0, .ref (md 0)), (1, .int (eI ((k : Nat) : Int)))] := hl
  have hn5 := hM.1.1
  refine lv_iconst (v := eI 0) hx hb d_M_curveOf_0 rfl ?_
  refine lv_istore_n hx hb d_M_curveOf_1 rfl hl (by decide) rfl (fun ls hl => ?_)
  have hl : lv_has ls 4 [(2, .int (eI 0)), (0, .ref (md 0)), (1, .int (eI ((k : Nat) : Int)))] := hl
  refine lv_iconst (v := eI 0) hx hb d_M_curveOf_2 rfl ?_
  refine lv_istore_n hx hb d_M_curveOf_3 rfl hl (by decide) rfl (fun ls hl => ?_)
  have hl : lv_has ls 4 [(3, .int (eI 0)), (2, .int (eI 0)), (0, .ref (md 0)), (1, .int (eI ((k : Nat) : Int)))] := hl
  have loop : ∀ (q i : Nat) (up9 lw9 : Int) (H : Heap) (locs : List Loc) (ls : Array Slot), k - i = q → i ≤ k → lv_has ls 4 [(3, .int (eI ((i : Nat) : Int))), (2, .int (eI (eh_cv cu cl fu fl ln sh i))), (0, .ref (md 0)), (1, .int (eI ((k : Nat) : Int)))] → va_P D classes [((md 0), .inr (5, [.int (eI co), .int (eI ((n : Nat) : Int)), .ref (md 1), .ref (md 2), .ref (md 3), .int (eI sh), .int (eI ra), .ref (md 4), .ref (md 5), .ref (md 6), .ref (md 7), .ref (md 8), .long (eL up9), .long (eL lw9), .ref (md 9), .ref (md 10), .ref (md 11), .ref (md 12), .ref (md 13), .ref (md 14), .ref (md 15), .int (eI kn), .int (eI fo)])), ((md 1), aI cI 25 sc), ((md 2), aI cI 4 ln), ((md 3), aI cZ 4 cb), ((md 4), aI cZ 3 th), ((md 5), aI cI 3 pl), ((md 6), aI cI 3 lo), ((md 7), aI cI 3 pr), ((md 8), aI cI 30 la)] H → va_D A [((md 0), .inr (5, [.int (eI co), .int (eI ((n : Nat) : Int)), .ref (md 1), .ref (md 2), .ref (md 3), .int (eI sh), .int (eI ra), .ref (md 4), .ref (md 5), .ref (md 6), .ref (md 7), .ref (md 8), .long (eL up9), .long (eL lw9), .ref (md 9), .ref (md 10), .ref (md 11), .ref (md 12), .ref (md 13), .ref (md 14), .ref (md 15), .int (eI kn), .int (eI fo)])), ((md 1), aI cI 25 sc), ((md 2), aI cI 4 ln), ((md 3), aI cZ 4 cb), ((md 4), aI cZ 3 th), ((md 5), aI cI 3 pl), ((md 6), aI cI 3 lo), ((md 7), aI cI 3 pr), ((md 8), aI cI 30 la)] → va_S A s.heap H locs → W p l e R s m args below meth c H locs 0 0 Q (F0 m 4 ls []) := by
    intro q
    induction q with
    | zero =>
      intro i up9 lw9 H locs ls hq hi hl hP hD hS
      have hik : i = k := by omega
      subst hik
      refine lv_iload_n hx hb d_M_curveOf_4 rfl (lv_at hl 0 rfl) ?_
      refine lv_iload_n hx hb d_M_curveOf_5 rfl (lv_at hl 3 rfl) ?_
      refine we_icmp_ge (tgt := 30) hx hb (by constructor <;> omega) (by constructor <;> omega) d_M_curveOf_6 rfl (fun hc6 => ?_) (fun hc6 => absurd hc6 (by omega))
      refine lv_iload_n hx hb d_M_curveOf_30 rfl (lv_at hl 1 rfl) ?_
      subst hQ
      exact W.iret hx hb hrt (fun t9 ht hW => ⟨⟨(up9, lw9), rfl, trivial, by rw [ht]; exact hP, hD⟩, hS.F ht⟩) hS.2.2 d_M_curveOf_31
    | succ q ih =>
      intro i up9 lw9 H locs ls hq hi hl hP hD hS
      refine lv_iload_n hx hb d_M_curveOf_4 rfl (lv_at hl 0 rfl) ?_
      refine lv_iload_n hx hb d_M_curveOf_5 rfl (lv_at hl 3 rfl) ?_
      refine we_icmp_ge (tgt := 30) hx hb (by constructor <;> omega) (by constructor <;> omega) d_M_curveOf_6 rfl (fun hc6 => absurd hc6 (by omega)) (fun hc6 => ?_)
      refine lv_iload_n hx hb d_M_curveOf_9 rfl (lv_at hl 1 rfl) ?_
      refine lv_aload_n hx hb d_M_curveOf_10 rfl (lv_at hl 2 rfl) ?_
      refine lv_iload_n hx hb d_M_curveOf_11 rfl (lv_at hl 0 rfl) ?_
      refine eh_cMV (As := [.int (eI ((i : Nat) : Int))]) (rest := [.int (eI (eh_cv cu cl fu fl ln sh i))]) (q := (R_M, T_M, 23)) (wr := []) hx hb hml hown htb hN (m_M_placedAt l D cI cL cZ md co n sh ra up9 lw9 kn fo sc ln cb th pl lo pr la cu cl fu fl ys yl yp i (by omega) hM) 1 ⟨tb_711, tb_713, ts_31, tb_7, kin_M_placedAt⟩ dv_M_placedAt ⟨by rw [hR1]; decide, by rw [hR2]; decide⟩ hK hP hD hS hA 0 rfl rfl [0, 1, 2, 3, 4, 5, 6, 7, 8] [] rfl rfl (by decide) rfl (by decide) (by decide) [0, 1, 2] rfl rfl rfl hl.1 (Nat.le_of_ble_eq_true rfl) d_M_curveOf_12 ⟨Nat.zero_le _, Nat.zero_le _⟩ (fun u H locs hu hP hD hS => ?_)
      obtain ⟨up2, lw2⟩ := u
      have hP := hP.sub (ws' := [((md 0), .inr (5, [.int (eI co), .int (eI ((n : Nat) : Int)), .ref (md 1), .ref (md 2), .ref (md 3), .int (eI sh), .int (eI ra), .ref (md 4), .ref (md 5), .ref (md 6), .ref (md 7), .ref (md 8), .long (eL up2), .long (eL lw2), .ref (md 9), .ref (md 10), .ref (md 11), .ref (md 12), .ref (md 13), .ref (md 14), .ref (md 15), .int (eI kn), .int (eI fo)])), ((md 1), aI cI 25 sc), ((md 2), aI cI 4 ln), ((md 3), aI cZ 4 cb), ((md 4), aI cZ 3 th), ((md 5), aI cI 3 pl), ((md 6), aI cI 3 lo), ((md 7), aI cI 3 pr), ((md 8), aI cI 30 la)]) [0, 1, 2, 3, 4, 5, 6, 7, 8] rfl
      have hD := hD.sub (ws' := [((md 0), .inr (5, [.int (eI co), .int (eI ((n : Nat) : Int)), .ref (md 1), .ref (md 2), .ref (md 3), .int (eI sh), .int (eI ra), .ref (md 4), .ref (md 5), .ref (md 6), .ref (md 7), .ref (md 8), .long (eL up2), .long (eL lw2), .ref (md 9), .ref (md 10), .ref (md 11), .ref (md 12), .ref (md 13), .ref (md 14), .ref (md 15), .int (eI kn), .int (eI fo)])), ((md 1), aI cI 25 sc), ((md 2), aI cI 4 ln), ((md 3), aI cZ 4 cb), ((md 4), aI cZ 3 th), ((md 5), aI cI 3 pl), ((md 6), aI cI 3 lo), ((md 7), aI cI 3 pr), ((md 8), aI cI 30 la)]) [0, 1, 2, 3, 4, 5, 6, 7, 8] (by decide) rfl
      refine we_iadd hx hb d_M_curveOf_15 ?_
      refine lv_aload_n hx hb d_M_curveOf_16 rfl (lv_at hl 2 rfl) ?_
      refine lv_iload_n hx hb d_M_curveOf_17 rfl (lv_at hl 0 rfl) ?_
      refine lv_iconst (v := eI 0) hx hb d_M_curveOf_18 rfl ?_
      refine eh_cMV (As := [.int (eI ((i : Nat) : Int)), .int (eI 0)]) (rest := [.int (eI ((eh_cv cu cl fu fl ln sh i) + (eh_plc cu cl ln sh i)))]) (q := (R_M, T_M, 23)) (wr := []) hx hb hml hown htb hN (m_M_litresAt_0 l D cI cL cZ md co n sh ra up2 lw2 kn fo sc ln cb th pl lo pr la cu cl fu fl ys yl yp i (by omega) hM) 2 ⟨tb_715, tb_717, ts_32, tb_7, kin_M_litresAt⟩ dv_M_litresAt ⟨by rw [hR1]; decide, by rw [hR2]; decide⟩ hK hP hD hS hA 0 rfl rfl [0, 1, 2, 3, 4, 5, 6, 7, 8] [] rfl rfl (by decide) rfl (by decide) (by decide) [0, 1, 2] rfl rfl rfl hl.1 (Nat.le_of_ble_eq_true rfl) d_M_curveOf_19 ⟨Nat.zero_le _, Nat.zero_le _⟩ (fun u H locs hu hP hD hS => ?_)
      have hP := hP.sub (ws' := [((md 0), .inr (5, [.int (eI co), .int (eI ((n : Nat) : Int)), .ref (md 1), .ref (md 2), .ref (md 3), .int (eI sh), .int (eI ra), .ref (md 4), .ref (md 5), .ref (md 6), .ref (md 7), .ref (md 8), .long (eL ((fu (i + 1) : Nat) : Int)), .long (eL ((fl (i + 1) : Nat) : Int)), .ref (md 9), .ref (md 10), .ref (md 11), .ref (md 12), .ref (md 13), .ref (md 14), .ref (md 15), .int (eI kn), .int (eI fo)])), ((md 1), aI cI 25 sc), ((md 2), aI cI 4 ln), ((md 3), aI cZ 4 cb), ((md 4), aI cZ 3 th), ((md 5), aI cI 3 pl), ((md 6), aI cI 3 lo), ((md 7), aI cI 3 pr), ((md 8), aI cI 30 la)]) [0, 1, 2, 3, 4, 5, 6, 7, 8] rfl
      have hD := hD.sub (ws' := [((md 0), .inr (5, [.int (eI co), .int (eI ((n : Nat) : Int)), .ref (md 1), .ref (md 2), .ref (md 3), .int (eI sh), .int (eI ra), .ref (md 4), .ref (md 5), .ref (md 6), .ref (md 7), .ref (md 8), .long (eL ((fu (i + 1) : Nat) : Int)), .long (eL ((fl (i + 1) : Nat) : Int)), .ref (md 9), .ref (md 10), .ref (md 11), .ref (md 12), .ref (md 13), .ref (md 14), .ref (md 15), .int (eI kn), .int (eI fo)])), ((md 1), aI cI 25 sc), ((md 2), aI cI 4 ln), ((md 3), aI cZ 4 cb), ((md 4), aI cZ 3 th), ((md 5), aI cI 3 pl), ((md 6), aI cI 3 lo), ((md 7), aI cI 3 pr), ((md 8), aI cI 30 la)]) [0, 1, 2, 3, 4, 5, 6, 7, 8] (by decide) rfl
      refine we_isub hx hb d_M_curveOf_22 ?_
      refine lv_istore_n hx hb d_M_curveOf_23 rfl hl (by decide) rfl (fun ls hl => ?_)
      have hl : lv_has ls 4 [(2, .int (eI (((eh_cv cu cl fu fl ln sh i) + (eh_plc cu cl ln sh i)) - (eh_kut fu fl ln i)))), (3, .int (eI ((i : Nat) : Int))), (0, .ref (md 0)), (1, .int (eI ((k : Nat) : Int)))] := hl
      refine lv_iinc (v := eI (((i : Nat) : Int) + 1)) hx hb d_M_curveOf_24 hl (k := 1) rfl (eI_add _ _) (by decide) rfl (fun ls hl => ?_)
      have hl : lv_has ls 4 [(3, .int (eI (((i : Nat) : Int) + 1))), (2, .int (eI (((eh_cv cu cl fu fl ln sh i) + (eh_plc cu cl ln sh i)) - (eh_kut fu fl ln i)))), (0, .ref (md 0)), (1, .int (eI ((k : Nat) : Int)))] := hl
      refine lv_goto (tgt := 4) hx hb d_M_curveOf_27 rfl ?_
      have hs9 : (((eh_cv cu cl fu fl ln sh i) + (eh_plc cu cl ln sh i)) - (eh_kut fu fl ln i)) = (eh_cv cu cl fu fl ln sh (i + 1)) := by
        show _ = (eh_cv cu cl fu fl ln sh i) + (eh_plc cu cl ln sh i - eh_kut fu fl ln i)
        omega
      rw [hs9] at hl
      exact ih (i + 1) _ _ H locs ls (by omega) (by omega) (lv_sub hl [0, 1, 2, 3] rfl) hP hD hS
  exact loop k 0 up lw s.heap [] ls (by omega) (by omega) (lv_sub hl [0, 1, 2, 3] rfl) hP hD hS
abbrev c_M_spanOfSource : ByteArray := prog_7_method_21_code
def y_M_spanOfSource : MethodName := ⟨"EarthHaulsModel", "spanOfSource", "(I)I"⟩
abbrev k_M_spanOfSource : Cond := .code y_M_spanOfSource c_M_spanOfSource 2 (some .int)
theorem kin_M_spanOfSource : k_M_spanOfSource ∈ ew_t := tb_748
theorem dv_M_spanOfSource : eh_dV y_M_spanOfSource "EarthHaulsModel" 1 := ⟨rfl, by decide, by decide, by decide +kernel⟩
theorem d_M_spanOfSource_0 : decode c_M_spanOfSource 0 = .ok (.iload_n 1, 1) := by decide +kernel
theorem d_M_spanOfSource_1 : decode c_M_spanOfSource 1 = .ok (.iconst 4, 1) := by decide +kernel
theorem d_M_spanOfSource_2 : decode c_M_spanOfSource 2 = .ok (.if_icmp .ge 19, 3) := by decide +kernel
theorem d_M_spanOfSource_5 : decode c_M_spanOfSource 5 = .ok (.aload_n 0, 1) := by decide +kernel
theorem d_M_spanOfSource_6 : decode c_M_spanOfSource 6 = .ok (.iload_n 1, 1) := by decide +kernel
theorem d_M_spanOfSource_7 : decode c_M_spanOfSource 7 = .ok (.invokevirtual 111, 3) := by decide +kernel
theorem d_M_spanOfSource_10 : decode c_M_spanOfSource 10 = .ok (.ifCond .eq 7, 3) := by decide +kernel
theorem d_M_spanOfSource_13 : decode c_M_spanOfSource 13 = .ok (.iconst (-1), 1) := by decide +kernel
theorem d_M_spanOfSource_14 : decode c_M_spanOfSource 14 = .ok (.goto 30, 3) := by decide +kernel
theorem d_M_spanOfSource_17 : decode c_M_spanOfSource 17 = .ok (.iload_n 1, 1) := by decide +kernel
theorem d_M_spanOfSource_18 : decode c_M_spanOfSource 18 = .ok (.goto 26, 3) := by decide +kernel
theorem d_M_spanOfSource_21 : decode c_M_spanOfSource 21 = .ok (.aload_n 0, 1) := by decide +kernel
theorem d_M_spanOfSource_22 : decode c_M_spanOfSource 22 = .ok (.getfield 27, 3) := by decide +kernel
theorem d_M_spanOfSource_25 : decode c_M_spanOfSource 25 = .ok (.iload_n 1, 1) := by decide +kernel
theorem d_M_spanOfSource_26 : decode c_M_spanOfSource 26 = .ok (.iconst 4, 1) := by decide +kernel
theorem d_M_spanOfSource_27 : decode c_M_spanOfSource 27 = .ok (.isub, 1) := by decide +kernel
theorem d_M_spanOfSource_28 : decode c_M_spanOfSource 28 = .ok (.baload, 1) := by decide +kernel
theorem d_M_spanOfSource_29 : decode c_M_spanOfSource 29 = .ok (.ifCond .eq 14, 3) := by decide +kernel
theorem d_M_spanOfSource_32 : decode c_M_spanOfSource 32 = .ok (.aload_n 0, 1) := by decide +kernel
theorem d_M_spanOfSource_33 : decode c_M_spanOfSource 33 = .ok (.getfield 30, 3) := by decide +kernel
theorem d_M_spanOfSource_36 : decode c_M_spanOfSource 36 = .ok (.iload_n 1, 1) := by decide +kernel
theorem d_M_spanOfSource_37 : decode c_M_spanOfSource 37 = .ok (.iconst 4, 1) := by decide +kernel
theorem d_M_spanOfSource_38 : decode c_M_spanOfSource 38 = .ok (.isub, 1) := by decide +kernel
theorem d_M_spanOfSource_39 : decode c_M_spanOfSource 39 = .ok (.iaload, 1) := by decide +kernel
theorem d_M_spanOfSource_40 : decode c_M_spanOfSource 40 = .ok (.goto 4, 3) := by decide +kernel
theorem d_M_spanOfSource_43 : decode c_M_spanOfSource 43 = .ok (.iconst (-1), 1) := by decide +kernel
theorem d_M_spanOfSource_44 : decode c_M_spanOfSource 44 = .ok (.ireturn, 1) := by decide +kernel
set_option maxHeartbeats 1000000 in
set_option maxRecDepth 100000 in
theorem r_M_spanOfSource (l : Launch) (D : va_G) (cI cL cZ : ClassId) (md : Nat → Nat) (co : Int) (n : Nat) (sh ra up lw kn fo : Int) (sc ln cb th pl lo pr la : Nat → Int) (cu cl fu fl : Nat → Nat) (ys yl yp : Nat → Int) (k : Nat) (hk : k < 6) (hM : eh_MS n sh ra sc ln cb th pl lo pr la cu cl fu fl ys yl yp) : eh_R l y_M_spanOfSource k_M_spanOfSource 1 21 D classes [(cI, .int), (cL, .long), (cZ, .boolean)] [.ref (md 0), .int (eI ((k : Nat) : Int))] [((md 0), .inr (5, [.int (eI co), .int (eI ((n : Nat) : Int)), .ref (md 1), .ref (md 2), .ref (md 3), .int (eI sh), .int (eI ra), .ref (md 4), .ref (md 5), .ref (md 6), .ref (md 7), .ref (md 8), .long (eL up), .long (eL lw), .ref (md 9), .ref (md 10), .ref (md 11), .ref (md 12), .ref (md 13), .ref (md 14), .ref (md 15), .int (eI kn), .int (eI fo)])), ((md 1), aI cI 25 sc), ((md 2), aI cI 4 ln), ((md 3), aI cZ 4 cb), ((md 4), aI cZ 3 th), ((md 5), aI cI 3 pl), ((md 6), aI cI 3 lo), ((md 7), aI cI 3 pr), ((md 8), aI cI 30 la)] (.int (eI (eh_so n ys k))) := by
  refine Met.ofW (cc := c_M_spanOfSource) (maxL := 2) (ret := (some .int)) (by decide) rfl ?_
  intro p e s m args below meth c s₁ B hml hv
  obtain ⟨hargs, hP, hK, hN⟩ := hv
  have hx := B.exec
  have hb := B.bytes
  have hrt := B.returns
  have hts := atoms_spec (ws := k_M_spanOfSource :: ew_t) B.pre
  have htb : ∀ w ∈ ew_t, w.before args s = true := fun w h => hts w (List.mem_cons_of_mem _ h)
  have hown : s.vm.findClass "EarthHaulsModel" = some m.cls := findClass_of_methodNamed B.named
  have hlocks := B.notSynchronized
  have hE : entryFrame m args 2 = entryFrame m ([.ref (md 0), .int (eI ((k : Nat) : Int))] : List Value).toArray 2 := by rw [hargs]
  rw [hE]
  clear hE hts B hargs
  generalize hRe : (headSpec _ _).room = R
  have hR1 : R.frames = 1 := by rw [← hRe]; rfl
  have hR2 : R.locals = 21 := by rw [← hRe]; rfl
  clear hRe
  generalize hQ : MQ below _ _ s 0 0 _ = Q
  have hP : va_P D classes [((md 0), .inr (5, [.int (eI co), .int (eI ((n : Nat) : Int)), .ref (md 1), .ref (md 2), .ref (md 3), .int (eI sh), .int (eI ra), .ref (md 4), .ref (md 5), .ref (md 6), .ref (md 7), .ref (md 8), .long (eL up), .long (eL lw), .ref (md 9), .ref (md 10), .ref (md 11), .ref (md 12), .ref (md 13), .ref (md 14), .ref (md 15), .int (eI kn), .int (eI fo)])), ((md 1), aI cI 25 sc), ((md 2), aI cI 4 ln), ((md 3), aI cZ 4 cb), ((md 4), aI cZ 3 th), ((md 5), aI cI 3 pl), ((md 6), aI cI 3 lo), ((md 7), aI cI 3 pr), ((md 8), aI cI 30 la)] s.heap := hP
  have hl := lv_entry ([.ref (md 0), .int (eI ((k : Nat) : Int))]) (n := 2) (Nat.le_of_ble_eq_true rfl)
  rw [lg_entry_eq]
  generalize (lg_sl ([.ref (md 0), .int (eI ((k : Nat) : Int))]) ++ List.replicate (2 - (lg_sl ([.ref (md 0), .int (eI ((k : Nat) : Int))])).length) Slot.unset).toArray = ls at hl ⊢
  have hl : lv_has ls 2 [(0, .ref (md 0)), (1, .int (eI ((k : Nat) : Int)))] := hl
  have hn5 := hM.1.1
  rcases (show k = 0 ∨ k = 1 ∨ k = 2 ∨ k = 3 ∨ k = 4 ∨ k = 5 by omega) with rfl | rfl | rfl | rfl | rfl | rfl
  ·
    have hl : lv_has ls 2 [(0, .ref (md 0)), (1, .int (eI ((0 : Nat) : Int)))] := hl
    refine lv_iload_n hx hb d_M_spanOfSource_0 rfl (lv_at hl 1 rfl) ?_
    refine lv_iconst (v := eI 4) hx hb d_M_spanOfSource_1 rfl ?_
    refine we_icmp_ge (tgt := 21) hx hb (by constructor <;> omega) (by constructor <;> omega) d_M_spanOfSource_2 rfl (fun hc2 => absurd hc2 (by omega)) (fun hc2 => ?_)
    refine lv_aload_n hx hb d_M_spanOfSource_5 rfl (lv_at hl 0 rfl) ?_
    refine lv_iload_n hx hb d_M_spanOfSource_6 rfl (lv_at hl 1 rfl) ?_
    refine eh_cRV (As := [.int (eI ((0 : Nat) : Int))]) (rest := []) (v := .int (eI (if ((0 : Nat) : Int) < 0 ∨ (n : Int) ≤ ((0 : Nat) : Int) + 1 then 1 else 0))) (q := (R_M, T_M, 23)) hx hb hml hown htb hN (r_M_noSpan l D cI cL cZ md co n sh ra up lw kn fo sc ln cb th pl lo pr la cu cl fu fl ys yl yp ((0 : Nat) : Int) (by omega) hM) 1 ⟨tb_681, tb_683, ts_29, tb_7, kin_M_noSpan⟩ dv_M_noSpan ⟨by rw [hR1]; decide, by rw [hR2]; decide⟩ hK hP 0 rfl rfl [0, 1, 2, 3, 4, 5, 6, 7, 8] rfl [0, 1, 2] rfl rfl rfl hl.1 (Nat.le_of_ble_eq_true rfl) d_M_spanOfSource_7 ⟨Nat.zero_le _, Nat.zero_le _⟩ ?_
    refine we_if_eq (tgt := 17) hx hb (by constructor <;> split <;> omega) d_M_spanOfSource_10 rfl (fun hc10 => ?_) (fun hc10 => ?_)
    ·
      refine lv_iload_n hx hb d_M_spanOfSource_17 rfl (lv_at hl 1 rfl) ?_
      refine lv_goto (tgt := 44) hx hb d_M_spanOfSource_18 rfl ?_
      have hres : (((0 : Nat) : Int) : Int) = (eh_so n ys 0) := by
        unfold eh_so
        rw [if_pos (by omega)]
        rw [if_pos (by split at hc10 <;> omega)]
      rw [hres]
      subst hQ
      exact W.iret hx hb hrt (fun t9 ht hW => ⟨rfl, ht⟩) (fun q h => by cases h) d_M_spanOfSource_44
    ·
      refine lv_iconst (v := eI (-1)) hx hb d_M_spanOfSource_13 rfl ?_
      refine lv_goto (tgt := 44) hx hb d_M_spanOfSource_14 rfl ?_
      have hres : ((-1) : Int) = (eh_so n ys 0) := by
        unfold eh_so
        rw [if_pos (by omega)]
        rw [if_neg (by split at hc10 <;> omega)]
      rw [hres]
      subst hQ
      exact W.iret hx hb hrt (fun t9 ht hW => ⟨rfl, ht⟩) (fun q h => by cases h) d_M_spanOfSource_44
  ·
    have hl : lv_has ls 2 [(0, .ref (md 0)), (1, .int (eI ((1 : Nat) : Int)))] := hl
    refine lv_iload_n hx hb d_M_spanOfSource_0 rfl (lv_at hl 1 rfl) ?_
    refine lv_iconst (v := eI 4) hx hb d_M_spanOfSource_1 rfl ?_
    refine we_icmp_ge (tgt := 21) hx hb (by constructor <;> omega) (by constructor <;> omega) d_M_spanOfSource_2 rfl (fun hc2 => absurd hc2 (by omega)) (fun hc2 => ?_)
    refine lv_aload_n hx hb d_M_spanOfSource_5 rfl (lv_at hl 0 rfl) ?_
    refine lv_iload_n hx hb d_M_spanOfSource_6 rfl (lv_at hl 1 rfl) ?_
    refine eh_cRV (As := [.int (eI ((1 : Nat) : Int))]) (rest := []) (v := .int (eI (if ((1 : Nat) : Int) < 0 ∨ (n : Int) ≤ ((1 : Nat) : Int) + 1 then 1 else 0))) (q := (R_M, T_M, 23)) hx hb hml hown htb hN (r_M_noSpan l D cI cL cZ md co n sh ra up lw kn fo sc ln cb th pl lo pr la cu cl fu fl ys yl yp ((1 : Nat) : Int) (by omega) hM) 1 ⟨tb_681, tb_683, ts_29, tb_7, kin_M_noSpan⟩ dv_M_noSpan ⟨by rw [hR1]; decide, by rw [hR2]; decide⟩ hK hP 0 rfl rfl [0, 1, 2, 3, 4, 5, 6, 7, 8] rfl [0, 1, 2] rfl rfl rfl hl.1 (Nat.le_of_ble_eq_true rfl) d_M_spanOfSource_7 ⟨Nat.zero_le _, Nat.zero_le _⟩ ?_
    refine we_if_eq (tgt := 17) hx hb (by constructor <;> split <;> omega) d_M_spanOfSource_10 rfl (fun hc10 => ?_) (fun hc10 => ?_)
    ·
      refine lv_iload_n hx hb d_M_spanOfSource_17 rfl (lv_at hl 1 rfl) ?_
      refine lv_goto (tgt := 44) hx hb d_M_spanOfSource_18 rfl ?_
      have hres : (((1 : Nat) : Int) : Int) = (eh_so n ys 1) := by
        unfold eh_so
        rw [if_pos (by omega)]
        rw [if_pos (by split at hc10 <;> omega)]
      rw [hres]
      subst hQ
      exact W.iret hx hb hrt (fun t9 ht hW => ⟨rfl, ht⟩) (fun q h => by cases h) d_M_spanOfSource_44
    ·
      refine lv_iconst (v := eI (-1)) hx hb d_M_spanOfSource_13 rfl ?_
      refine lv_goto (tgt := 44) hx hb d_M_spanOfSource_14 rfl ?_
      have hres : ((-1) : Int) = (eh_so n ys 1) := by
        unfold eh_so
        rw [if_pos (by omega)]
        rw [if_neg (by split at hc10 <;> omega)]
      rw [hres]
      subst hQ
      exact W.iret hx hb hrt (fun t9 ht hW => ⟨rfl, ht⟩) (fun q h => by cases h) d_M_spanOfSource_44
  ·
    have hl : lv_has ls 2 [(0, .ref (md 0)), (1, .int (eI ((2 : Nat) : Int)))] := hl
    refine lv_iload_n hx hb d_M_spanOfSource_0 rfl (lv_at hl 1 rfl) ?_
    refine lv_iconst (v := eI 4) hx hb d_M_spanOfSource_1 rfl ?_
    refine we_icmp_ge (tgt := 21) hx hb (by constructor <;> omega) (by constructor <;> omega) d_M_spanOfSource_2 rfl (fun hc2 => absurd hc2 (by omega)) (fun hc2 => ?_)
    refine lv_aload_n hx hb d_M_spanOfSource_5 rfl (lv_at hl 0 rfl) ?_
    refine lv_iload_n hx hb d_M_spanOfSource_6 rfl (lv_at hl 1 rfl) ?_
    refine eh_cRV (As := [.int (eI ((2 : Nat) : Int))]) (rest := []) (v := .int (eI (if ((2 : Nat) : Int) < 0 ∨ (n : Int) ≤ ((2 : Nat) : Int) + 1 then 1 else 0))) (q := (R_M, T_M, 23)) hx hb hml hown htb hN (r_M_noSpan l D cI cL cZ md co n sh ra up lw kn fo sc ln cb th pl lo pr la cu cl fu fl ys yl yp ((2 : Nat) : Int) (by omega) hM) 1 ⟨tb_681, tb_683, ts_29, tb_7, kin_M_noSpan⟩ dv_M_noSpan ⟨by rw [hR1]; decide, by rw [hR2]; decide⟩ hK hP 0 rfl rfl [0, 1, 2, 3, 4, 5, 6, 7, 8] rfl [0, 1, 2] rfl rfl rfl hl.1 (Nat.le_of_ble_eq_true rfl) d_M_spanOfSource_7 ⟨Nat.zero_le _, Nat.zero_le _⟩ ?_
    refine we_if_eq (tgt := 17) hx hb (by constructor <;> split <;> omega) d_M_spanOfSource_10 rfl (fun hc10 => ?_) (fun hc10 => ?_)
    ·
      refine lv_iload_n hx hb d_M_spanOfSource_17 rfl (lv_at hl 1 rfl) ?_
      refine lv_goto (tgt := 44) hx hb d_M_spanOfSource_18 rfl ?_
      have hres : (((2 : Nat) : Int) : Int) = (eh_so n ys 2) := by
        unfold eh_so
        rw [if_pos (by omega)]
        rw [if_pos (by split at hc10 <;> omega)]
      rw [hres]
      subst hQ
      exact W.iret hx hb hrt (fun t9 ht hW => ⟨rfl, ht⟩) (fun q h => by cases h) d_M_spanOfSource_44
    ·
      refine lv_iconst (v := eI (-1)) hx hb d_M_spanOfSource_13 rfl ?_
      refine lv_goto (tgt := 44) hx hb d_M_spanOfSource_14 rfl ?_
      have hres : ((-1) : Int) = (eh_so n ys 2) := by
        unfold eh_so
        rw [if_pos (by omega)]
        rw [if_neg (by split at hc10 <;> omega)]
      rw [hres]
      subst hQ
      exact W.iret hx hb hrt (fun t9 ht hW => ⟨rfl, ht⟩) (fun q h => by cases h) d_M_spanOfSource_44
  ·
    have hl : lv_has ls 2 [(0, .ref (md 0)), (1, .int (eI ((3 : Nat) : Int)))] := hl
    refine lv_iload_n hx hb d_M_spanOfSource_0 rfl (lv_at hl 1 rfl) ?_
    refine lv_iconst (v := eI 4) hx hb d_M_spanOfSource_1 rfl ?_
    refine we_icmp_ge (tgt := 21) hx hb (by constructor <;> omega) (by constructor <;> omega) d_M_spanOfSource_2 rfl (fun hc2 => absurd hc2 (by omega)) (fun hc2 => ?_)
    refine lv_aload_n hx hb d_M_spanOfSource_5 rfl (lv_at hl 0 rfl) ?_
    refine lv_iload_n hx hb d_M_spanOfSource_6 rfl (lv_at hl 1 rfl) ?_
    refine eh_cRV (As := [.int (eI ((3 : Nat) : Int))]) (rest := []) (v := .int (eI (if ((3 : Nat) : Int) < 0 ∨ (n : Int) ≤ ((3 : Nat) : Int) + 1 then 1 else 0))) (q := (R_M, T_M, 23)) hx hb hml hown htb hN (r_M_noSpan l D cI cL cZ md co n sh ra up lw kn fo sc ln cb th pl lo pr la cu cl fu fl ys yl yp ((3 : Nat) : Int) (by omega) hM) 1 ⟨tb_681, tb_683, ts_29, tb_7, kin_M_noSpan⟩ dv_M_noSpan ⟨by rw [hR1]; decide, by rw [hR2]; decide⟩ hK hP 0 rfl rfl [0, 1, 2, 3, 4, 5, 6, 7, 8] rfl [0, 1, 2] rfl rfl rfl hl.1 (Nat.le_of_ble_eq_true rfl) d_M_spanOfSource_7 ⟨Nat.zero_le _, Nat.zero_le _⟩ ?_
    refine we_if_eq (tgt := 17) hx hb (by constructor <;> split <;> omega) d_M_spanOfSource_10 rfl (fun hc10 => ?_) (fun hc10 => ?_)
    ·
      refine lv_iload_n hx hb d_M_spanOfSource_17 rfl (lv_at hl 1 rfl) ?_
      refine lv_goto (tgt := 44) hx hb d_M_spanOfSource_18 rfl ?_
      have hres : (((3 : Nat) : Int) : Int) = (eh_so n ys 3) := by
        unfold eh_so
        rw [if_pos (by omega)]
        rw [if_pos (by split at hc10 <;> omega)]
      rw [hres]
      subst hQ
      exact W.iret hx hb hrt (fun t9 ht hW => ⟨rfl, ht⟩) (fun q h => by cases h) d_M_spanOfSource_44
    ·
      refine lv_iconst (v := eI (-1)) hx hb d_M_spanOfSource_13 rfl ?_
      refine lv_goto (tgt := 44) hx hb d_M_spanOfSource_14 rfl ?_
      have hres : ((-1) : Int) = (eh_so n ys 3) := by
        unfold eh_so
        rw [if_pos (by omega)]
        rw [if_neg (by split at hc10 <;> omega)]
      rw [hres]
      subst hQ
      exact W.iret hx hb hrt (fun t9 ht hW => ⟨rfl, ht⟩) (fun q h => by cases h) d_M_spanOfSource_44
  ·
    have hl : lv_has ls 2 [(0, .ref (md 0)), (1, .int (eI ((4 : Nat) : Int)))] := hl
    have hy := hM.2.1 0 (by omega)
    refine lv_iload_n hx hb d_M_spanOfSource_0 rfl (lv_at hl 1 rfl) ?_
    refine lv_iconst (v := eI 4) hx hb d_M_spanOfSource_1 rfl ?_
    refine we_icmp_ge (tgt := 21) hx hb (by constructor <;> omega) (by constructor <;> omega) d_M_spanOfSource_2 rfl (fun hc2 => ?_) (fun hc2 => absurd hc2 (by omega))
    refine lv_aload_n hx hb d_M_spanOfSource_21 rfl (lv_at hl 0 rfl) ?_
    refine va_get (D := D) (ci := 5) (v := .ref (md 4)) (C := R_M) (T := T_M) (N := 23) hx hb htb in_M hown hK hP 0 rfl rfl 7 (by decide) (htb _ tb_595) (fun _ h9 => h9) rfl d_M_spanOfSource_22 ?_
    refine lv_iload_n hx hb d_M_spanOfSource_25 rfl (lv_at hl 1 rfl) ?_
    refine lv_iconst (v := eI 4) hx hb d_M_spanOfSource_26 rfl ?_
    refine we_isub hx hb d_M_spanOfSource_27 ?_
    refine we_zald hx hb hK hP 4 2 rfl rfl 0 rfl (by decide) (by decide) d_M_spanOfSource_28 ?_
    refine we_if_eq (tgt := 43) hx hb (by constructor <;> omega) d_M_spanOfSource_29 rfl (fun hc29 => ?_) (fun hc29 => ?_)
    ·
      refine lv_iconst (v := eI (-1)) hx hb d_M_spanOfSource_43 rfl ?_
      have hres : ((-1) : Int) = (eh_so n ys 4) := by
        show _ = ys 0
        omega
      rw [hres]
      subst hQ
      exact W.iret hx hb hrt (fun t9 ht hW => ⟨rfl, ht⟩) (fun q h => by cases h) d_M_spanOfSource_44
    ·
      refine lv_aload_n hx hb d_M_spanOfSource_32 rfl (lv_at hl 0 rfl) ?_
      refine va_get (D := D) (ci := 5) (v := .ref (md 5)) (C := R_M) (T := T_M) (N := 23) hx hb htb in_M hown hK hP 0 rfl rfl 8 (by decide) (htb _ tb_596) (fun _ h9 => h9) rfl d_M_spanOfSource_33 ?_
      refine lv_iload_n hx hb d_M_spanOfSource_36 rfl (lv_at hl 1 rfl) ?_
      refine lv_iconst (v := eI 4) hx hb d_M_spanOfSource_37 rfl ?_
      refine we_isub hx hb d_M_spanOfSource_38 ?_
      refine we_iald hx hb hK hP 5 0 rfl rfl 0 rfl (by decide) (by decide) d_M_spanOfSource_39 ?_
      refine lv_goto (tgt := 44) hx hb d_M_spanOfSource_40 rfl ?_
      have hres : ((pl 0) : Int) = (eh_so n ys 4) := by
        show _ = ys 0
        omega
      rw [hres]
      subst hQ
      exact W.iret hx hb hrt (fun t9 ht hW => ⟨rfl, ht⟩) (fun q h => by cases h) d_M_spanOfSource_44
  ·
    have hl : lv_has ls 2 [(0, .ref (md 0)), (1, .int (eI ((5 : Nat) : Int)))] := hl
    have hy := hM.2.1 1 (by omega)
    refine lv_iload_n hx hb d_M_spanOfSource_0 rfl (lv_at hl 1 rfl) ?_
    refine lv_iconst (v := eI 4) hx hb d_M_spanOfSource_1 rfl ?_
    refine we_icmp_ge (tgt := 21) hx hb (by constructor <;> omega) (by constructor <;> omega) d_M_spanOfSource_2 rfl (fun hc2 => ?_) (fun hc2 => absurd hc2 (by omega))
    refine lv_aload_n hx hb d_M_spanOfSource_21 rfl (lv_at hl 0 rfl) ?_
    refine va_get (D := D) (ci := 5) (v := .ref (md 4)) (C := R_M) (T := T_M) (N := 23) hx hb htb in_M hown hK hP 0 rfl rfl 7 (by decide) (htb _ tb_595) (fun _ h9 => h9) rfl d_M_spanOfSource_22 ?_
    refine lv_iload_n hx hb d_M_spanOfSource_25 rfl (lv_at hl 1 rfl) ?_
    refine lv_iconst (v := eI 4) hx hb d_M_spanOfSource_26 rfl ?_
    refine we_isub hx hb d_M_spanOfSource_27 ?_
    refine we_zald hx hb hK hP 4 2 rfl rfl 1 rfl (by decide) (by decide) d_M_spanOfSource_28 ?_
    refine we_if_eq (tgt := 43) hx hb (by constructor <;> omega) d_M_spanOfSource_29 rfl (fun hc29 => ?_) (fun hc29 => ?_)
    ·
      refine lv_iconst (v := eI (-1)) hx hb d_M_spanOfSource_43 rfl ?_
      have hres : ((-1) : Int) = (eh_so n ys 5) := by
        show _ = ys 1
        omega
      rw [hres]
      subst hQ
      exact W.iret hx hb hrt (fun t9 ht hW => ⟨rfl, ht⟩) (fun q h => by cases h) d_M_spanOfSource_44
    ·
      refine lv_aload_n hx hb d_M_spanOfSource_32 rfl (lv_at hl 0 rfl) ?_
      refine va_get (D := D) (ci := 5) (v := .ref (md 5)) (C := R_M) (T := T_M) (N := 23) hx hb htb in_M hown hK hP 0 rfl rfl 8 (by decide) (htb _ tb_596) (fun _ h9 => h9) rfl d_M_spanOfSource_33 ?_
      refine lv_iload_n hx hb d_M_spanOfSource_36 rfl (lv_at hl 1 rfl) ?_
      refine lv_iconst (v := eI 4) hx hb d_M_spanOfSource_37 rfl ?_
      refine we_isub hx hb d_M_spanOfSource_38 ?_
      refine we_iald hx hb hK hP 5 0 rfl rfl 1 rfl (by decide) (by decide) d_M_spanOfSource_39 ?_
      refine lv_goto (tgt := 44) hx hb d_M_spanOfSource_40 rfl ?_
      have hres : ((pl 1) : Int) = (eh_so n ys 5) := by
        show _ = ys 1
        omega
      rw [hres]
      subst hQ
      exact W.iret hx hb hrt (fun t9 ht hW => ⟨rfl, ht⟩) (fun q h => by cases h) d_M_spanOfSource_44
abbrev c_M_spanOfSink : ByteArray := prog_7_method_22_code
def y_M_spanOfSink : MethodName := ⟨"EarthHaulsModel", "spanOfSink", "(I)I"⟩
abbrev k_M_spanOfSink : Cond := .code y_M_spanOfSink c_M_spanOfSink 2 (some .int)
theorem kin_M_spanOfSink : k_M_spanOfSink ∈ ew_t := tb_752
theorem dv_M_spanOfSink : eh_dV y_M_spanOfSink "EarthHaulsModel" 1 := ⟨rfl, by decide, by decide, by decide +kernel⟩
theorem d_M_spanOfSink_0 : decode c_M_spanOfSink 0 = .ok (.iload_n 1, 1) := by decide +kernel
theorem d_M_spanOfSink_1 : decode c_M_spanOfSink 1 = .ok (.iconst 4, 1) := by decide +kernel
theorem d_M_spanOfSink_2 : decode c_M_spanOfSink 2 = .ok (.if_icmp .ge 19, 3) := by decide +kernel
theorem d_M_spanOfSink_5 : decode c_M_spanOfSink 5 = .ok (.aload_n 0, 1) := by decide +kernel
theorem d_M_spanOfSink_6 : decode c_M_spanOfSink 6 = .ok (.iload_n 1, 1) := by decide +kernel
theorem d_M_spanOfSink_7 : decode c_M_spanOfSink 7 = .ok (.invokevirtual 111, 3) := by decide +kernel
theorem d_M_spanOfSink_10 : decode c_M_spanOfSink 10 = .ok (.ifCond .eq 7, 3) := by decide +kernel
theorem d_M_spanOfSink_13 : decode c_M_spanOfSink 13 = .ok (.iconst (-1), 1) := by decide +kernel
theorem d_M_spanOfSink_14 : decode c_M_spanOfSink 14 = .ok (.goto 26, 3) := by decide +kernel
theorem d_M_spanOfSink_17 : decode c_M_spanOfSink 17 = .ok (.iload_n 1, 1) := by decide +kernel
theorem d_M_spanOfSink_18 : decode c_M_spanOfSink 18 = .ok (.goto 22, 3) := by decide +kernel
theorem d_M_spanOfSink_21 : decode c_M_spanOfSink 21 = .ok (.aload_n 0, 1) := by decide +kernel
theorem d_M_spanOfSink_22 : decode c_M_spanOfSink 22 = .ok (.getfield 27, 3) := by decide +kernel
theorem d_M_spanOfSink_25 : decode c_M_spanOfSink 25 = .ok (.iconst 2, 1) := by decide +kernel
theorem d_M_spanOfSink_26 : decode c_M_spanOfSink 26 = .ok (.baload, 1) := by decide +kernel
theorem d_M_spanOfSink_27 : decode c_M_spanOfSink 27 = .ok (.ifCond .eq 12, 3) := by decide +kernel
theorem d_M_spanOfSink_30 : decode c_M_spanOfSink 30 = .ok (.aload_n 0, 1) := by decide +kernel
theorem d_M_spanOfSink_31 : decode c_M_spanOfSink 31 = .ok (.getfield 30, 3) := by decide +kernel
theorem d_M_spanOfSink_34 : decode c_M_spanOfSink 34 = .ok (.iconst 2, 1) := by decide +kernel
theorem d_M_spanOfSink_35 : decode c_M_spanOfSink 35 = .ok (.iaload, 1) := by decide +kernel
theorem d_M_spanOfSink_36 : decode c_M_spanOfSink 36 = .ok (.goto 4, 3) := by decide +kernel
theorem d_M_spanOfSink_39 : decode c_M_spanOfSink 39 = .ok (.iconst (-1), 1) := by decide +kernel
theorem d_M_spanOfSink_40 : decode c_M_spanOfSink 40 = .ok (.ireturn, 1) := by decide +kernel
set_option maxHeartbeats 1000000 in
set_option maxRecDepth 100000 in
theorem r_M_spanOfSink (l : Launch) (D : va_G) (cI cL cZ : ClassId) (md : Nat → Nat) (co : Int) (n : Nat) (sh ra up lw kn fo : Int) (sc ln cb th pl lo pr la : Nat → Int) (cu cl fu fl : Nat → Nat) (ys yl yp : Nat → Int) (k : Nat) (hk : k < 5) (hM : eh_MS n sh ra sc ln cb th pl lo pr la cu cl fu fl ys yl yp) : eh_R l y_M_spanOfSink k_M_spanOfSink 1 21 D classes [(cI, .int), (cL, .long), (cZ, .boolean)] [.ref (md 0), .int (eI ((k : Nat) : Int))] [((md 0), .inr (5, [.int (eI co), .int (eI ((n : Nat) : Int)), .ref (md 1), .ref (md 2), .ref (md 3), .int (eI sh), .int (eI ra), .ref (md 4), .ref (md 5), .ref (md 6), .ref (md 7), .ref (md 8), .long (eL up), .long (eL lw), .ref (md 9), .ref (md 10), .ref (md 11), .ref (md 12), .ref (md 13), .ref (md 14), .ref (md 15), .int (eI kn), .int (eI fo)])), ((md 1), aI cI 25 sc), ((md 2), aI cI 4 ln), ((md 3), aI cZ 4 cb), ((md 4), aI cZ 3 th), ((md 5), aI cI 3 pl), ((md 6), aI cI 3 lo), ((md 7), aI cI 3 pr), ((md 8), aI cI 30 la)] (.int (eI (eh_si n ys k))) := by
  refine Met.ofW (cc := c_M_spanOfSink) (maxL := 2) (ret := (some .int)) (by decide) rfl ?_
  intro p e s m args below meth c s₁ B hml hv
  obtain ⟨hargs, hP, hK, hN⟩ := hv
  have hx := B.exec
  have hb := B.bytes
  have hrt := B.returns
  have hts := atoms_spec (ws := k_M_spanOfSink :: ew_t) B.pre
  have htb : ∀ w ∈ ew_t, w.before args s = true := fun w h => hts w (List.mem_cons_of_mem _ h)
  have hown : s.vm.findClass "EarthHaulsModel" = some m.cls := findClass_of_methodNamed B.named
  have hlocks := B.notSynchronized
  have hE : entryFrame m args 2 = entryFrame m ([.ref (md 0), .int (eI ((k : Nat) : Int))] : List Value).toArray 2 := by rw [hargs]
  rw [hE]
  clear hE hts B hargs
  generalize hRe : (headSpec _ _).room = R
  have hR1 : R.frames = 1 := by rw [← hRe]; rfl
  have hR2 : R.locals = 21 := by rw [← hRe]; rfl
  clear hRe
  generalize hQ : MQ below _ _ s 0 0 _ = Q
  have hP : va_P D classes [((md 0), .inr (5, [.int (eI co), .int (eI ((n : Nat) : Int)), .ref (md 1), .ref (md 2), .ref (md 3), .int (eI sh), .int (eI ra), .ref (md 4), .ref (md 5), .ref (md 6), .ref (md 7), .ref (md 8), .long (eL up), .long (eL lw), .ref (md 9), .ref (md 10), .ref (md 11), .ref (md 12), .ref (md 13), .ref (md 14), .ref (md 15), .int (eI kn), .int (eI fo)])), ((md 1), aI cI 25 sc), ((md 2), aI cI 4 ln), ((md 3), aI cZ 4 cb), ((md 4), aI cZ 3 th), ((md 5), aI cI 3 pl), ((md 6), aI cI 3 lo), ((md 7), aI cI 3 pr), ((md 8), aI cI 30 la)] s.heap := hP
  have hl := lv_entry ([.ref (md 0), .int (eI ((k : Nat) : Int))]) (n := 2) (Nat.le_of_ble_eq_true rfl)
  rw [lg_entry_eq]
  generalize (lg_sl ([.ref (md 0), .int (eI ((k : Nat) : Int))]) ++ List.replicate (2 - (lg_sl ([.ref (md 0), .int (eI ((k : Nat) : Int))])).length) Slot.unset).toArray = ls at hl ⊢
  have hl : lv_has ls 2 [(0, .ref (md 0)), (1, .int (eI ((k : Nat) : Int)))] := hl
  have hn5 := hM.1.1
  rcases (show k = 0 ∨ k = 1 ∨ k = 2 ∨ k = 3 ∨ k = 4 by omega) with rfl | rfl | rfl | rfl | rfl
  ·
    have hl : lv_has ls 2 [(0, .ref (md 0)), (1, .int (eI ((0 : Nat) : Int)))] := hl
    refine lv_iload_n hx hb d_M_spanOfSink_0 rfl (lv_at hl 1 rfl) ?_
    refine lv_iconst (v := eI 4) hx hb d_M_spanOfSink_1 rfl ?_
    refine we_icmp_ge (tgt := 21) hx hb (by constructor <;> omega) (by constructor <;> omega) d_M_spanOfSink_2 rfl (fun hc2 => absurd hc2 (by omega)) (fun hc2 => ?_)
    refine lv_aload_n hx hb d_M_spanOfSink_5 rfl (lv_at hl 0 rfl) ?_
    refine lv_iload_n hx hb d_M_spanOfSink_6 rfl (lv_at hl 1 rfl) ?_
    refine eh_cRV (As := [.int (eI ((0 : Nat) : Int))]) (rest := []) (v := .int (eI (if ((0 : Nat) : Int) < 0 ∨ (n : Int) ≤ ((0 : Nat) : Int) + 1 then 1 else 0))) (q := (R_M, T_M, 23)) hx hb hml hown htb hN (r_M_noSpan l D cI cL cZ md co n sh ra up lw kn fo sc ln cb th pl lo pr la cu cl fu fl ys yl yp ((0 : Nat) : Int) (by omega) hM) 1 ⟨tb_681, tb_683, ts_29, tb_7, kin_M_noSpan⟩ dv_M_noSpan ⟨by rw [hR1]; decide, by rw [hR2]; decide⟩ hK hP 0 rfl rfl [0, 1, 2, 3, 4, 5, 6, 7, 8] rfl [0, 1, 2] rfl rfl rfl hl.1 (Nat.le_of_ble_eq_true rfl) d_M_spanOfSink_7 ⟨Nat.zero_le _, Nat.zero_le _⟩ ?_
    refine we_if_eq (tgt := 17) hx hb (by constructor <;> split <;> omega) d_M_spanOfSink_10 rfl (fun hc10 => ?_) (fun hc10 => ?_)
    ·
      refine lv_iload_n hx hb d_M_spanOfSink_17 rfl (lv_at hl 1 rfl) ?_
      refine lv_goto (tgt := 40) hx hb d_M_spanOfSink_18 rfl ?_
      have hres : (((0 : Nat) : Int) : Int) = (eh_si n ys 0) := by
        unfold eh_si
        rw [if_pos (by omega)]
        rw [if_pos (by split at hc10 <;> omega)]
      rw [hres]
      subst hQ
      exact W.iret hx hb hrt (fun t9 ht hW => ⟨rfl, ht⟩) (fun q h => by cases h) d_M_spanOfSink_40
    ·
      refine lv_iconst (v := eI (-1)) hx hb d_M_spanOfSink_13 rfl ?_
      refine lv_goto (tgt := 40) hx hb d_M_spanOfSink_14 rfl ?_
      have hres : ((-1) : Int) = (eh_si n ys 0) := by
        unfold eh_si
        rw [if_pos (by omega)]
        rw [if_neg (by split at hc10 <;> omega)]
      rw [hres]
      subst hQ
      exact W.iret hx hb hrt (fun t9 ht hW => ⟨rfl, ht⟩) (fun q h => by cases h) d_M_spanOfSink_40
  ·
    have hl : lv_has ls 2 [(0, .ref (md 0)), (1, .int (eI ((1 : Nat) : Int)))] := hl
    refine lv_iload_n hx hb d_M_spanOfSink_0 rfl (lv_at hl 1 rfl) ?_
    refine lv_iconst (v := eI 4) hx hb d_M_spanOfSink_1 rfl ?_
    refine we_icmp_ge (tgt := 21) hx hb (by constructor <;> omega) (by constructor <;> omega) d_M_spanOfSink_2 rfl (fun hc2 => absurd hc2 (by omega)) (fun hc2 => ?_)
    refine lv_aload_n hx hb d_M_spanOfSink_5 rfl (lv_at hl 0 rfl) ?_
    refine lv_iload_n hx hb d_M_spanOfSink_6 rfl (lv_at hl 1 rfl) ?_
    refine eh_cRV (As := [.int (eI ((1 : Nat) : Int))]) (rest := []) (v := .int (eI (if ((1 : Nat) : Int) < 0 ∨ (n : Int) ≤ ((1 : Nat) : Int) + 1 then 1 else 0))) (q := (R_M, T_M, 23)) hx hb hml hown htb hN (r_M_noSpan l D cI cL cZ md co n sh ra up lw kn fo sc ln cb th pl lo pr la cu cl fu fl ys yl yp ((1 : Nat) : Int) (by omega) hM) 1 ⟨tb_681, tb_683, ts_29, tb_7, kin_M_noSpan⟩ dv_M_noSpan ⟨by rw [hR1]; decide, by rw [hR2]; decide⟩ hK hP 0 rfl rfl [0, 1, 2, 3, 4, 5, 6, 7, 8] rfl [0, 1, 2] rfl rfl rfl hl.1 (Nat.le_of_ble_eq_true rfl) d_M_spanOfSink_7 ⟨Nat.zero_le _, Nat.zero_le _⟩ ?_
    refine we_if_eq (tgt := 17) hx hb (by constructor <;> split <;> omega) d_M_spanOfSink_10 rfl (fun hc10 => ?_) (fun hc10 => ?_)
    ·
      refine lv_iload_n hx hb d_M_spanOfSink_17 rfl (lv_at hl 1 rfl) ?_
      refine lv_goto (tgt := 40) hx hb d_M_spanOfSink_18 rfl ?_
      have hres : (((1 : Nat) : Int) : Int) = (eh_si n ys 1) := by
        unfold eh_si
        rw [if_pos (by omega)]
        rw [if_pos (by split at hc10 <;> omega)]
      rw [hres]
      subst hQ
      exact W.iret hx hb hrt (fun t9 ht hW => ⟨rfl, ht⟩) (fun q h => by cases h) d_M_spanOfSink_40
    ·
      refine lv_iconst (v := eI (-1)) hx hb d_M_spanOfSink_13 rfl ?_
      refine lv_goto (tgt := 40) hx hb d_M_spanOfSink_14 rfl ?_
      have hres : ((-1) : Int) = (eh_si n ys 1) := by
        unfold eh_si
        rw [if_pos (by omega)]
        rw [if_neg (by split at hc10 <;> omega)]
      rw [hres]
      subst hQ
      exact W.iret hx hb hrt (fun t9 ht hW => ⟨rfl, ht⟩) (fun q h => by cases h) d_M_spanOfSink_40
  ·
    have hl : lv_has ls 2 [(0, .ref (md 0)), (1, .int (eI ((2 : Nat) : Int)))] := hl
    refine lv_iload_n hx hb d_M_spanOfSink_0 rfl (lv_at hl 1 rfl) ?_
    refine lv_iconst (v := eI 4) hx hb d_M_spanOfSink_1 rfl ?_
    refine we_icmp_ge (tgt := 21) hx hb (by constructor <;> omega) (by constructor <;> omega) d_M_spanOfSink_2 rfl (fun hc2 => absurd hc2 (by omega)) (fun hc2 => ?_)
    refine lv_aload_n hx hb d_M_spanOfSink_5 rfl (lv_at hl 0 rfl) ?_
    refine lv_iload_n hx hb d_M_spanOfSink_6 rfl (lv_at hl 1 rfl) ?_
    refine eh_cRV (As := [.int (eI ((2 : Nat) : Int))]) (rest := []) (v := .int (eI (if ((2 : Nat) : Int) < 0 ∨ (n : Int) ≤ ((2 : Nat) : Int) + 1 then 1 else 0))) (q := (R_M, T_M, 23)) hx hb hml hown htb hN (r_M_noSpan l D cI cL cZ md co n sh ra up lw kn fo sc ln cb th pl lo pr la cu cl fu fl ys yl yp ((2 : Nat) : Int) (by omega) hM) 1 ⟨tb_681, tb_683, ts_29, tb_7, kin_M_noSpan⟩ dv_M_noSpan ⟨by rw [hR1]; decide, by rw [hR2]; decide⟩ hK hP 0 rfl rfl [0, 1, 2, 3, 4, 5, 6, 7, 8] rfl [0, 1, 2] rfl rfl rfl hl.1 (Nat.le_of_ble_eq_true rfl) d_M_spanOfSink_7 ⟨Nat.zero_le _, Nat.zero_le _⟩ ?_
    refine we_if_eq (tgt := 17) hx hb (by constructor <;> split <;> omega) d_M_spanOfSink_10 rfl (fun hc10 => ?_) (fun hc10 => ?_)
    ·
      refine lv_iload_n hx hb d_M_spanOfSink_17 rfl (lv_at hl 1 rfl) ?_
      refine lv_goto (tgt := 40) hx hb d_M_spanOfSink_18 rfl ?_
      have hres : (((2 : Nat) : Int) : Int) = (eh_si n ys 2) := by
        unfold eh_si
        rw [if_pos (by omega)]
        rw [if_pos (by split at hc10 <;> omega)]
      rw [hres]
      subst hQ
      exact W.iret hx hb hrt (fun t9 ht hW => ⟨rfl, ht⟩) (fun q h => by cases h) d_M_spanOfSink_40
    ·
      refine lv_iconst (v := eI (-1)) hx hb d_M_spanOfSink_13 rfl ?_
      refine lv_goto (tgt := 40) hx hb d_M_spanOfSink_14 rfl ?_
      have hres : ((-1) : Int) = (eh_si n ys 2) := by
        unfold eh_si
        rw [if_pos (by omega)]
        rw [if_neg (by split at hc10 <;> omega)]
      rw [hres]
      subst hQ
      exact W.iret hx hb hrt (fun t9 ht hW => ⟨rfl, ht⟩) (fun q h => by cases h) d_M_spanOfSink_40
  ·
    have hl : lv_has ls 2 [(0, .ref (md 0)), (1, .int (eI ((3 : Nat) : Int)))] := hl
    refine lv_iload_n hx hb d_M_spanOfSink_0 rfl (lv_at hl 1 rfl) ?_
    refine lv_iconst (v := eI 4) hx hb d_M_spanOfSink_1 rfl ?_
    refine we_icmp_ge (tgt := 21) hx hb (by constructor <;> omega) (by constructor <;> omega) d_M_spanOfSink_2 rfl (fun hc2 => absurd hc2 (by omega)) (fun hc2 => ?_)
    refine lv_aload_n hx hb d_M_spanOfSink_5 rfl (lv_at hl 0 rfl) ?_
    refine lv_iload_n hx hb d_M_spanOfSink_6 rfl (lv_at hl 1 rfl) ?_
    refine eh_cRV (As := [.int (eI ((3 : Nat) : Int))]) (rest := []) (v := .int (eI (if ((3 : Nat) : Int) < 0 ∨ (n : Int) ≤ ((3 : Nat) : Int) + 1 then 1 else 0))) (q := (R_M, T_M, 23)) hx hb hml hown htb hN (r_M_noSpan l D cI cL cZ md co n sh ra up lw kn fo sc ln cb th pl lo pr la cu cl fu fl ys yl yp ((3 : Nat) : Int) (by omega) hM) 1 ⟨tb_681, tb_683, ts_29, tb_7, kin_M_noSpan⟩ dv_M_noSpan ⟨by rw [hR1]; decide, by rw [hR2]; decide⟩ hK hP 0 rfl rfl [0, 1, 2, 3, 4, 5, 6, 7, 8] rfl [0, 1, 2] rfl rfl rfl hl.1 (Nat.le_of_ble_eq_true rfl) d_M_spanOfSink_7 ⟨Nat.zero_le _, Nat.zero_le _⟩ ?_
    refine we_if_eq (tgt := 17) hx hb (by constructor <;> split <;> omega) d_M_spanOfSink_10 rfl (fun hc10 => ?_) (fun hc10 => ?_)
    ·
      refine lv_iload_n hx hb d_M_spanOfSink_17 rfl (lv_at hl 1 rfl) ?_
      refine lv_goto (tgt := 40) hx hb d_M_spanOfSink_18 rfl ?_
      have hres : (((3 : Nat) : Int) : Int) = (eh_si n ys 3) := by
        unfold eh_si
        rw [if_pos (by omega)]
        rw [if_pos (by split at hc10 <;> omega)]
      rw [hres]
      subst hQ
      exact W.iret hx hb hrt (fun t9 ht hW => ⟨rfl, ht⟩) (fun q h => by cases h) d_M_spanOfSink_40
    ·
      refine lv_iconst (v := eI (-1)) hx hb d_M_spanOfSink_13 rfl ?_
      refine lv_goto (tgt := 40) hx hb d_M_spanOfSink_14 rfl ?_
      have hres : ((-1) : Int) = (eh_si n ys 3) := by
        unfold eh_si
        rw [if_pos (by omega)]
        rw [if_neg (by split at hc10 <;> omega)]
      rw [hres]
      subst hQ
      exact W.iret hx hb hrt (fun t9 ht hW => ⟨rfl, ht⟩) (fun q h => by cases h) d_M_spanOfSink_40
  ·
    have hl : lv_has ls 2 [(0, .ref (md 0)), (1, .int (eI ((4 : Nat) : Int)))] := hl
    have hy := hM.2.1 2 (by omega)
    refine lv_iload_n hx hb d_M_spanOfSink_0 rfl (lv_at hl 1 rfl) ?_
    refine lv_iconst (v := eI 4) hx hb d_M_spanOfSink_1 rfl ?_
    refine we_icmp_ge (tgt := 21) hx hb (by constructor <;> omega) (by constructor <;> omega) d_M_spanOfSink_2 rfl (fun hc2 => ?_) (fun hc2 => absurd hc2 (by omega))
    refine lv_aload_n hx hb d_M_spanOfSink_21 rfl (lv_at hl 0 rfl) ?_
    refine va_get (D := D) (ci := 5) (v := .ref (md 4)) (C := R_M) (T := T_M) (N := 23) hx hb htb in_M hown hK hP 0 rfl rfl 7 (by decide) (htb _ tb_595) (fun _ h9 => h9) rfl d_M_spanOfSink_22 ?_
    refine lv_iconst (v := eI 2) hx hb d_M_spanOfSink_25 rfl ?_
    refine we_zald hx hb hK hP 4 2 rfl rfl 2 rfl (by decide) (by decide) d_M_spanOfSink_26 ?_
    refine we_if_eq (tgt := 39) hx hb (by constructor <;> omega) d_M_spanOfSink_27 rfl (fun hc27 => ?_) (fun hc27 => ?_)
    ·
      refine lv_iconst (v := eI (-1)) hx hb d_M_spanOfSink_39 rfl ?_
      have hres : ((-1) : Int) = (eh_si n ys 4) := by
        show _ = ys 2
        omega
      rw [hres]
      subst hQ
      exact W.iret hx hb hrt (fun t9 ht hW => ⟨rfl, ht⟩) (fun q h => by cases h) d_M_spanOfSink_40
    ·
      refine lv_aload_n hx hb d_M_spanOfSink_30 rfl (lv_at hl 0 rfl) ?_
      refine va_get (D := D) (ci := 5) (v := .ref (md 5)) (C := R_M) (T := T_M) (N := 23) hx hb htb in_M hown hK hP 0 rfl rfl 8 (by decide) (htb _ tb_596) (fun _ h9 => h9) rfl d_M_spanOfSink_31 ?_
      refine lv_iconst (v := eI 2) hx hb d_M_spanOfSink_34 rfl ?_
      refine we_iald hx hb hK hP 5 0 rfl rfl 2 rfl (by decide) (by decide) d_M_spanOfSink_35 ?_
      refine lv_goto (tgt := 40) hx hb d_M_spanOfSink_36 rfl ?_
      have hres : ((pl 2) : Int) = (eh_si n ys 4) := by
        show _ = ys 2
        omega
      rw [hres]
      subst hQ
      exact W.iret hx hb hrt (fun t9 ht hW => ⟨rfl, ht⟩) (fun q h => by cases h) d_M_spanOfSink_40
abbrev c_M_given : ByteArray := prog_7_method_23_code
def y_M_given : MethodName := ⟨"EarthHaulsModel", "given", "(I)I"⟩
abbrev k_M_given : Cond := .code y_M_given c_M_given 2 (some .int)
theorem kin_M_given : k_M_given ∈ ew_t := tb_772
theorem dv_M_given : eh_dV y_M_given "EarthHaulsModel" 1 := ⟨rfl, by decide, by decide, by decide +kernel⟩
theorem d_M_given_0 : decode c_M_given 0 = .ok (.iload_n 1, 1) := by decide +kernel
theorem d_M_given_1 : decode c_M_given 1 = .ok (.iconst 4, 1) := by decide +kernel
theorem d_M_given_2 : decode c_M_given 2 = .ok (.if_icmp .ge 23, 3) := by decide +kernel
theorem d_M_given_5 : decode c_M_given 5 = .ok (.aload_n 0, 1) := by decide +kernel
theorem d_M_given_6 : decode c_M_given 6 = .ok (.iload_n 1, 1) := by decide +kernel
theorem d_M_given_7 : decode c_M_given 7 = .ok (.invokevirtual 111, 3) := by decide +kernel
theorem d_M_given_10 : decode c_M_given 10 = .ok (.ifCond .eq 7, 3) := by decide +kernel
theorem d_M_given_13 : decode c_M_given 13 = .ok (.iconst 0, 1) := by decide +kernel
theorem d_M_given_14 : decode c_M_given 14 = .ok (.goto 34, 3) := by decide +kernel
theorem d_M_given_17 : decode c_M_given 17 = .ok (.aload_n 0, 1) := by decide +kernel
theorem d_M_given_18 : decode c_M_given 18 = .ok (.iload_n 1, 1) := by decide +kernel
theorem d_M_given_19 : decode c_M_given 19 = .ok (.invokevirtual 116, 3) := by decide +kernel
theorem d_M_given_22 : decode c_M_given 22 = .ok (.goto 26, 3) := by decide +kernel
theorem d_M_given_25 : decode c_M_given 25 = .ok (.aload_n 0, 1) := by decide +kernel
theorem d_M_given_26 : decode c_M_given 26 = .ok (.getfield 27, 3) := by decide +kernel
theorem d_M_given_29 : decode c_M_given 29 = .ok (.iload_n 1, 1) := by decide +kernel
theorem d_M_given_30 : decode c_M_given 30 = .ok (.iconst 4, 1) := by decide +kernel
theorem d_M_given_31 : decode c_M_given 31 = .ok (.isub, 1) := by decide +kernel
theorem d_M_given_32 : decode c_M_given 32 = .ok (.baload, 1) := by decide +kernel
theorem d_M_given_33 : decode c_M_given 33 = .ok (.ifCond .eq 14, 3) := by decide +kernel
theorem d_M_given_36 : decode c_M_given 36 = .ok (.aload_n 0, 1) := by decide +kernel
theorem d_M_given_37 : decode c_M_given 37 = .ok (.getfield 33, 3) := by decide +kernel
theorem d_M_given_40 : decode c_M_given 40 = .ok (.iload_n 1, 1) := by decide +kernel
theorem d_M_given_41 : decode c_M_given 41 = .ok (.iconst 4, 1) := by decide +kernel
theorem d_M_given_42 : decode c_M_given 42 = .ok (.isub, 1) := by decide +kernel
theorem d_M_given_43 : decode c_M_given 43 = .ok (.iaload, 1) := by decide +kernel
theorem d_M_given_44 : decode c_M_given 44 = .ok (.goto 4, 3) := by decide +kernel
theorem d_M_given_47 : decode c_M_given 47 = .ok (.iconst 0, 1) := by decide +kernel
theorem d_M_given_48 : decode c_M_given 48 = .ok (.ireturn, 1) := by decide +kernel
set_option maxHeartbeats 1000000 in
set_option maxRecDepth 100000 in
theorem m_M_given (l : Launch) (D : va_G) (cI cL cZ : ClassId) (md : Nat → Nat) (co : Int) (n : Nat) (sh ra up lw kn fo : Int) (sc ln cb th pl lo pr la : Nat → Int) (cu cl fu fl : Nat → Nat) (ys yl yp : Nat → Int) (k : Nat) (hk : k < 6) (hM : eh_MS n sh ra sc ln cb th pl lo pr la cu cl fu fl ys yl yp) : eh_M (S := Int × Int) l y_M_given k_M_given 4 114 D classes [(cI, .int), (cL, .long), (cZ, .boolean)] [.ref (md 0), .int (eI ((k : Nat) : Int))] [((md 0), .inr (5, [.int (eI co), .int (eI ((n : Nat) : Int)), .ref (md 1), .ref (md 2), .ref (md 3), .int (eI sh), .int (eI ra), .ref (md 4), .ref (md 5), .ref (md 6), .ref (md 7), .ref (md 8), .long (eL up), .long (eL lw), .ref (md 9), .ref (md 10), .ref (md 11), .ref (md 12), .ref (md 13), .ref (md 14), .ref (md 15), .int (eI kn), .int (eI fo)])), ((md 1), aI cI 25 sc), ((md 2), aI cI 4 ln), ((md 3), aI cZ 4 cb), ((md 4), aI cZ 3 th), ((md 5), aI cI 3 pl), ((md 6), aI cI 3 lo), ((md 7), aI cI 3 pr), ((md 8), aI cI 30 la)] (fun _ => True) (fun _ => some (.int (eI (eh_gv n sh ln cu cl yl k)))) (fun u => [((md 0), .inr (5, [.int (eI co), .int (eI ((n : Nat) : Int)), .ref (md 1), .ref (md 2), .ref (md 3), .int (eI sh), .int (eI ra), .ref (md 4), .ref (md 5), .ref (md 6), .ref (md 7), .ref (md 8), .long (eL u.1), .long (eL u.2), .ref (md 9), .ref (md 10), .ref (md 11), .ref (md 12), .ref (md 13), .ref (md 14), .ref (md 15), .int (eI kn), .int (eI fo)])), ((md 1), aI cI 25 sc), ((md 2), aI cI 4 ln), ((md 3), aI cZ 4 cb), ((md 4), aI cZ 3 th), ((md 5), aI cI 3 pl), ((md 6), aI cI 3 lo), ((md 7), aI cI 3 pr), ((md 8), aI cI 30 la)]) := by
  intro sz
  refine Met.ofW (cc := c_M_given) (maxL := 2) (ret := (some .int)) (by decide) rfl ?_
  intro p e s m args below meth c s₁ B hml hv
  obtain ⟨hargs, hsz, hP, hK, hD0, hN⟩ := hv
  have hx := B.exec
  have hb := B.bytes
  have hrt := B.returns
  have hts := atoms_spec (ws := k_M_given :: ew_t) B.pre
  have htb : ∀ w ∈ ew_t, w.before args s = true := fun w h => hts w (List.mem_cons_of_mem _ h)
  have hown : s.vm.findClass "EarthHaulsModel" = some m.cls := findClass_of_methodNamed B.named
  have hlocks := B.notSynchronized
  have hE : entryFrame m args 2 = entryFrame m ([.ref (md 0), .int (eI ((k : Nat) : Int))] : List Value).toArray 2 := by rw [hargs]
  rw [hE]
  clear hE hts B hargs
  generalize hRe : (headSpec _ _).room = R
  have hR1 : R.frames = 4 := by rw [← hRe]; rfl
  have hR2 : R.locals = 114 := by rw [← hRe]; rfl
  clear hRe
  generalize hQ : MQ below _ _ s 0 0 _ = Q
  subst hsz
  have hD := hD0.self (sz := s.heap.size)
  generalize hAe : va_A [((md 0), .inr (5, [.int (eI co), .int (eI ((n : Nat) : Int)), .ref (md 1), .ref (md 2), .ref (md 3), .int (eI sh), .int (eI ra), .ref (md 4), .ref (md 5), .ref (md 6), .ref (md 7), .ref (md 8), .long (eL up), .long (eL lw), .ref (md 9), .ref (md 10), .ref (md 11), .ref (md 12), .ref (md 13), .ref (md 14), .ref (md 15), .int (eI kn), .int (eI fo)])), ((md 1), aI cI 25 sc), ((md 2), aI cI 4 ln), ((md 3), aI cZ 4 cb), ((md 4), aI cZ 3 th), ((md 5), aI cI 3 pl), ((md 6), aI cI 3 lo), ((md 7), aI cI 3 pr), ((md 8), aI cI 30 la)] s.heap.size = A at hD hQ
  have hA : ∀ q : Nat, s.heap.size ≤ q → A q := fun q h => by rw [← hAe]; exact Or.inr h
  have hS : va_S A s.heap s.heap [] := va_S.rf
  have hP : va_P D classes [((md 0), .inr (5, [.int (eI co), .int (eI ((n : Nat) : Int)), .ref (md 1), .ref (md 2), .ref (md 3), .int (eI sh), .int (eI ra), .ref (md 4), .ref (md 5), .ref (md 6), .ref (md 7), .ref (md 8), .long (eL up), .long (eL lw), .ref (md 9), .ref (md 10), .ref (md 11), .ref (md 12), .ref (md 13), .ref (md 14), .ref (md 15), .int (eI kn), .int (eI fo)])), ((md 1), aI cI 25 sc), ((md 2), aI cI 4 ln), ((md 3), aI cZ 4 cb), ((md 4), aI cZ 3 th), ((md 5), aI cI 3 pl), ((md 6), aI cI 3 lo), ((md 7), aI cI 3 pr), ((md 8), aI cI 30 la)] s.heap := hP
  have hl := lv_entry ([.ref (md 0), .int (eI ((k : Nat) : Int))]) (n := 2) (Nat.le_of_ble_eq_true rfl)
  rw [lg_entry_eq]
  generalize (lg_sl ([.ref (md 0), .int (eI ((k : Nat) : Int))]) ++ List.replicate (2 - (lg_sl ([.ref (md 0), .int (eI ((k : Nat) : Int))])).length) Slot.unset).toArray = ls at hl ⊢
  have hl : lv_has ls 2 [(0, .ref (md 0)), (1, .int (eI ((k : Nat) : Int)))] := hl
  have hn5 := hM.1.1
  rcases (show k = 0 ∨ k = 1 ∨ k = 2 ∨ k = 3 ∨ k = 4 ∨ k = 5 by omega) with rfl | rfl | rfl | rfl | rfl | rfl
  ·
    have hl : lv_has ls 2 [(0, .ref (md 0)), (1, .int (eI ((0 : Nat) : Int)))] := hl
    refine lv_iload_n hx hb d_M_given_0 rfl (lv_at hl 1 rfl) ?_
    refine lv_iconst (v := eI 4) hx hb d_M_given_1 rfl ?_
    refine we_icmp_ge (tgt := 25) hx hb (by constructor <;> omega) (by constructor <;> omega) d_M_given_2 rfl (fun hc2 => absurd hc2 (by omega)) (fun hc2 => ?_)
    refine lv_aload_n hx hb d_M_given_5 rfl (lv_at hl 0 rfl) ?_
    refine lv_iload_n hx hb d_M_given_6 rfl (lv_at hl 1 rfl) ?_
    refine eh_cRV (As := [.int (eI ((0 : Nat) : Int))]) (rest := []) (v := .int (eI (if ((0 : Nat) : Int) < 0 ∨ (n : Int) ≤ ((0 : Nat) : Int) + 1 then 1 else 0))) (q := (R_M, T_M, 23)) hx hb hml hown htb hN (r_M_noSpan l D cI cL cZ md co n sh ra up lw kn fo sc ln cb th pl lo pr la cu cl fu fl ys yl yp ((0 : Nat) : Int) (by omega) hM) 1 ⟨tb_681, tb_683, ts_29, tb_7, kin_M_noSpan⟩ dv_M_noSpan ⟨by rw [hR1]; decide, by rw [hR2]; decide⟩ hK hP 0 rfl rfl [0, 1, 2, 3, 4, 5, 6, 7, 8] rfl [0, 1, 2] rfl rfl rfl hl.1 (Nat.le_of_ble_eq_true rfl) d_M_given_7 ⟨Nat.zero_le _, Nat.zero_le _⟩ ?_
    refine we_if_eq (tgt := 17) hx hb (by constructor <;> split <;> omega) d_M_given_10 rfl (fun hc10 => ?_) (fun hc10 => ?_)
    ·
      refine lv_aload_n hx hb d_M_given_17 rfl (lv_at hl 0 rfl) ?_
      refine lv_iload_n hx hb d_M_given_18 rfl (lv_at hl 1 rfl) ?_
      refine eh_cMV (As := [.int (eI ((0 : Nat) : Int))]) (rest := []) (q := (R_M, T_M, 23)) (wr := []) hx hb hml hown htb hN (m_M_placedAt l D cI cL cZ md co n sh ra up lw kn fo sc ln cb th pl lo pr la cu cl fu fl ys yl yp 0 (by split at hc10 <;> omega) hM) 1 ⟨tb_711, tb_713, ts_31, tb_7, kin_M_placedAt⟩ dv_M_placedAt ⟨by rw [hR1]; decide, by rw [hR2]; decide⟩ hK hP hD hS hA 0 rfl rfl [0, 1, 2, 3, 4, 5, 6, 7, 8] [] rfl rfl (by decide) rfl (by decide) (by decide) [0, 1, 2] rfl rfl rfl hl.1 (Nat.le_of_ble_eq_true rfl) d_M_given_19 ⟨Nat.zero_le _, Nat.zero_le _⟩ (fun u H locs hu hP hD hS => ?_)
      obtain ⟨up4, lw4⟩ := u
      have hP := hP.sub (ws' := [((md 0), .inr (5, [.int (eI co), .int (eI ((n : Nat) : Int)), .ref (md 1), .ref (md 2), .ref (md 3), .int (eI sh), .int (eI ra), .ref (md 4), .ref (md 5), .ref (md 6), .ref (md 7), .ref (md 8), .long (eL up4), .long (eL lw4), .ref (md 9), .ref (md 10), .ref (md 11), .ref (md 12), .ref (md 13), .ref (md 14), .ref (md 15), .int (eI kn), .int (eI fo)])), ((md 1), aI cI 25 sc), ((md 2), aI cI 4 ln), ((md 3), aI cZ 4 cb), ((md 4), aI cZ 3 th), ((md 5), aI cI 3 pl), ((md 6), aI cI 3 lo), ((md 7), aI cI 3 pr), ((md 8), aI cI 30 la)]) [0, 1, 2, 3, 4, 5, 6, 7, 8] rfl
      have hD := hD.sub (ws' := [((md 0), .inr (5, [.int (eI co), .int (eI ((n : Nat) : Int)), .ref (md 1), .ref (md 2), .ref (md 3), .int (eI sh), .int (eI ra), .ref (md 4), .ref (md 5), .ref (md 6), .ref (md 7), .ref (md 8), .long (eL up4), .long (eL lw4), .ref (md 9), .ref (md 10), .ref (md 11), .ref (md 12), .ref (md 13), .ref (md 14), .ref (md 15), .int (eI kn), .int (eI fo)])), ((md 1), aI cI 25 sc), ((md 2), aI cI 4 ln), ((md 3), aI cZ 4 cb), ((md 4), aI cZ 3 th), ((md 5), aI cI 3 pl), ((md 6), aI cI 3 lo), ((md 7), aI cI 3 pr), ((md 8), aI cI 30 la)]) [0, 1, 2, 3, 4, 5, 6, 7, 8] (by decide) rfl
      refine lv_goto (tgt := 48) hx hb d_M_given_22 rfl ?_
      have hres : (eh_plc cu cl ln sh 0) = (eh_gv n sh ln cu cl yl 0) := by
        unfold eh_gv
        rw [if_pos (by omega)]
        rw [if_pos (by split at hc10 <;> omega)]
      rw [hres]
      subst hQ
      exact W.iret hx hb hrt (fun t9 ht hW => ⟨⟨(up4, lw4), rfl, trivial, by rw [ht]; exact hP, hD⟩, hS.F ht⟩) hS.2.2 d_M_given_48
    ·
      refine lv_iconst (v := eI 0) hx hb d_M_given_13 rfl ?_
      refine lv_goto (tgt := 48) hx hb d_M_given_14 rfl ?_
      have hres : 0 = (eh_gv n sh ln cu cl yl 0) := by
        unfold eh_gv
        rw [if_pos (by omega)]
        rw [if_neg (by split at hc10 <;> omega)]
      rw [hres]
      subst hQ
      exact W.iret hx hb hrt (fun t9 ht hW => ⟨⟨(up, lw), rfl, trivial, by rw [ht]; exact hP, hD⟩, hS.F ht⟩) hS.2.2 d_M_given_48
  ·
    have hl : lv_has ls 2 [(0, .ref (md 0)), (1, .int (eI ((1 : Nat) : Int)))] := hl
    refine lv_iload_n hx hb d_M_given_0 rfl (lv_at hl 1 rfl) ?_
    refine lv_iconst (v := eI 4) hx hb d_M_given_1 rfl ?_
    refine we_icmp_ge (tgt := 25) hx hb (by constructor <;> omega) (by constructor <;> omega) d_M_given_2 rfl (fun hc2 => absurd hc2 (by omega)) (fun hc2 => ?_)
    refine lv_aload_n hx hb d_M_given_5 rfl (lv_at hl 0 rfl) ?_
    refine lv_iload_n hx hb d_M_given_6 rfl (lv_at hl 1 rfl) ?_
    refine eh_cRV (As := [.int (eI ((1 : Nat) : Int))]) (rest := []) (v := .int (eI (if ((1 : Nat) : Int) < 0 ∨ (n : Int) ≤ ((1 : Nat) : Int) + 1 then 1 else 0))) (q := (R_M, T_M, 23)) hx hb hml hown htb hN (r_M_noSpan l D cI cL cZ md co n sh ra up lw kn fo sc ln cb th pl lo pr la cu cl fu fl ys yl yp ((1 : Nat) : Int) (by omega) hM) 1 ⟨tb_681, tb_683, ts_29, tb_7, kin_M_noSpan⟩ dv_M_noSpan ⟨by rw [hR1]; decide, by rw [hR2]; decide⟩ hK hP 0 rfl rfl [0, 1, 2, 3, 4, 5, 6, 7, 8] rfl [0, 1, 2] rfl rfl rfl hl.1 (Nat.le_of_ble_eq_true rfl) d_M_given_7 ⟨Nat.zero_le _, Nat.zero_le _⟩ ?_
    refine we_if_eq (tgt := 17) hx hb (by constructor <;> split <;> omega) d_M_given_10 rfl (fun hc10 => ?_) (fun hc10 => ?_)
    ·
      refine lv_aload_n hx hb d_M_given_17 rfl (lv_at hl 0 rfl) ?_
      refine lv_iload_n hx hb d_M_given_18 rfl (lv_at hl 1 rfl) ?_
      refine eh_cMV (As := [.int (eI ((1 : Nat) : Int))]) (rest := []) (q := (R_M, T_M, 23)) (wr := []) hx hb hml hown htb hN (m_M_placedAt l D cI cL cZ md co n sh ra up lw kn fo sc ln cb th pl lo pr la cu cl fu fl ys yl yp 1 (by split at hc10 <;> omega) hM) 1 ⟨tb_711, tb_713, ts_31, tb_7, kin_M_placedAt⟩ dv_M_placedAt ⟨by rw [hR1]; decide, by rw [hR2]; decide⟩ hK hP hD hS hA 0 rfl rfl [0, 1, 2, 3, 4, 5, 6, 7, 8] [] rfl rfl (by decide) rfl (by decide) (by decide) [0, 1, 2] rfl rfl rfl hl.1 (Nat.le_of_ble_eq_true rfl) d_M_given_19 ⟨Nat.zero_le _, Nat.zero_le _⟩ (fun u H locs hu hP hD hS => ?_)
      obtain ⟨up5, lw5⟩ := u
      have hP := hP.sub (ws' := [((md 0), .inr (5, [.int (eI co), .int (eI ((n : Nat) : Int)), .ref (md 1), .ref (md 2), .ref (md 3), .int (eI sh), .int (eI ra), .ref (md 4), .ref (md 5), .ref (md 6), .ref (md 7), .ref (md 8), .long (eL up5), .long (eL lw5), .ref (md 9), .ref (md 10), .ref (md 11), .ref (md 12), .ref (md 13), .ref (md 14), .ref (md 15), .int (eI kn), .int (eI fo)])), ((md 1), aI cI 25 sc), ((md 2), aI cI 4 ln), ((md 3), aI cZ 4 cb), ((md 4), aI cZ 3 th), ((md 5), aI cI 3 pl), ((md 6), aI cI 3 lo), ((md 7), aI cI 3 pr), ((md 8), aI cI 30 la)]) [0, 1, 2, 3, 4, 5, 6, 7, 8] rfl
      have hD := hD.sub (ws' := [((md 0), .inr (5, [.int (eI co), .int (eI ((n : Nat) : Int)), .ref (md 1), .ref (md 2), .ref (md 3), .int (eI sh), .int (eI ra), .ref (md 4), .ref (md 5), .ref (md 6), .ref (md 7), .ref (md 8), .long (eL up5), .long (eL lw5), .ref (md 9), .ref (md 10), .ref (md 11), .ref (md 12), .ref (md 13), .ref (md 14), .ref (md 15), .int (eI kn), .int (eI fo)])), ((md 1), aI cI 25 sc), ((md 2), aI cI 4 ln), ((md 3), aI cZ 4 cb), ((md 4), aI cZ 3 th), ((md 5), aI cI 3 pl), ((md 6), aI cI 3 lo), ((md 7), aI cI 3 pr), ((md 8), aI cI 30 la)]) [0, 1, 2, 3, 4, 5, 6, 7, 8] (by decide) rfl
      refine lv_goto (tgt := 48) hx hb d_M_given_22 rfl ?_
      have hres : (eh_plc cu cl ln sh 1) = (eh_gv n sh ln cu cl yl 1) := by
        unfold eh_gv
        rw [if_pos (by omega)]
        rw [if_pos (by split at hc10 <;> omega)]
      rw [hres]
      subst hQ
      exact W.iret hx hb hrt (fun t9 ht hW => ⟨⟨(up5, lw5), rfl, trivial, by rw [ht]; exact hP, hD⟩, hS.F ht⟩) hS.2.2 d_M_given_48
    ·
      refine lv_iconst (v := eI 0) hx hb d_M_given_13 rfl ?_
      refine lv_goto (tgt := 48) hx hb d_M_given_14 rfl ?_
      have hres : 0 = (eh_gv n sh ln cu cl yl 1) := by
        unfold eh_gv
        rw [if_pos (by omega)]
        rw [if_neg (by split at hc10 <;> omega)]
      rw [hres]
      subst hQ
      exact W.iret hx hb hrt (fun t9 ht hW => ⟨⟨(up, lw), rfl, trivial, by rw [ht]; exact hP, hD⟩, hS.F ht⟩) hS.2.2 d_M_given_48
  ·
    have hl : lv_has ls 2 [(0, .ref (md 0)), (1, .int (eI ((2 : Nat) : Int)))] := hl
    refine lv_iload_n hx hb d_M_given_0 rfl (lv_at hl 1 rfl) ?_
    refine lv_iconst (v := eI 4) hx hb d_M_given_1 rfl ?_
    refine we_icmp_ge (tgt := 25) hx hb (by constructor <;> omega) (by constructor <;> omega) d_M_given_2 rfl (fun hc2 => absurd hc2 (by omega)) (fun hc2 => ?_)
    refine lv_aload_n hx hb d_M_given_5 rfl (lv_at hl 0 rfl) ?_
    refine lv_iload_n hx hb d_M_given_6 rfl (lv_at hl 1 rfl) ?_
    refine eh_cRV (As := [.int (eI ((2 : Nat) : Int))]) (rest := []) (v := .int (eI (if ((2 : Nat) : Int) < 0 ∨ (n : Int) ≤ ((2 : Nat) : Int) + 1 then 1 else 0))) (q := (R_M, T_M, 23)) hx hb hml hown htb hN (r_M_noSpan l D cI cL cZ md co n sh ra up lw kn fo sc ln cb th pl lo pr la cu cl fu fl ys yl yp ((2 : Nat) : Int) (by omega) hM) 1 ⟨tb_681, tb_683, ts_29, tb_7, kin_M_noSpan⟩ dv_M_noSpan ⟨by rw [hR1]; decide, by rw [hR2]; decide⟩ hK hP 0 rfl rfl [0, 1, 2, 3, 4, 5, 6, 7, 8] rfl [0, 1, 2] rfl rfl rfl hl.1 (Nat.le_of_ble_eq_true rfl) d_M_given_7 ⟨Nat.zero_le _, Nat.zero_le _⟩ ?_
    refine we_if_eq (tgt := 17) hx hb (by constructor <;> split <;> omega) d_M_given_10 rfl (fun hc10 => ?_) (fun hc10 => ?_)
    ·
      refine lv_aload_n hx hb d_M_given_17 rfl (lv_at hl 0 rfl) ?_
      refine lv_iload_n hx hb d_M_given_18 rfl (lv_at hl 1 rfl) ?_
      refine eh_cMV (As := [.int (eI ((2 : Nat) : Int))]) (rest := []) (q := (R_M, T_M, 23)) (wr := []) hx hb hml hown htb hN (m_M_placedAt l D cI cL cZ md co n sh ra up lw kn fo sc ln cb th pl lo pr la cu cl fu fl ys yl yp 2 (by split at hc10 <;> omega) hM) 1 ⟨tb_711, tb_713, ts_31, tb_7, kin_M_placedAt⟩ dv_M_placedAt ⟨by rw [hR1]; decide, by rw [hR2]; decide⟩ hK hP hD hS hA 0 rfl rfl [0, 1, 2, 3, 4, 5, 6, 7, 8] [] rfl rfl (by decide) rfl (by decide) (by decide) [0, 1, 2] rfl rfl rfl hl.1 (Nat.le_of_ble_eq_true rfl) d_M_given_19 ⟨Nat.zero_le _, Nat.zero_le _⟩ (fun u H locs hu hP hD hS => ?_)
      obtain ⟨up6, lw6⟩ := u
      have hP := hP.sub (ws' := [((md 0), .inr (5, [.int (eI co), .int (eI ((n : Nat) : Int)), .ref (md 1), .ref (md 2), .ref (md 3), .int (eI sh), .int (eI ra), .ref (md 4), .ref (md 5), .ref (md 6), .ref (md 7), .ref (md 8), .long (eL up6), .long (eL lw6), .ref (md 9), .ref (md 10), .ref (md 11), .ref (md 12), .ref (md 13), .ref (md 14), .ref (md 15), .int (eI kn), .int (eI fo)])), ((md 1), aI cI 25 sc), ((md 2), aI cI 4 ln), ((md 3), aI cZ 4 cb), ((md 4), aI cZ 3 th), ((md 5), aI cI 3 pl), ((md 6), aI cI 3 lo), ((md 7), aI cI 3 pr), ((md 8), aI cI 30 la)]) [0, 1, 2, 3, 4, 5, 6, 7, 8] rfl
      have hD := hD.sub (ws' := [((md 0), .inr (5, [.int (eI co), .int (eI ((n : Nat) : Int)), .ref (md 1), .ref (md 2), .ref (md 3), .int (eI sh), .int (eI ra), .ref (md 4), .ref (md 5), .ref (md 6), .ref (md 7), .ref (md 8), .long (eL up6), .long (eL lw6), .ref (md 9), .ref (md 10), .ref (md 11), .ref (md 12), .ref (md 13), .ref (md 14), .ref (md 15), .int (eI kn), .int (eI fo)])), ((md 1), aI cI 25 sc), ((md 2), aI cI 4 ln), ((md 3), aI cZ 4 cb), ((md 4), aI cZ 3 th), ((md 5), aI cI 3 pl), ((md 6), aI cI 3 lo), ((md 7), aI cI 3 pr), ((md 8), aI cI 30 la)]) [0, 1, 2, 3, 4, 5, 6, 7, 8] (by decide) rfl
      refine lv_goto (tgt := 48) hx hb d_M_given_22 rfl ?_
      have hres : (eh_plc cu cl ln sh 2) = (eh_gv n sh ln cu cl yl 2) := by
        unfold eh_gv
        rw [if_pos (by omega)]
        rw [if_pos (by split at hc10 <;> omega)]
      rw [hres]
      subst hQ
      exact W.iret hx hb hrt (fun t9 ht hW => ⟨⟨(up6, lw6), rfl, trivial, by rw [ht]; exact hP, hD⟩, hS.F ht⟩) hS.2.2 d_M_given_48
    ·
      refine lv_iconst (v := eI 0) hx hb d_M_given_13 rfl ?_
      refine lv_goto (tgt := 48) hx hb d_M_given_14 rfl ?_
      have hres : 0 = (eh_gv n sh ln cu cl yl 2) := by
        unfold eh_gv
        rw [if_pos (by omega)]
        rw [if_neg (by split at hc10 <;> omega)]
      rw [hres]
      subst hQ
      exact W.iret hx hb hrt (fun t9 ht hW => ⟨⟨(up, lw), rfl, trivial, by rw [ht]; exact hP, hD⟩, hS.F ht⟩) hS.2.2 d_M_given_48
  ·
    have hl : lv_has ls 2 [(0, .ref (md 0)), (1, .int (eI ((3 : Nat) : Int)))] := hl
    refine lv_iload_n hx hb d_M_given_0 rfl (lv_at hl 1 rfl) ?_
    refine lv_iconst (v := eI 4) hx hb d_M_given_1 rfl ?_
    refine we_icmp_ge (tgt := 25) hx hb (by constructor <;> omega) (by constructor <;> omega) d_M_given_2 rfl (fun hc2 => absurd hc2 (by omega)) (fun hc2 => ?_)
    refine lv_aload_n hx hb d_M_given_5 rfl (lv_at hl 0 rfl) ?_
    refine lv_iload_n hx hb d_M_given_6 rfl (lv_at hl 1 rfl) ?_
    refine eh_cRV (As := [.int (eI ((3 : Nat) : Int))]) (rest := []) (v := .int (eI (if ((3 : Nat) : Int) < 0 ∨ (n : Int) ≤ ((3 : Nat) : Int) + 1 then 1 else 0))) (q := (R_M, T_M, 23)) hx hb hml hown htb hN (r_M_noSpan l D cI cL cZ md co n sh ra up lw kn fo sc ln cb th pl lo pr la cu cl fu fl ys yl yp ((3 : Nat) : Int) (by omega) hM) 1 ⟨tb_681, tb_683, ts_29, tb_7, kin_M_noSpan⟩ dv_M_noSpan ⟨by rw [hR1]; decide, by rw [hR2]; decide⟩ hK hP 0 rfl rfl [0, 1, 2, 3, 4, 5, 6, 7, 8] rfl [0, 1, 2] rfl rfl rfl hl.1 (Nat.le_of_ble_eq_true rfl) d_M_given_7 ⟨Nat.zero_le _, Nat.zero_le _⟩ ?_
    refine we_if_eq (tgt := 17) hx hb (by constructor <;> split <;> omega) d_M_given_10 rfl (fun hc10 => ?_) (fun hc10 => ?_)
    ·
      refine lv_aload_n hx hb d_M_given_17 rfl (lv_at hl 0 rfl) ?_
      refine lv_iload_n hx hb d_M_given_18 rfl (lv_at hl 1 rfl) ?_
      refine eh_cMV (As := [.int (eI ((3 : Nat) : Int))]) (rest := []) (q := (R_M, T_M, 23)) (wr := []) hx hb hml hown htb hN (m_M_placedAt l D cI cL cZ md co n sh ra up lw kn fo sc ln cb th pl lo pr la cu cl fu fl ys yl yp 3 (by split at hc10 <;> omega) hM) 1 ⟨tb_711, tb_713, ts_31, tb_7, kin_M_placedAt⟩ dv_M_placedAt ⟨by rw [hR1]; decide, by rw [hR2]; decide⟩ hK hP hD hS hA 0 rfl rfl [0, 1, 2, 3, 4, 5, 6, 7, 8] [] rfl rfl (by decide) rfl (by decide) (by decide) [0, 1, 2] rfl rfl rfl hl.1 (Nat.le_of_ble_eq_true rfl) d_M_given_19 ⟨Nat.zero_le _, Nat.zero_le _⟩ (fun u H locs hu hP hD hS => ?_)
      obtain ⟨up7, lw7⟩ := u
      have hP := hP.sub (ws' := [((md 0), .inr (5, [.int (eI co), .int (eI ((n : Nat) : Int)), .ref (md 1), .ref (md 2), .ref (md 3), .int (eI sh), .int (eI ra), .ref (md 4), .ref (md 5), .ref (md 6), .ref (md 7), .ref (md 8), .long (eL up7), .long (eL lw7), .ref (md 9), .ref (md 10), .ref (md 11), .ref (md 12), .ref (md 13), .ref (md 14), .ref (md 15), .int (eI kn), .int (eI fo)])), ((md 1), aI cI 25 sc), ((md 2), aI cI 4 ln), ((md 3), aI cZ 4 cb), ((md 4), aI cZ 3 th), ((md 5), aI cI 3 pl), ((md 6), aI cI 3 lo), ((md 7), aI cI 3 pr), ((md 8), aI cI 30 la)]) [0, 1, 2, 3, 4, 5, 6, 7, 8] rfl
      have hD := hD.sub (ws' := [((md 0), .inr (5, [.int (eI co), .int (eI ((n : Nat) : Int)), .ref (md 1), .ref (md 2), .ref (md 3), .int (eI sh), .int (eI ra), .ref (md 4), .ref (md 5), .ref (md 6), .ref (md 7), .ref (md 8), .long (eL up7), .long (eL lw7), .ref (md 9), .ref (md 10), .ref (md 11), .ref (md 12), .ref (md 13), .ref (md 14), .ref (md 15), .int (eI kn), .int (eI fo)])), ((md 1), aI cI 25 sc), ((md 2), aI cI 4 ln), ((md 3), aI cZ 4 cb), ((md 4), aI cZ 3 th), ((md 5), aI cI 3 pl), ((md 6), aI cI 3 lo), ((md 7), aI cI 3 pr), ((md 8), aI cI 30 la)]) [0, 1, 2, 3, 4, 5, 6, 7, 8] (by decide) rfl
      refine lv_goto (tgt := 48) hx hb d_M_given_22 rfl ?_
      have hres : (eh_plc cu cl ln sh 3) = (eh_gv n sh ln cu cl yl 3) := by
        unfold eh_gv
        rw [if_pos (by omega)]
        rw [if_pos (by split at hc10 <;> omega)]
      rw [hres]
      subst hQ
      exact W.iret hx hb hrt (fun t9 ht hW => ⟨⟨(up7, lw7), rfl, trivial, by rw [ht]; exact hP, hD⟩, hS.F ht⟩) hS.2.2 d_M_given_48
    ·
      refine lv_iconst (v := eI 0) hx hb d_M_given_13 rfl ?_
      refine lv_goto (tgt := 48) hx hb d_M_given_14 rfl ?_
      have hres : 0 = (eh_gv n sh ln cu cl yl 3) := by
        unfold eh_gv
        rw [if_pos (by omega)]
        rw [if_neg (by split at hc10 <;> omega)]
      rw [hres]
      subst hQ
      exact W.iret hx hb hrt (fun t9 ht hW => ⟨⟨(up, lw), rfl, trivial, by rw [ht]; exact hP, hD⟩, hS.F ht⟩) hS.2.2 d_M_given_48
  ·
    have hl : lv_has ls 2 [(0, .ref (md 0)), (1, .int (eI ((4 : Nat) : Int)))] := hl
    have hy := hM.2.1 0 (by omega)
    refine lv_iload_n hx hb d_M_given_0 rfl (lv_at hl 1 rfl) ?_
    refine lv_iconst (v := eI 4) hx hb d_M_given_1 rfl ?_
    refine we_icmp_ge (tgt := 25) hx hb (by constructor <;> omega) (by constructor <;> omega) d_M_given_2 rfl (fun hc2 => ?_) (fun hc2 => absurd hc2 (by omega))
    refine lv_aload_n hx hb d_M_given_25 rfl (lv_at hl 0 rfl) ?_
    refine va_get (D := D) (ci := 5) (v := .ref (md 4)) (C := R_M) (T := T_M) (N := 23) hx hb htb in_M hown hK hP 0 rfl rfl 7 (by decide) (htb _ tb_595) (fun _ h9 => h9) rfl d_M_given_26 ?_
    refine lv_iload_n hx hb d_M_given_29 rfl (lv_at hl 1 rfl) ?_
    refine lv_iconst (v := eI 4) hx hb d_M_given_30 rfl ?_
    refine we_isub hx hb d_M_given_31 ?_
    refine we_zald hx hb hK hP 4 2 rfl rfl 0 rfl (by decide) (by decide) d_M_given_32 ?_
    refine we_if_eq (tgt := 47) hx hb (by constructor <;> omega) d_M_given_33 rfl (fun hc33 => ?_) (fun hc33 => ?_)
    ·
      refine lv_iconst (v := eI 0) hx hb d_M_given_47 rfl ?_
      have hres : 0 = (eh_gv n sh ln cu cl yl 4) := by
        show _ = yl 0
        omega
      rw [hres]
      subst hQ
      exact W.iret hx hb hrt (fun t9 ht hW => ⟨⟨(up, lw), rfl, trivial, by rw [ht]; exact hP, hD⟩, hS.F ht⟩) hS.2.2 d_M_given_48
    ·
      refine lv_aload_n hx hb d_M_given_36 rfl (lv_at hl 0 rfl) ?_
      refine va_get (D := D) (ci := 5) (v := .ref (md 6)) (C := R_M) (T := T_M) (N := 23) hx hb htb in_M hown hK hP 0 rfl rfl 9 (by decide) (htb _ tb_597) (fun _ h9 => h9) rfl d_M_given_37 ?_
      refine lv_iload_n hx hb d_M_given_40 rfl (lv_at hl 1 rfl) ?_
      refine lv_iconst (v := eI 4) hx hb d_M_given_41 rfl ?_
      refine we_isub hx hb d_M_given_42 ?_
      refine we_iald hx hb hK hP 6 0 rfl rfl 0 rfl (by decide) (by decide) d_M_given_43 ?_
      refine lv_goto (tgt := 48) hx hb d_M_given_44 rfl ?_
      have hres : (lo 0) = (eh_gv n sh ln cu cl yl 4) := by
        show _ = yl 0
        omega
      rw [hres]
      subst hQ
      exact W.iret hx hb hrt (fun t9 ht hW => ⟨⟨(up, lw), rfl, trivial, by rw [ht]; exact hP, hD⟩, hS.F ht⟩) hS.2.2 d_M_given_48
  ·
    have hl : lv_has ls 2 [(0, .ref (md 0)), (1, .int (eI ((5 : Nat) : Int)))] := hl
    have hy := hM.2.1 1 (by omega)
    refine lv_iload_n hx hb d_M_given_0 rfl (lv_at hl 1 rfl) ?_
    refine lv_iconst (v := eI 4) hx hb d_M_given_1 rfl ?_
    refine we_icmp_ge (tgt := 25) hx hb (by constructor <;> omega) (by constructor <;> omega) d_M_given_2 rfl (fun hc2 => ?_) (fun hc2 => absurd hc2 (by omega))
    refine lv_aload_n hx hb d_M_given_25 rfl (lv_at hl 0 rfl) ?_
    refine va_get (D := D) (ci := 5) (v := .ref (md 4)) (C := R_M) (T := T_M) (N := 23) hx hb htb in_M hown hK hP 0 rfl rfl 7 (by decide) (htb _ tb_595) (fun _ h9 => h9) rfl d_M_given_26 ?_
    refine lv_iload_n hx hb d_M_given_29 rfl (lv_at hl 1 rfl) ?_
    refine lv_iconst (v := eI 4) hx hb d_M_given_30 rfl ?_
    refine we_isub hx hb d_M_given_31 ?_
    refine we_zald hx hb hK hP 4 2 rfl rfl 1 rfl (by decide) (by decide) d_M_given_32 ?_
    refine we_if_eq (tgt := 47) hx hb (by constructor <;> omega) d_M_given_33 rfl (fun hc33 => ?_) (fun hc33 => ?_)
    ·
      refine lv_iconst (v := eI 0) hx hb d_M_given_47 rfl ?_
      have hres : 0 = (eh_gv n sh ln cu cl yl 5) := by
        show _ = yl 1
        omega
      rw [hres]
      subst hQ
      exact W.iret hx hb hrt (fun t9 ht hW => ⟨⟨(up, lw), rfl, trivial, by rw [ht]; exact hP, hD⟩, hS.F ht⟩) hS.2.2 d_M_given_48
    ·
      refine lv_aload_n hx hb d_M_given_36 rfl (lv_at hl 0 rfl) ?_
      refine va_get (D := D) (ci := 5) (v := .ref (md 6)) (C := R_M) (T := T_M) (N := 23) hx hb htb in_M hown hK hP 0 rfl rfl 9 (by decide) (htb _ tb_597) (fun _ h9 => h9) rfl d_M_given_37 ?_
      refine lv_iload_n hx hb d_M_given_40 rfl (lv_at hl 1 rfl) ?_
      refine lv_iconst (v := eI 4) hx hb d_M_given_41 rfl ?_
      refine we_isub hx hb d_M_given_42 ?_
      refine we_iald hx hb hK hP 6 0 rfl rfl 1 rfl (by decide) (by decide) d_M_given_43 ?_
      refine lv_goto (tgt := 48) hx hb d_M_given_44 rfl ?_
      have hres : (lo 1) = (eh_gv n sh ln cu cl yl 5) := by
        show _ = yl 1
        omega
      rw [hres]
      subst hQ
      exact W.iret hx hb hrt (fun t9 ht hW => ⟨⟨(up, lw), rfl, trivial, by rw [ht]; exact hP, hD⟩, hS.F ht⟩) hS.2.2 d_M_given_48
abbrev c_M_wanted : ByteArray := prog_7_method_24_code
def y_M_wanted : MethodName := ⟨"EarthHaulsModel", "wanted", "(I)I"⟩
abbrev k_M_wanted : Cond := .code y_M_wanted c_M_wanted 2 (some .int)
theorem kin_M_wanted : k_M_wanted ∈ ew_t := tb_776
theorem dv_M_wanted : eh_dV y_M_wanted "EarthHaulsModel" 1 := ⟨rfl, by decide, by decide, by decide +kernel⟩
theorem d_M_wanted_0 : decode c_M_wanted 0 = .ok (.iload_n 1, 1) := by decide +kernel
theorem d_M_wanted_1 : decode c_M_wanted 1 = .ok (.iconst 4, 1) := by decide +kernel
theorem d_M_wanted_2 : decode c_M_wanted 2 = .ok (.if_icmp .ge 24, 3) := by decide +kernel
theorem d_M_wanted_5 : decode c_M_wanted 5 = .ok (.aload_n 0, 1) := by decide +kernel
theorem d_M_wanted_6 : decode c_M_wanted 6 = .ok (.iload_n 1, 1) := by decide +kernel
theorem d_M_wanted_7 : decode c_M_wanted 7 = .ok (.invokevirtual 111, 3) := by decide +kernel
theorem d_M_wanted_10 : decode c_M_wanted 10 = .ok (.ifCond .eq 7, 3) := by decide +kernel
theorem d_M_wanted_13 : decode c_M_wanted 13 = .ok (.iconst 0, 1) := by decide +kernel
theorem d_M_wanted_14 : decode c_M_wanted 14 = .ok (.goto 31, 3) := by decide +kernel
theorem d_M_wanted_17 : decode c_M_wanted 17 = .ok (.aload_n 0, 1) := by decide +kernel
theorem d_M_wanted_18 : decode c_M_wanted 18 = .ok (.iload_n 1, 1) := by decide +kernel
theorem d_M_wanted_19 : decode c_M_wanted 19 = .ok (.iconst 0, 1) := by decide +kernel
theorem d_M_wanted_20 : decode c_M_wanted 20 = .ok (.invokevirtual 97, 3) := by decide +kernel
theorem d_M_wanted_23 : decode c_M_wanted 23 = .ok (.goto 22, 3) := by decide +kernel
theorem d_M_wanted_26 : decode c_M_wanted 26 = .ok (.aload_n 0, 1) := by decide +kernel
theorem d_M_wanted_27 : decode c_M_wanted 27 = .ok (.getfield 27, 3) := by decide +kernel
theorem d_M_wanted_30 : decode c_M_wanted 30 = .ok (.iconst 2, 1) := by decide +kernel
theorem d_M_wanted_31 : decode c_M_wanted 31 = .ok (.baload, 1) := by decide +kernel
theorem d_M_wanted_32 : decode c_M_wanted 32 = .ok (.ifCond .eq 12, 3) := by decide +kernel
theorem d_M_wanted_35 : decode c_M_wanted 35 = .ok (.aload_n 0, 1) := by decide +kernel
theorem d_M_wanted_36 : decode c_M_wanted 36 = .ok (.getfield 33, 3) := by decide +kernel
theorem d_M_wanted_39 : decode c_M_wanted 39 = .ok (.iconst 2, 1) := by decide +kernel
theorem d_M_wanted_40 : decode c_M_wanted 40 = .ok (.iaload, 1) := by decide +kernel
theorem d_M_wanted_41 : decode c_M_wanted 41 = .ok (.goto 4, 3) := by decide +kernel
theorem d_M_wanted_44 : decode c_M_wanted 44 = .ok (.iconst 0, 1) := by decide +kernel
theorem d_M_wanted_45 : decode c_M_wanted 45 = .ok (.ireturn, 1) := by decide +kernel
set_option maxHeartbeats 1000000 in
set_option maxRecDepth 100000 in
theorem m_M_wanted (l : Launch) (D : va_G) (cI cL cZ : ClassId) (md : Nat → Nat) (co : Int) (n : Nat) (sh ra up lw kn fo : Int) (sc ln cb th pl lo pr la : Nat → Int) (cu cl fu fl : Nat → Nat) (ys yl yp : Nat → Int) (k : Nat) (hk : k < 5) (hM : eh_MS n sh ra sc ln cb th pl lo pr la cu cl fu fl ys yl yp) : eh_M (S := Int × Int) l y_M_wanted k_M_wanted 4 114 D classes [(cI, .int), (cL, .long), (cZ, .boolean)] [.ref (md 0), .int (eI ((k : Nat) : Int))] [((md 0), .inr (5, [.int (eI co), .int (eI ((n : Nat) : Int)), .ref (md 1), .ref (md 2), .ref (md 3), .int (eI sh), .int (eI ra), .ref (md 4), .ref (md 5), .ref (md 6), .ref (md 7), .ref (md 8), .long (eL up), .long (eL lw), .ref (md 9), .ref (md 10), .ref (md 11), .ref (md 12), .ref (md 13), .ref (md 14), .ref (md 15), .int (eI kn), .int (eI fo)])), ((md 1), aI cI 25 sc), ((md 2), aI cI 4 ln), ((md 3), aI cZ 4 cb), ((md 4), aI cZ 3 th), ((md 5), aI cI 3 pl), ((md 6), aI cI 3 lo), ((md 7), aI cI 3 pr), ((md 8), aI cI 30 la)] (fun _ => True) (fun _ => some (.int (eI (eh_wn n ln fu fl yl k)))) (fun u => [((md 0), .inr (5, [.int (eI co), .int (eI ((n : Nat) : Int)), .ref (md 1), .ref (md 2), .ref (md 3), .int (eI sh), .int (eI ra), .ref (md 4), .ref (md 5), .ref (md 6), .ref (md 7), .ref (md 8), .long (eL u.1), .long (eL u.2), .ref (md 9), .ref (md 10), .ref (md 11), .ref (md 12), .ref (md 13), .ref (md 14), .ref (md 15), .int (eI kn), .int (eI fo)])), ((md 1), aI cI 25 sc), ((md 2), aI cI 4 ln), ((md 3), aI cZ 4 cb), ((md 4), aI cZ 3 th), ((md 5), aI cI 3 pl), ((md 6), aI cI 3 lo), ((md 7), aI cI 3 pr), ((md 8), aI cI 30 la)]) := by
  intro sz
  refine Met.ofW (cc := c_M_wanted) (maxL := 2) (ret := (some .int)) (by decide) rfl ?_
  intro p e s m args below meth c s₁ B hml hv
  obtain ⟨hargs, hsz, hP, hK, hD0, hN⟩ := hv
  have hx := B.exec
  have hb := B.bytes
  have hrt := B.returns
  have hts := atoms_spec (ws := k_M_wanted :: ew_t) B.pre
  have htb : ∀ w ∈ ew_t, w.before args s = true := fun w h => hts w (List.mem_cons_of_mem _ h)
  have hown : s.vm.findClass "EarthHaulsModel" = some m.cls := findClass_of_methodNamed B.named
  have hlocks := B.notSynchronized
  have hE : entryFrame m args 2 = entryFrame m ([.ref (md 0), .int (eI ((k : Nat) : Int))] : List Value).toArray 2 := by rw [hargs]
  rw [hE]
  clear hE hts B hargs
  generalize hRe : (headSpec _ _).room = R
  have hR1 : R.frames = 4 := by rw [← hRe]; rfl
  have hR2 : R.locals = 114 := by rw [← hRe]; rfl
  clear hRe
  generalize hQ : MQ below _ _ s 0 0 _ = Q
  subst hsz
  have hD := hD0.self (sz := s.heap.size)
  generalize hAe : va_A [((md 0), .inr (5, [.int (eI co), .int (eI ((n : Nat) : Int)), .ref (md 1), .ref (md 2), .ref (md 3), .int (eI sh), .int (eI ra), .ref (md 4), .ref (md 5), .ref (md 6), .ref (md 7), .ref (md 8), .long (eL up), .long (eL lw), .ref (md 9), .ref (md 10), .ref (md 11), .ref (md 12), .ref (md 13), .ref (md 14), .ref (md 15), .int (eI kn), .int (eI fo)])), ((md 1), aI cI 25 sc), ((md 2), aI cI 4 ln), ((md 3), aI cZ 4 cb), ((md 4), aI cZ 3 th), ((md 5), aI cI 3 pl), ((md 6), aI cI 3 lo), ((md 7), aI cI 3 pr), ((md 8), aI cI 30 la)] s.heap.size = A at hD hQ
  have hA : ∀ q : Nat, s.heap.size ≤ q → A q := fun q h => by rw [← hAe]; exact Or.inr h
  have hS : va_S A s.heap s.heap [] := va_S.rf
  have hP : va_P D classes [((md 0), .inr (5, [.int (eI co), .int (eI ((n : Nat) : Int)), .ref (md 1), .ref (md 2), .ref (md 3), .int (eI sh), .int (eI ra), .ref (md 4), .ref (md 5), .ref (md 6), .ref (md 7), .ref (md 8), .long (eL up), .long (eL lw), .ref (md 9), .ref (md 10), .ref (md 11), .ref (md 12), .ref (md 13), .ref (md 14), .ref (md 15), .int (eI kn), .int (eI fo)])), ((md 1), aI cI 25 sc), ((md 2), aI cI 4 ln), ((md 3), aI cZ 4 cb), ((md 4), aI cZ 3 th), ((md 5), aI cI 3 pl), ((md 6), aI cI 3 lo), ((md 7), aI cI 3 pr), ((md 8), aI cI 30 la)] s.heap := hP
  have hl := lv_entry ([.ref (md 0), .int (eI ((k : Nat) : Int))]) (n := 2) (Nat.le_of_ble_eq_true rfl)
  rw [lg_entry_eq]
  generalize (lg_sl ([.ref (md 0), .int (eI ((k : Nat) : Int))]) ++ List.replicate (2 - (lg_sl ([.ref (md 0), .int (eI ((k : Nat) : Int))])).length) Slot.unset).toArray = ls at hl ⊢
  have hl : lv_has ls 2 [(0, .ref (md 0)), (1, .int (eI ((k : Nat) : Int)))] := hl
  have hn5 := hM.1.1
  rcases (show k = 0 ∨ k = 1 ∨ k = 2 ∨ k = 3 ∨ k = 4 by omega) with rfl | rfl | rfl | rfl | rfl
  ·
    have hl : lv_has ls 2 [(0, .ref (md 0)), (1, .int (eI ((0 : Nat) : Int)))] := hl
    refine lv_iload_n hx hb d_M_wanted_0 rfl (lv_at hl 1 rfl) ?_
    refine lv_iconst (v := eI 4) hx hb d_M_wanted_1 rfl ?_
    refine we_icmp_ge (tgt := 26) hx hb (by constructor <;> omega) (by constructor <;> omega) d_M_wanted_2 rfl (fun hc2 => absurd hc2 (by omega)) (fun hc2 => ?_)
    refine lv_aload_n hx hb d_M_wanted_5 rfl (lv_at hl 0 rfl) ?_
    refine lv_iload_n hx hb d_M_wanted_6 rfl (lv_at hl 1 rfl) ?_
    refine eh_cRV (As := [.int (eI ((0 : Nat) : Int))]) (rest := []) (v := .int (eI (if ((0 : Nat) : Int) < 0 ∨ (n : Int) ≤ ((0 : Nat) : Int) + 1 then 1 else 0))) (q := (R_M, T_M, 23)) hx hb hml hown htb hN (r_M_noSpan l D cI cL cZ md co n sh ra up lw kn fo sc ln cb th pl lo pr la cu cl fu fl ys yl yp ((0 : Nat) : Int) (by omega) hM) 1 ⟨tb_681, tb_683, ts_29, tb_7, kin_M_noSpan⟩ dv_M_noSpan ⟨by rw [hR1]; decide, by rw [hR2]; decide⟩ hK hP 0 rfl rfl [0, 1, 2, 3, 4, 5, 6, 7, 8] rfl [0, 1, 2] rfl rfl rfl hl.1 (Nat.le_of_ble_eq_true rfl) d_M_wanted_7 ⟨Nat.zero_le _, Nat.zero_le _⟩ ?_
    refine we_if_eq (tgt := 17) hx hb (by constructor <;> split <;> omega) d_M_wanted_10 rfl (fun hc10 => ?_) (fun hc10 => ?_)
    ·
      refine lv_aload_n hx hb d_M_wanted_17 rfl (lv_at hl 0 rfl) ?_
      refine lv_iload_n hx hb d_M_wanted_18 rfl (lv_at hl 1 rfl) ?_
      refine lv_iconst (v := eI 0) hx hb d_M_wanted_19 rfl ?_
      refine eh_cMV (As := [.int (eI ((0 : Nat) : Int)), .int (eI 0)]) (rest := []) (q := (R_M, T_M, 23)) (wr := []) hx hb hml hown htb hN (m_M_litresAt_0 l D cI cL cZ md co n sh ra up lw kn fo sc ln cb th pl lo pr la cu cl fu fl ys yl yp 0 (by split at hc10 <;> omega) hM) 2 ⟨tb_715, tb_717, ts_32, tb_7, kin_M_litresAt⟩ dv_M_litresAt ⟨by rw [hR1]; decide, by rw [hR2]; decide⟩ hK hP hD hS hA 0 rfl rfl [0, 1, 2, 3, 4, 5, 6, 7, 8] [] rfl rfl (by decide) rfl (by decide) (by decide) [0, 1, 2] rfl rfl rfl hl.1 (Nat.le_of_ble_eq_true rfl) d_M_wanted_20 ⟨Nat.zero_le _, Nat.zero_le _⟩ (fun u H locs hu hP hD hS => ?_)
      have hP := hP.sub (ws' := [((md 0), .inr (5, [.int (eI co), .int (eI ((n : Nat) : Int)), .ref (md 1), .ref (md 2), .ref (md 3), .int (eI sh), .int (eI ra), .ref (md 4), .ref (md 5), .ref (md 6), .ref (md 7), .ref (md 8), .long (eL ((fu (0 + 1) : Nat) : Int)), .long (eL ((fl (0 + 1) : Nat) : Int)), .ref (md 9), .ref (md 10), .ref (md 11), .ref (md 12), .ref (md 13), .ref (md 14), .ref (md 15), .int (eI kn), .int (eI fo)])), ((md 1), aI cI 25 sc), ((md 2), aI cI 4 ln), ((md 3), aI cZ 4 cb), ((md 4), aI cZ 3 th), ((md 5), aI cI 3 pl), ((md 6), aI cI 3 lo), ((md 7), aI cI 3 pr), ((md 8), aI cI 30 la)]) [0, 1, 2, 3, 4, 5, 6, 7, 8] rfl
      have hD := hD.sub (ws' := [((md 0), .inr (5, [.int (eI co), .int (eI ((n : Nat) : Int)), .ref (md 1), .ref (md 2), .ref (md 3), .int (eI sh), .int (eI ra), .ref (md 4), .ref (md 5), .ref (md 6), .ref (md 7), .ref (md 8), .long (eL ((fu (0 + 1) : Nat) : Int)), .long (eL ((fl (0 + 1) : Nat) : Int)), .ref (md 9), .ref (md 10), .ref (md 11), .ref (md 12), .ref (md 13), .ref (md 14), .ref (md 15), .int (eI kn), .int (eI fo)])), ((md 1), aI cI 25 sc), ((md 2), aI cI 4 ln), ((md 3), aI cZ 4 cb), ((md 4), aI cZ 3 th), ((md 5), aI cI 3 pl), ((md 6), aI cI 3 lo), ((md 7), aI cI 3 pr), ((md 8), aI cI 30 la)]) [0, 1, 2, 3, 4, 5, 6, 7, 8] (by decide) rfl
      refine lv_goto (tgt := 45) hx hb d_M_wanted_23 rfl ?_
      have hres : (eh_kut fu fl ln 0) = (eh_wn n ln fu fl yl 0) := by
        unfold eh_wn
        rw [if_pos (by omega)]
        rw [if_pos (by split at hc10 <;> omega)]
      rw [hres]
      subst hQ
      exact W.iret hx hb hrt (fun t9 ht hW => ⟨⟨(((fu (0 + 1) : Nat) : Int), ((fl (0 + 1) : Nat) : Int)), rfl, trivial, by rw [ht]; exact hP, hD⟩, hS.F ht⟩) hS.2.2 d_M_wanted_45
    ·
      refine lv_iconst (v := eI 0) hx hb d_M_wanted_13 rfl ?_
      refine lv_goto (tgt := 45) hx hb d_M_wanted_14 rfl ?_
      have hres : 0 = (eh_wn n ln fu fl yl 0) := by
        unfold eh_wn
        rw [if_pos (by omega)]
        rw [if_neg (by split at hc10 <;> omega)]
      rw [hres]
      subst hQ
      exact W.iret hx hb hrt (fun t9 ht hW => ⟨⟨(up, lw), rfl, trivial, by rw [ht]; exact hP, hD⟩, hS.F ht⟩) hS.2.2 d_M_wanted_45
  ·
    have hl : lv_has ls 2 [(0, .ref (md 0)), (1, .int (eI ((1 : Nat) : Int)))] := hl
    refine lv_iload_n hx hb d_M_wanted_0 rfl (lv_at hl 1 rfl) ?_
    refine lv_iconst (v := eI 4) hx hb d_M_wanted_1 rfl ?_
    refine we_icmp_ge (tgt := 26) hx hb (by constructor <;> omega) (by constructor <;> omega) d_M_wanted_2 rfl (fun hc2 => absurd hc2 (by omega)) (fun hc2 => ?_)
    refine lv_aload_n hx hb d_M_wanted_5 rfl (lv_at hl 0 rfl) ?_
    refine lv_iload_n hx hb d_M_wanted_6 rfl (lv_at hl 1 rfl) ?_
    refine eh_cRV (As := [.int (eI ((1 : Nat) : Int))]) (rest := []) (v := .int (eI (if ((1 : Nat) : Int) < 0 ∨ (n : Int) ≤ ((1 : Nat) : Int) + 1 then 1 else 0))) (q := (R_M, T_M, 23)) hx hb hml hown htb hN (r_M_noSpan l D cI cL cZ md co n sh ra up lw kn fo sc ln cb th pl lo pr la cu cl fu fl ys yl yp ((1 : Nat) : Int) (by omega) hM) 1 ⟨tb_681, tb_683, ts_29, tb_7, kin_M_noSpan⟩ dv_M_noSpan ⟨by rw [hR1]; decide, by rw [hR2]; decide⟩ hK hP 0 rfl rfl [0, 1, 2, 3, 4, 5, 6, 7, 8] rfl [0, 1, 2] rfl rfl rfl hl.1 (Nat.le_of_ble_eq_true rfl) d_M_wanted_7 ⟨Nat.zero_le _, Nat.zero_le _⟩ ?_
    refine we_if_eq (tgt := 17) hx hb (by constructor <;> split <;> omega) d_M_wanted_10 rfl (fun hc10 => ?_) (fun hc10 => ?_)
    ·
      refine lv_aload_n hx hb d_M_wanted_17 rfl (lv_at hl 0 rfl) ?_
      refine lv_iload_n hx hb d_M_wanted_18 rfl (lv_at hl 1 rfl) ?_
      refine lv_iconst (v := eI 0) hx hb d_M_wanted_19 rfl ?_
      refine eh_cMV (As := [.int (eI ((1 : Nat) : Int)), .int (eI 0)]) (rest := []) (q := (R_M, T_M, 23)) (wr := []) hx hb hml hown htb hN (m_M_litresAt_0 l D cI cL cZ md co n sh ra up lw kn fo sc ln cb th pl lo pr la cu cl fu fl ys yl yp 1 (by split at hc10 <;> omega) hM) 2 ⟨tb_715, tb_717, ts_32, tb_7, kin_M_litresAt⟩ dv_M_litresAt ⟨by rw [hR1]; decide, by rw [hR2]; decide⟩ hK hP hD hS hA 0 rfl rfl [0, 1, 2, 3, 4, 5, 6, 7, 8] [] rfl rfl (by decide) rfl (by decide) (by decide) [0, 1, 2] rfl rfl rfl hl.1 (Nat.le_of_ble_eq_true rfl) d_M_wanted_20 ⟨Nat.zero_le _, Nat.zero_le _⟩ (fun u H locs hu hP hD hS => ?_)
      have hP := hP.sub (ws' := [((md 0), .inr (5, [.int (eI co), .int (eI ((n : Nat) : Int)), .ref (md 1), .ref (md 2), .ref (md 3), .int (eI sh), .int (eI ra), .ref (md 4), .ref (md 5), .ref (md 6), .ref (md 7), .ref (md 8), .long (eL ((fu (1 + 1) : Nat) : Int)), .long (eL ((fl (1 + 1) : Nat) : Int)), .ref (md 9), .ref (md 10), .ref (md 11), .ref (md 12), .ref (md 13), .ref (md 14), .ref (md 15), .int (eI kn), .int (eI fo)])), ((md 1), aI cI 25 sc), ((md 2), aI cI 4 ln), ((md 3), aI cZ 4 cb), ((md 4), aI cZ 3 th), ((md 5), aI cI 3 pl), ((md 6), aI cI 3 lo), ((md 7), aI cI 3 pr), ((md 8), aI cI 30 la)]) [0, 1, 2, 3, 4, 5, 6, 7, 8] rfl
      have hD := hD.sub (ws' := [((md 0), .inr (5, [.int (eI co), .int (eI ((n : Nat) : Int)), .ref (md 1), .ref (md 2), .ref (md 3), .int (eI sh), .int (eI ra), .ref (md 4), .ref (md 5), .ref (md 6), .ref (md 7), .ref (md 8), .long (eL ((fu (1 + 1) : Nat) : Int)), .long (eL ((fl (1 + 1) : Nat) : Int)), .ref (md 9), .ref (md 10), .ref (md 11), .ref (md 12), .ref (md 13), .ref (md 14), .ref (md 15), .int (eI kn), .int (eI fo)])), ((md 1), aI cI 25 sc), ((md 2), aI cI 4 ln), ((md 3), aI cZ 4 cb), ((md 4), aI cZ 3 th), ((md 5), aI cI 3 pl), ((md 6), aI cI 3 lo), ((md 7), aI cI 3 pr), ((md 8), aI cI 30 la)]) [0, 1, 2, 3, 4, 5, 6, 7, 8] (by decide) rfl
      refine lv_goto (tgt := 45) hx hb d_M_wanted_23 rfl ?_
      have hres : (eh_kut fu fl ln 1) = (eh_wn n ln fu fl yl 1) := by
        unfold eh_wn
        rw [if_pos (by omega)]
        rw [if_pos (by split at hc10 <;> omega)]
      rw [hres]
      subst hQ
      exact W.iret hx hb hrt (fun t9 ht hW => ⟨⟨(((fu (1 + 1) : Nat) : Int), ((fl (1 + 1) : Nat) : Int)), rfl, trivial, by rw [ht]; exact hP, hD⟩, hS.F ht⟩) hS.2.2 d_M_wanted_45
    ·
      refine lv_iconst (v := eI 0) hx hb d_M_wanted_13 rfl ?_
      refine lv_goto (tgt := 45) hx hb d_M_wanted_14 rfl ?_
      have hres : 0 = (eh_wn n ln fu fl yl 1) := by
        unfold eh_wn
        rw [if_pos (by omega)]
        rw [if_neg (by split at hc10 <;> omega)]
      rw [hres]
      subst hQ
      exact W.iret hx hb hrt (fun t9 ht hW => ⟨⟨(up, lw), rfl, trivial, by rw [ht]; exact hP, hD⟩, hS.F ht⟩) hS.2.2 d_M_wanted_45
  ·
    have hl : lv_has ls 2 [(0, .ref (md 0)), (1, .int (eI ((2 : Nat) : Int)))] := hl
    refine lv_iload_n hx hb d_M_wanted_0 rfl (lv_at hl 1 rfl) ?_
    refine lv_iconst (v := eI 4) hx hb d_M_wanted_1 rfl ?_
    refine we_icmp_ge (tgt := 26) hx hb (by constructor <;> omega) (by constructor <;> omega) d_M_wanted_2 rfl (fun hc2 => absurd hc2 (by omega)) (fun hc2 => ?_)
    refine lv_aload_n hx hb d_M_wanted_5 rfl (lv_at hl 0 rfl) ?_
    refine lv_iload_n hx hb d_M_wanted_6 rfl (lv_at hl 1 rfl) ?_
    refine eh_cRV (As := [.int (eI ((2 : Nat) : Int))]) (rest := []) (v := .int (eI (if ((2 : Nat) : Int) < 0 ∨ (n : Int) ≤ ((2 : Nat) : Int) + 1 then 1 else 0))) (q := (R_M, T_M, 23)) hx hb hml hown htb hN (r_M_noSpan l D cI cL cZ md co n sh ra up lw kn fo sc ln cb th pl lo pr la cu cl fu fl ys yl yp ((2 : Nat) : Int) (by omega) hM) 1 ⟨tb_681, tb_683, ts_29, tb_7, kin_M_noSpan⟩ dv_M_noSpan ⟨by rw [hR1]; decide, by rw [hR2]; decide⟩ hK hP 0 rfl rfl [0, 1, 2, 3, 4, 5, 6, 7, 8] rfl [0, 1, 2] rfl rfl rfl hl.1 (Nat.le_of_ble_eq_true rfl) d_M_wanted_7 ⟨Nat.zero_le _, Nat.zero_le _⟩ ?_
    refine we_if_eq (tgt := 17) hx hb (by constructor <;> split <;> omega) d_M_wanted_10 rfl (fun hc10 => ?_) (fun hc10 => ?_)
    ·
      refine lv_aload_n hx hb d_M_wanted_17 rfl (lv_at hl 0 rfl) ?_
      refine lv_iload_n hx hb d_M_wanted_18 rfl (lv_at hl 1 rfl) ?_
      refine lv_iconst (v := eI 0) hx hb d_M_wanted_19 rfl ?_
      refine eh_cMV (As := [.int (eI ((2 : Nat) : Int)), .int (eI 0)]) (rest := []) (q := (R_M, T_M, 23)) (wr := []) hx hb hml hown htb hN (m_M_litresAt_0 l D cI cL cZ md co n sh ra up lw kn fo sc ln cb th pl lo pr la cu cl fu fl ys yl yp 2 (by split at hc10 <;> omega) hM) 2 ⟨tb_715, tb_717, ts_32, tb_7, kin_M_litresAt⟩ dv_M_litresAt ⟨by rw [hR1]; decide, by rw [hR2]; decide⟩ hK hP hD hS hA 0 rfl rfl [0, 1, 2, 3, 4, 5, 6, 7, 8] [] rfl rfl (by decide) rfl (by decide) (by decide) [0, 1, 2] rfl rfl rfl hl.1 (Nat.le_of_ble_eq_true rfl) d_M_wanted_20 ⟨Nat.zero_le _, Nat.zero_le _⟩ (fun u H locs hu hP hD hS => ?_)
      have hP := hP.sub (ws' := [((md 0), .inr (5, [.int (eI co), .int (eI ((n : Nat) : Int)), .ref (md 1), .ref (md 2), .ref (md 3), .int (eI sh), .int (eI ra), .ref (md 4), .ref (md 5), .ref (md 6), .ref (md 7), .ref (md 8), .long (eL ((fu (2 + 1) : Nat) : Int)), .long (eL ((fl (2 + 1) : Nat) : Int)), .ref (md 9), .ref (md 10), .ref (md 11), .ref (md 12), .ref (md 13), .ref (md 14), .ref (md 15), .int (eI kn), .int (eI fo)])), ((md 1), aI cI 25 sc), ((md 2), aI cI 4 ln), ((md 3), aI cZ 4 cb), ((md 4), aI cZ 3 th), ((md 5), aI cI 3 pl), ((md 6), aI cI 3 lo), ((md 7), aI cI 3 pr), ((md 8), aI cI 30 la)]) [0, 1, 2, 3, 4, 5, 6, 7, 8] rfl
      have hD := hD.sub (ws' := [((md 0), .inr (5, [.int (eI co), .int (eI ((n : Nat) : Int)), .ref (md 1), .ref (md 2), .ref (md 3), .int (eI sh), .int (eI ra), .ref (md 4), .ref (md 5), .ref (md 6), .ref (md 7), .ref (md 8), .long (eL ((fu (2 + 1) : Nat) : Int)), .long (eL ((fl (2 + 1) : Nat) : Int)), .ref (md 9), .ref (md 10), .ref (md 11), .ref (md 12), .ref (md 13), .ref (md 14), .ref (md 15), .int (eI kn), .int (eI fo)])), ((md 1), aI cI 25 sc), ((md 2), aI cI 4 ln), ((md 3), aI cZ 4 cb), ((md 4), aI cZ 3 th), ((md 5), aI cI 3 pl), ((md 6), aI cI 3 lo), ((md 7), aI cI 3 pr), ((md 8), aI cI 30 la)]) [0, 1, 2, 3, 4, 5, 6, 7, 8] (by decide) rfl
      refine lv_goto (tgt := 45) hx hb d_M_wanted_23 rfl ?_
      have hres : (eh_kut fu fl ln 2) = (eh_wn n ln fu fl yl 2) := by
        unfold eh_wn
        rw [if_pos (by omega)]
        rw [if_pos (by split at hc10 <;> omega)]
      rw [hres]
      subst hQ
      exact W.iret hx hb hrt (fun t9 ht hW => ⟨⟨(((fu (2 + 1) : Nat) : Int), ((fl (2 + 1) : Nat) : Int)), rfl, trivial, by rw [ht]; exact hP, hD⟩, hS.F ht⟩) hS.2.2 d_M_wanted_45
    ·
      refine lv_iconst (v := eI 0) hx hb d_M_wanted_13 rfl ?_
      refine lv_goto (tgt := 45) hx hb d_M_wanted_14 rfl ?_
      have hres : 0 = (eh_wn n ln fu fl yl 2) := by
        unfold eh_wn
        rw [if_pos (by omega)]
        rw [if_neg (by split at hc10 <;> omega)]
      rw [hres]
      subst hQ
      exact W.iret hx hb hrt (fun t9 ht hW => ⟨⟨(up, lw), rfl, trivial, by rw [ht]; exact hP, hD⟩, hS.F ht⟩) hS.2.2 d_M_wanted_45
  ·
    have hl : lv_has ls 2 [(0, .ref (md 0)), (1, .int (eI ((3 : Nat) : Int)))] := hl
    refine lv_iload_n hx hb d_M_wanted_0 rfl (lv_at hl 1 rfl) ?_
    refine lv_iconst (v := eI 4) hx hb d_M_wanted_1 rfl ?_
    refine we_icmp_ge (tgt := 26) hx hb (by constructor <;> omega) (by constructor <;> omega) d_M_wanted_2 rfl (fun hc2 => absurd hc2 (by omega)) (fun hc2 => ?_)
    refine lv_aload_n hx hb d_M_wanted_5 rfl (lv_at hl 0 rfl) ?_
    refine lv_iload_n hx hb d_M_wanted_6 rfl (lv_at hl 1 rfl) ?_
    refine eh_cRV (As := [.int (eI ((3 : Nat) : Int))]) (rest := []) (v := .int (eI (if ((3 : Nat) : Int) < 0 ∨ (n : Int) ≤ ((3 : Nat) : Int) + 1 then 1 else 0))) (q := (R_M, T_M, 23)) hx hb hml hown htb hN (r_M_noSpan l D cI cL cZ md co n sh ra up lw kn fo sc ln cb th pl lo pr la cu cl fu fl ys yl yp ((3 : Nat) : Int) (by omega) hM) 1 ⟨tb_681, tb_683, ts_29, tb_7, kin_M_noSpan⟩ dv_M_noSpan ⟨by rw [hR1]; decide, by rw [hR2]; decide⟩ hK hP 0 rfl rfl [0, 1, 2, 3, 4, 5, 6, 7, 8] rfl [0, 1, 2] rfl rfl rfl hl.1 (Nat.le_of_ble_eq_true rfl) d_M_wanted_7 ⟨Nat.zero_le _, Nat.zero_le _⟩ ?_
    refine we_if_eq (tgt := 17) hx hb (by constructor <;> split <;> omega) d_M_wanted_10 rfl (fun hc10 => ?_) (fun hc10 => ?_)
    ·
      refine lv_aload_n hx hb d_M_wanted_17 rfl (lv_at hl 0 rfl) ?_
      refine lv_iload_n hx hb d_M_wanted_18 rfl (lv_at hl 1 rfl) ?_
      refine lv_iconst (v := eI 0) hx hb d_M_wanted_19 rfl ?_
      refine eh_cMV (As := [.int (eI ((3 : Nat) : Int)), .int (eI 0)]) (rest := []) (q := (R_M, T_M, 23)) (wr := []) hx hb hml hown htb hN (m_M_litresAt_0 l D cI cL cZ md co n sh ra up lw kn fo sc ln cb th pl lo pr la cu cl fu fl ys yl yp 3 (by split at hc10 <;> omega) hM) 2 ⟨tb_715, tb_717, ts_32, tb_7, kin_M_litresAt⟩ dv_M_litresAt ⟨by rw [hR1]; decide, by rw [hR2]; decide⟩ hK hP hD hS hA 0 rfl rfl [0, 1, 2, 3, 4, 5, 6, 7, 8] [] rfl rfl (by decide) rfl (by decide) (by decide) [0, 1, 2] rfl rfl rfl hl.1 (Nat.le_of_ble_eq_true rfl) d_M_wanted_20 ⟨Nat.zero_le _, Nat.zero_le _⟩ (fun u H locs hu hP hD hS => ?_)
      have hP := hP.sub (ws' := [((md 0), .inr (5, [.int (eI co), .int (eI ((n : Nat) : Int)), .ref (md 1), .ref (md 2), .ref (md 3), .int (eI sh), .int (eI ra), .ref (md 4), .ref (md 5), .ref (md 6), .ref (md 7), .ref (md 8), .long (eL ((fu (3 + 1) : Nat) : Int)), .long (eL ((fl (3 + 1) : Nat) : Int)), .ref (md 9), .ref (md 10), .ref (md 11), .ref (md 12), .ref (md 13), .ref (md 14), .ref (md 15), .int (eI kn), .int (eI fo)])), ((md 1), aI cI 25 sc), ((md 2), aI cI 4 ln), ((md 3), aI cZ 4 cb), ((md 4), aI cZ 3 th), ((md 5), aI cI 3 pl), ((md 6), aI cI 3 lo), ((md 7), aI cI 3 pr), ((md 8), aI cI 30 la)]) [0, 1, 2, 3, 4, 5, 6, 7, 8] rfl
      have hD := hD.sub (ws' := [((md 0), .inr (5, [.int (eI co), .int (eI ((n : Nat) : Int)), .ref (md 1), .ref (md 2), .ref (md 3), .int (eI sh), .int (eI ra), .ref (md 4), .ref (md 5), .ref (md 6), .ref (md 7), .ref (md 8), .long (eL ((fu (3 + 1) : Nat) : Int)), .long (eL ((fl (3 + 1) : Nat) : Int)), .ref (md 9), .ref (md 10), .ref (md 11), .ref (md 12), .ref (md 13), .ref (md 14), .ref (md 15), .int (eI kn), .int (eI fo)])), ((md 1), aI cI 25 sc), ((md 2), aI cI 4 ln), ((md 3), aI cZ 4 cb), ((md 4), aI cZ 3 th), ((md 5), aI cI 3 pl), ((md 6), aI cI 3 lo), ((md 7), aI cI 3 pr), ((md 8), aI cI 30 la)]) [0, 1, 2, 3, 4, 5, 6, 7, 8] (by decide) rfl
      refine lv_goto (tgt := 45) hx hb d_M_wanted_23 rfl ?_
      have hres : (eh_kut fu fl ln 3) = (eh_wn n ln fu fl yl 3) := by
        unfold eh_wn
        rw [if_pos (by omega)]
        rw [if_pos (by split at hc10 <;> omega)]
      rw [hres]
      subst hQ
      exact W.iret hx hb hrt (fun t9 ht hW => ⟨⟨(((fu (3 + 1) : Nat) : Int), ((fl (3 + 1) : Nat) : Int)), rfl, trivial, by rw [ht]; exact hP, hD⟩, hS.F ht⟩) hS.2.2 d_M_wanted_45
    ·
      refine lv_iconst (v := eI 0) hx hb d_M_wanted_13 rfl ?_
      refine lv_goto (tgt := 45) hx hb d_M_wanted_14 rfl ?_
      have hres : 0 = (eh_wn n ln fu fl yl 3) := by
        unfold eh_wn
        rw [if_pos (by omega)]
        rw [if_neg (by split at hc10 <;> omega)]
      rw [hres]
      subst hQ
      exact W.iret hx hb hrt (fun t9 ht hW => ⟨⟨(up, lw), rfl, trivial, by rw [ht]; exact hP, hD⟩, hS.F ht⟩) hS.2.2 d_M_wanted_45
  ·
    have hl : lv_has ls 2 [(0, .ref (md 0)), (1, .int (eI ((4 : Nat) : Int)))] := hl
    have hy := hM.2.1 2 (by omega)
    refine lv_iload_n hx hb d_M_wanted_0 rfl (lv_at hl 1 rfl) ?_
    refine lv_iconst (v := eI 4) hx hb d_M_wanted_1 rfl ?_
    refine we_icmp_ge (tgt := 26) hx hb (by constructor <;> omega) (by constructor <;> omega) d_M_wanted_2 rfl (fun hc2 => ?_) (fun hc2 => absurd hc2 (by omega))
    refine lv_aload_n hx hb d_M_wanted_26 rfl (lv_at hl 0 rfl) ?_
    refine va_get (D := D) (ci := 5) (v := .ref (md 4)) (C := R_M) (T := T_M) (N := 23) hx hb htb in_M hown hK hP 0 rfl rfl 7 (by decide) (htb _ tb_595) (fun _ h9 => h9) rfl d_M_wanted_27 ?_
    refine lv_iconst (v := eI 2) hx hb d_M_wanted_30 rfl ?_
    refine we_zald hx hb hK hP 4 2 rfl rfl 2 rfl (by decide) (by decide) d_M_wanted_31 ?_
    refine we_if_eq (tgt := 44) hx hb (by constructor <;> omega) d_M_wanted_32 rfl (fun hc32 => ?_) (fun hc32 => ?_)
    ·
      refine lv_iconst (v := eI 0) hx hb d_M_wanted_44 rfl ?_
      have hres : 0 = (eh_wn n ln fu fl yl 4) := by
        show _ = yl 2
        omega
      rw [hres]
      subst hQ
      exact W.iret hx hb hrt (fun t9 ht hW => ⟨⟨(up, lw), rfl, trivial, by rw [ht]; exact hP, hD⟩, hS.F ht⟩) hS.2.2 d_M_wanted_45
    ·
      refine lv_aload_n hx hb d_M_wanted_35 rfl (lv_at hl 0 rfl) ?_
      refine va_get (D := D) (ci := 5) (v := .ref (md 6)) (C := R_M) (T := T_M) (N := 23) hx hb htb in_M hown hK hP 0 rfl rfl 9 (by decide) (htb _ tb_597) (fun _ h9 => h9) rfl d_M_wanted_36 ?_
      refine lv_iconst (v := eI 2) hx hb d_M_wanted_39 rfl ?_
      refine we_iald hx hb hK hP 6 0 rfl rfl 2 rfl (by decide) (by decide) d_M_wanted_40 ?_
      refine lv_goto (tgt := 45) hx hb d_M_wanted_41 rfl ?_
      have hres : (lo 2) = (eh_wn n ln fu fl yl 4) := by
        show _ = yl 2
        omega
      rw [hres]
      subst hQ
      exact W.iret hx hb hrt (fun t9 ht hW => ⟨⟨(up, lw), rfl, trivial, by rw [ht]; exact hP, hD⟩, hS.F ht⟩) hS.2.2 d_M_wanted_45
abbrev c_M_costOf : ByteArray := prog_7_method_25_code
def y_M_costOf : MethodName := ⟨"EarthHaulsModel", "costOf", "(II)I"⟩
abbrev k_M_costOf : Cond := .code y_M_costOf c_M_costOf 9 (some .int)
theorem kin_M_costOf : k_M_costOf ∈ ew_t := tb_744
theorem dv_M_costOf : eh_dV y_M_costOf "EarthHaulsModel" 2 := ⟨rfl, by decide, by decide, by decide +kernel⟩
theorem d_M_costOf_0 : decode c_M_costOf 0 = .ok (.aload_n 0, 1) := by decide +kernel
theorem d_M_costOf_1 : decode c_M_costOf 1 = .ok (.iload_n 1, 1) := by decide +kernel
theorem d_M_costOf_2 : decode c_M_costOf 2 = .ok (.invokevirtual 123, 3) := by decide +kernel
theorem d_M_costOf_5 : decode c_M_costOf 5 = .ok (.istore_n 3, 1) := by decide +kernel
theorem d_M_costOf_6 : decode c_M_costOf 6 = .ok (.aload_n 0, 1) := by decide +kernel
theorem d_M_costOf_7 : decode c_M_costOf 7 = .ok (.iload_n 2, 1) := by decide +kernel
theorem d_M_costOf_8 : decode c_M_costOf 8 = .ok (.invokevirtual 126, 3) := by decide +kernel
theorem d_M_costOf_11 : decode c_M_costOf 11 = .ok (.istore 4, 2) := by decide +kernel
theorem d_M_costOf_13 : decode c_M_costOf 13 = .ok (.iload_n 3, 1) := by decide +kernel
theorem d_M_costOf_14 : decode c_M_costOf 14 = .ok (.ifCond .lt 18, 3) := by decide +kernel
theorem d_M_costOf_17 : decode c_M_costOf 17 = .ok (.iload 4, 2) := by decide +kernel
theorem d_M_costOf_19 : decode c_M_costOf 19 = .ok (.ifCond .lt 13, 3) := by decide +kernel
theorem d_M_costOf_22 : decode c_M_costOf 22 = .ok (.iload_n 1, 1) := by decide +kernel
theorem d_M_costOf_23 : decode c_M_costOf 23 = .ok (.iconst 3, 1) := by decide +kernel
theorem d_M_costOf_24 : decode c_M_costOf 24 = .ok (.if_icmp .le 10, 3) := by decide +kernel
theorem d_M_costOf_27 : decode c_M_costOf 27 = .ok (.iload_n 2, 1) := by decide +kernel
theorem d_M_costOf_28 : decode c_M_costOf 28 = .ok (.iconst 4, 1) := by decide +kernel
theorem d_M_costOf_29 : decode c_M_costOf 29 = .ok (.if_icmp .ne 5, 3) := by decide +kernel
theorem d_M_costOf_32 : decode c_M_costOf 32 = .ok (.iconst (-1), 1) := by decide +kernel
theorem d_M_costOf_33 : decode c_M_costOf 33 = .ok (.ireturn, 1) := by decide +kernel
theorem d_M_costOf_34 : decode c_M_costOf 34 = .ok (.iconst 0, 1) := by decide +kernel
theorem d_M_costOf_35 : decode c_M_costOf 35 = .ok (.istore 5, 2) := by decide +kernel
theorem d_M_costOf_37 : decode c_M_costOf 37 = .ok (.iload_n 3, 1) := by decide +kernel
theorem d_M_costOf_38 : decode c_M_costOf 38 = .ok (.iload 4, 2) := by decide +kernel
theorem d_M_costOf_40 : decode c_M_costOf 40 = .ok (.if_icmp .ge 7, 3) := by decide +kernel
theorem d_M_costOf_43 : decode c_M_costOf 43 = .ok (.iload_n 3, 1) := by decide +kernel
theorem d_M_costOf_44 : decode c_M_costOf 44 = .ok (.goto 5, 3) := by decide +kernel
theorem d_M_costOf_47 : decode c_M_costOf 47 = .ok (.iload 4, 2) := by decide +kernel
theorem d_M_costOf_49 : decode c_M_costOf 49 = .ok (.istore 6, 2) := by decide +kernel
theorem d_M_costOf_51 : decode c_M_costOf 51 = .ok (.iload_n 3, 1) := by decide +kernel
theorem d_M_costOf_52 : decode c_M_costOf 52 = .ok (.iload 4, 2) := by decide +kernel
theorem d_M_costOf_54 : decode c_M_costOf 54 = .ok (.if_icmp .ge 8, 3) := by decide +kernel
theorem d_M_costOf_57 : decode c_M_costOf 57 = .ok (.iload 4, 2) := by decide +kernel
theorem d_M_costOf_59 : decode c_M_costOf 59 = .ok (.goto 4, 3) := by decide +kernel
theorem d_M_costOf_62 : decode c_M_costOf 62 = .ok (.iload_n 3, 1) := by decide +kernel
theorem d_M_costOf_63 : decode c_M_costOf 63 = .ok (.istore 7, 2) := by decide +kernel
theorem d_M_costOf_65 : decode c_M_costOf 65 = .ok (.iload 6, 2) := by decide +kernel
theorem d_M_costOf_67 : decode c_M_costOf 67 = .ok (.istore 8, 2) := by decide +kernel
theorem d_M_costOf_69 : decode c_M_costOf 69 = .ok (.iload 8, 2) := by decide +kernel
theorem d_M_costOf_71 : decode c_M_costOf 71 = .ok (.iload 7, 2) := by decide +kernel
theorem d_M_costOf_73 : decode c_M_costOf 73 = .ok (.if_icmp .ge 43, 3) := by decide +kernel
theorem d_M_costOf_76 : decode c_M_costOf 76 = .ok (.aload_n 0, 1) := by decide +kernel
theorem d_M_costOf_77 : decode c_M_costOf 77 = .ok (.getfield 16, 3) := by decide +kernel
theorem d_M_costOf_80 : decode c_M_costOf 80 = .ok (.iload 8, 2) := by decide +kernel
theorem d_M_costOf_82 : decode c_M_costOf 82 = .ok (.baload, 1) := by decide +kernel
theorem d_M_costOf_83 : decode c_M_costOf 83 = .ok (.ifCond .eq 5, 3) := by decide +kernel
theorem d_M_costOf_86 : decode c_M_costOf 86 = .ok (.iconst (-1), 1) := by decide +kernel
theorem d_M_costOf_87 : decode c_M_costOf 87 = .ok (.ireturn, 1) := by decide +kernel
theorem d_M_costOf_88 : decode c_M_costOf 88 = .ok (.iload 5, 2) := by decide +kernel
theorem d_M_costOf_90 : decode c_M_costOf 90 = .ok (.aload_n 0, 1) := by decide +kernel
theorem d_M_costOf_91 : decode c_M_costOf 91 = .ok (.getfield 13, 3) := by decide +kernel
theorem d_M_costOf_94 : decode c_M_costOf 94 = .ok (.iload 8, 2) := by decide +kernel
theorem d_M_costOf_96 : decode c_M_costOf 96 = .ok (.iaload, 1) := by decide +kernel
theorem d_M_costOf_97 : decode c_M_costOf 97 = .ok (.iadd, 1) := by decide +kernel
theorem d_M_costOf_98 : decode c_M_costOf 98 = .ok (.aload_n 0, 1) := by decide +kernel
theorem d_M_costOf_99 : decode c_M_costOf 99 = .ok (.getfield 13, 3) := by decide +kernel
theorem d_M_costOf_102 : decode c_M_costOf 102 = .ok (.iload 8, 2) := by decide +kernel
theorem d_M_costOf_104 : decode c_M_costOf 104 = .ok (.iconst 1, 1) := by decide +kernel
theorem d_M_costOf_105 : decode c_M_costOf 105 = .ok (.iadd, 1) := by decide +kernel
theorem d_M_costOf_106 : decode c_M_costOf 106 = .ok (.iaload, 1) := by decide +kernel
theorem d_M_costOf_107 : decode c_M_costOf 107 = .ok (.iadd, 1) := by decide +kernel
theorem d_M_costOf_108 : decode c_M_costOf 108 = .ok (.istore 5, 2) := by decide +kernel
theorem d_M_costOf_110 : decode c_M_costOf 110 = .ok (.iinc 8 1, 3) := by decide +kernel
theorem d_M_costOf_113 : decode c_M_costOf 113 = .ok (.goto (-44), 3) := by decide +kernel
theorem d_M_costOf_116 : decode c_M_costOf 116 = .ok (.iload_n 1, 1) := by decide +kernel
theorem d_M_costOf_117 : decode c_M_costOf 117 = .ok (.iconst 3, 1) := by decide +kernel
theorem d_M_costOf_118 : decode c_M_costOf 118 = .ok (.if_icmp .le 14, 3) := by decide +kernel
theorem d_M_costOf_121 : decode c_M_costOf 121 = .ok (.aload_n 0, 1) := by decide +kernel
theorem d_M_costOf_122 : decode c_M_costOf 122 = .ok (.getfield 36, 3) := by decide +kernel
theorem d_M_costOf_125 : decode c_M_costOf 125 = .ok (.iload_n 1, 1) := by decide +kernel
theorem d_M_costOf_126 : decode c_M_costOf 126 = .ok (.iconst 4, 1) := by decide +kernel
theorem d_M_costOf_127 : decode c_M_costOf 127 = .ok (.isub, 1) := by decide +kernel
theorem d_M_costOf_128 : decode c_M_costOf 128 = .ok (.iaload, 1) := by decide +kernel
theorem d_M_costOf_129 : decode c_M_costOf 129 = .ok (.goto 18, 3) := by decide +kernel
theorem d_M_costOf_132 : decode c_M_costOf 132 = .ok (.iload_n 2, 1) := by decide +kernel
theorem d_M_costOf_133 : decode c_M_costOf 133 = .ok (.iconst 4, 1) := by decide +kernel
theorem d_M_costOf_134 : decode c_M_costOf 134 = .ok (.if_icmp .ne 12, 3) := by decide +kernel
theorem d_M_costOf_137 : decode c_M_costOf 137 = .ok (.aload_n 0, 1) := by decide +kernel
theorem d_M_costOf_138 : decode c_M_costOf 138 = .ok (.getfield 36, 3) := by decide +kernel
theorem d_M_costOf_141 : decode c_M_costOf 141 = .ok (.iconst 2, 1) := by decide +kernel
theorem d_M_costOf_142 : decode c_M_costOf 142 = .ok (.iaload, 1) := by decide +kernel
theorem d_M_costOf_143 : decode c_M_costOf 143 = .ok (.goto 4, 3) := by decide +kernel
theorem d_M_costOf_146 : decode c_M_costOf 146 = .ok (.iconst 0, 1) := by decide +kernel
theorem d_M_costOf_147 : decode c_M_costOf 147 = .ok (.istore 8, 2) := by decide +kernel
theorem d_M_costOf_149 : decode c_M_costOf 149 = .ok (.iload 5, 2) := by decide +kernel
theorem d_M_costOf_151 : decode c_M_costOf 151 = .ok (.aload_n 0, 1) := by decide +kernel
theorem d_M_costOf_152 : decode c_M_costOf 152 = .ok (.getfield 24, 3) := by decide +kernel
theorem d_M_costOf_155 : decode c_M_costOf 155 = .ok (.imul, 1) := by decide +kernel
theorem d_M_costOf_156 : decode c_M_costOf 156 = .ok (.iload 8, 2) := by decide +kernel
theorem d_M_costOf_158 : decode c_M_costOf 158 = .ok (.iadd, 1) := by decide +kernel
theorem d_M_costOf_159 : decode c_M_costOf 159 = .ok (.ireturn, 1) := by decide +kernel
set_option maxHeartbeats 1000000 in
set_option maxRecDepth 100000 in
theorem r_M_costOf (l : Launch) (D : va_G) (cI cL cZ : ClassId) (md : Nat → Nat) (co : Int) (n : Nat) (sh ra up lw kn fo : Int) (sc ln cb th pl lo pr la : Nat → Int) (cu cl fu fl : Nat → Nat) (ys yl yp : Nat → Int) (so si : Nat) (hso6 : so < 6) (hsi : si < 5) (hM : eh_MS n sh ra sc ln cb th pl lo pr la cu cl fu fl ys yl yp) : eh_R l y_M_costOf k_M_costOf 2 42 D classes [(cI, .int), (cL, .long), (cZ, .boolean)] [.ref (md 0), .int (eI ((so : Nat) : Int)), .int (eI ((si : Nat) : Int))] [((md 0), .inr (5, [.int (eI co), .int (eI ((n : Nat) : Int)), .ref (md 1), .ref (md 2), .ref (md 3), .int (eI sh), .int (eI ra), .ref (md 4), .ref (md 5), .ref (md 6), .ref (md 7), .ref (md 8), .long (eL up), .long (eL lw), .ref (md 9), .ref (md 10), .ref (md 11), .ref (md 12), .ref (md 13), .ref (md 14), .ref (md 15), .int (eI kn), .int (eI fo)])), ((md 1), aI cI 25 sc), ((md 2), aI cI 4 ln), ((md 3), aI cZ 4 cb), ((md 4), aI cZ 3 th), ((md 5), aI cI 3 pl), ((md 6), aI cI 3 lo), ((md 7), aI cI 3 pr), ((md 8), aI cI 30 la)] (.int (eI (eh_ku n ra ln cb ys yp so si))) := by
  refine Met.ofW (cc := c_M_costOf) (maxL := 9) (ret := (some .int)) (by decide) rfl ?_
  intro p e s m args below meth c s₁ B hml hv
  obtain ⟨hargs, hP, hK, hN⟩ := hv
  have hx := B.exec
  have hb := B.bytes
  have hrt := B.returns
  have hts := atoms_spec (ws := k_M_costOf :: ew_t) B.pre
  have htb : ∀ w ∈ ew_t, w.before args s = true := fun w h => hts w (List.mem_cons_of_mem _ h)
  have hown : s.vm.findClass "EarthHaulsModel" = some m.cls := findClass_of_methodNamed B.named
  have hlocks := B.notSynchronized
  have hE : entryFrame m args 9 = entryFrame m ([.ref (md 0), .int (eI ((so : Nat) : Int)), .int (eI ((si : Nat) : Int))] : List Value).toArray 9 := by rw [hargs]
  rw [hE]
  clear hE hts B hargs
  generalize hRe : (headSpec _ _).room = R
  have hR1 : R.frames = 2 := by rw [← hRe]; rfl
  have hR2 : R.locals = 42 := by rw [← hRe]; rfl
  clear hRe
  generalize hQ : MQ below _ _ s 0 0 _ = Q
  have hP : va_P D classes [((md 0), .inr (5, [.int (eI co), .int (eI ((n : Nat) : Int)), .ref (md 1), .ref (md 2), .ref (md 3), .int (eI sh), .int (eI ra), .ref (md 4), .ref (md 5), .ref (md 6), .ref (md 7), .ref (md 8), .long (eL up), .long (eL lw), .ref (md 9), .ref (md 10), .ref (md 11), .ref (md 12), .ref (md 13), .ref (md 14), .ref (md 15), .int (eI kn), .int (eI fo)])), ((md 1), aI cI 25 sc), ((md 2), aI cI 4 ln), ((md 3), aI cZ 4 cb), ((md 4), aI cZ 3 th), ((md 5), aI cI 3 pl), ((md 6), aI cI 3 lo), ((md 7), aI cI 3 pr), ((md 8), aI cI 30 la)] s.heap := hP
  have hl := lv_entry ([.ref (md 0), .int (eI ((so : Nat) : Int)), .int (eI ((si : Nat) : Int))]) (n := 9) (Nat.le_of_ble_eq_true rfl)
  rw [lg_entry_eq]
  generalize (lg_sl ([.ref (md 0), .int (eI ((so : Nat) : Int)), .int (eI ((si : Nat) : Int))]) ++ List.replicate (9 - (lg_sl ([.ref (md 0), .int (eI ((so : Nat) : Int)), .int (eI ((si : Nat) : Int))])).length) Slot.unset).toArray = ls at hl ⊢
  have hl : lv_has ls 9 [(0, .ref (md 0)), (1, .int (eI ((so : Nat) : Int))), (2, .int (eI ((si : Nat) : Int)))] := hl
  have hn5 := hM.1.1
  have hE := hM.1
  have hso := eh_so_b hE hso6
  have hsi9 := eh_si_b hE hsi
  refine lv_aload_n hx hb d_M_costOf_0 rfl (lv_at hl 0 rfl) ?_
  refine lv_iload_n hx hb d_M_costOf_1 rfl (lv_at hl 1 rfl) ?_
  refine eh_cRV (As := [.int (eI ((so : Nat) : Int))]) (rest := []) (v := .int (eI (eh_so n ys so))) (q := (R_M, T_M, 23)) hx hb hml hown htb hN (r_M_spanOfSource l D cI cL cZ md co n sh ra up lw kn fo sc ln cb th pl lo pr la cu cl fu fl ys yl yp so hso6 hM) 1 ⟨tb_745, tb_747, ts_35, tb_7, kin_M_spanOfSource⟩ dv_M_spanOfSource ⟨by rw [hR1]; decide, by rw [hR2]; decide⟩ hK hP 0 rfl rfl [0, 1, 2, 3, 4, 5, 6, 7, 8] rfl [0, 1, 2] rfl rfl rfl hl.1 (Nat.le_of_ble_eq_true rfl) d_M_costOf_2 ⟨Nat.zero_le _, Nat.zero_le _⟩ ?_
  refine lv_istore_n hx hb d_M_costOf_5 rfl hl (by decide) rfl (fun ls hl => ?_)
  have hl : lv_has ls 9 [(3, .int (eI (eh_so n ys so))), (0, .ref (md 0)), (1, .int (eI ((so : Nat) : Int))), (2, .int (eI ((si : Nat) : Int)))] := hl
  refine lv_aload_n hx hb d_M_costOf_6 rfl (lv_at hl 1 rfl) ?_
  refine lv_iload_n hx hb d_M_costOf_7 rfl (lv_at hl 3 rfl) ?_
  refine eh_cRV (As := [.int (eI ((si : Nat) : Int))]) (rest := []) (v := .int (eI (eh_si n ys si))) (q := (R_M, T_M, 23)) hx hb hml hown htb hN (r_M_spanOfSink l D cI cL cZ md co n sh ra up lw kn fo sc ln cb th pl lo pr la cu cl fu fl ys yl yp si hsi hM) 1 ⟨tb_749, tb_751, ts_36, tb_7, kin_M_spanOfSink⟩ dv_M_spanOfSink ⟨by rw [hR1]; decide, by rw [hR2]; decide⟩ hK hP 0 rfl rfl [0, 1, 2, 3, 4, 5, 6, 7, 8] rfl [0, 1, 2] rfl rfl rfl hl.1 (Nat.le_of_ble_eq_true rfl) d_M_costOf_8 ⟨Nat.zero_le _, Nat.zero_le _⟩ ?_
  refine lv_istore hx hb d_M_costOf_11 hl (by decide) rfl (fun ls hl => ?_)
  have hl : lv_has ls 9 [(4, .int (eI (eh_si n ys si))), (3, .int (eI (eh_so n ys so))), (0, .ref (md 0)), (1, .int (eI ((so : Nat) : Int))), (2, .int (eI ((si : Nat) : Int)))] := hl
  refine lv_iload_n hx hb d_M_costOf_13 rfl (lv_at hl 1 rfl) ?_
  refine we_if_lt (tgt := 32) hx hb (by constructor <;> omega) d_M_costOf_14 rfl (fun hc14 => ?_) (fun hc14 => ?_)
  ·
    refine lv_iconst (v := eI (-1)) hx hb d_M_costOf_32 rfl ?_
    have hres : ((-1) : Int) = (eh_ku n ra ln cb ys yp so si) := (eh_ku_1 (by omega)).symm
    rw [hres]
    subst hQ
    exact W.iret hx hb hrt (fun t9 ht hW => ⟨rfl, ht⟩) (fun q h => by cases h) d_M_costOf_33
  ·
    refine lv_iload hx hb d_M_costOf_17 (lv_at hl 0 rfl) ?_
    refine we_if_lt (tgt := 32) hx hb (by constructor <;> omega) d_M_costOf_19 rfl (fun hc19 => ?_) (fun hc19 => ?_)
    ·
      refine lv_iconst (v := eI (-1)) hx hb d_M_costOf_32 rfl ?_
      have hres : ((-1) : Int) = (eh_ku n ra ln cb ys yp so si) := (eh_ku_1 (by omega)).symm
      rw [hres]
      subst hQ
      exact W.iret hx hb hrt (fun t9 ht hW => ⟨rfl, ht⟩) (fun q h => by cases h) d_M_costOf_33
    ·
      refine lv_iload_n hx hb d_M_costOf_22 rfl (lv_at hl 3 rfl) ?_
      refine lv_iconst (v := eI 3) hx hb d_M_costOf_23 rfl ?_
      refine we_icmp_le (tgt := 34) hx hb (by constructor <;> omega) (by constructor <;> omega) d_M_costOf_24 rfl (fun hc24 => ?_) (fun hc24 => ?_)
      ·
        obtain ⟨f9, hf9⟩ : ∃ f : Nat, (eh_so n ys so) = (f : Int) := Int.eq_ofNat_of_zero_le (by omega)
        obtain ⟨g9, hg9⟩ : ∃ g : Nat, (eh_si n ys si) = (g : Int) := Int.eq_ofNat_of_zero_le (by omega)
        rw [hf9, hg9] at hl
        have h49 : ¬ (4 ≤ so ∧ si = 4) := by omega
        obtain ⟨lo9, hlo⟩ : ∃ q : Nat, q = min f9 g9 := ⟨_, rfl⟩
        obtain ⟨hi9, hhi⟩ : ∃ q : Nat, q = max f9 g9 := ⟨_, rfl⟩
        have hku := eh_ku_2 (n := n) (ra := ra) (ln := ln) (cb := cb) (ys := ys) (yp := yp) hf9 hg9 h49
        rw [← hlo, ← hhi] at hku
        refine lv_iconst (v := eI 0) hx hb d_M_costOf_34 rfl ?_
        refine lv_istore hx hb d_M_costOf_35 hl (by decide) rfl (fun ls hl => ?_)
        have hl : lv_has ls 9 [(5, .int (eI 0)), (4, .int (eI ((g9 : Nat) : Int))), (3, .int (eI ((f9 : Nat) : Int))), (0, .ref (md 0)), (1, .int (eI ((so : Nat) : Int))), (2, .int (eI ((si : Nat) : Int)))] := hl
        refine lv_iload_n hx hb d_M_costOf_37 rfl (lv_at hl 2 rfl) ?_
        refine lv_iload hx hb d_M_costOf_38 (lv_at hl 1 rfl) ?_
        refine we_icmp_ge (tgt := 47) hx hb (by constructor <;> omega) (by constructor <;> omega) d_M_costOf_40 rfl (fun hc40 => ?_) (fun hc40 => ?_)
        ·
          refine lv_iload hx hb d_M_costOf_47 (lv_at hl 1 rfl) ?_
          refine lv_istore hx hb d_M_costOf_49 hl (by decide) rfl (fun ls hl => ?_)
          have hl : lv_has ls 9 [(6, .int (eI ((g9 : Nat) : Int))), (5, .int (eI 0)), (4, .int (eI ((g9 : Nat) : Int))), (3, .int (eI ((f9 : Nat) : Int))), (0, .ref (md 0)), (1, .int (eI ((so : Nat) : Int))), (2, .int (eI ((si : Nat) : Int)))] := hl
          refine lv_iload_n hx hb d_M_costOf_51 rfl (lv_at hl 3 rfl) ?_
          refine lv_iload hx hb d_M_costOf_52 (lv_at hl 2 rfl) ?_
          refine we_icmp_ge (tgt := 62) hx hb (by constructor <;> omega) (by constructor <;> omega) d_M_costOf_54 rfl (fun hc54 => ?_) (fun hc54 => ?_)
          ·
            refine lv_iload_n hx hb d_M_costOf_62 rfl (lv_at hl 3 rfl) ?_
            refine lv_istore hx hb d_M_costOf_63 hl (by decide) rfl (fun ls hl => ?_)
            have hl : lv_has ls 9 [(7, .int (eI ((f9 : Nat) : Int))), (6, .int (eI ((g9 : Nat) : Int))), (5, .int (eI 0)), (4, .int (eI ((g9 : Nat) : Int))), (3, .int (eI ((f9 : Nat) : Int))), (0, .ref (md 0)), (1, .int (eI ((so : Nat) : Int))), (2, .int (eI ((si : Nat) : Int)))] := hl
            refine lv_iload hx hb d_M_costOf_65 (lv_at hl 1 rfl) ?_
            refine lv_istore hx hb d_M_costOf_67 hl (by decide) rfl (fun ls hl => ?_)
            have hl : lv_has ls 9 [(8, .int (eI ((g9 : Nat) : Int))), (7, .int (eI ((f9 : Nat) : Int))), (6, .int (eI ((g9 : Nat) : Int))), (5, .int (eI 0)), (4, .int (eI ((g9 : Nat) : Int))), (3, .int (eI ((f9 : Nat) : Int))), (0, .ref (md 0)), (1, .int (eI ((so : Nat) : Int))), (2, .int (eI ((si : Nat) : Int)))] := hl
            have hlo2 : ((g9 : Nat) : Int) = ((lo9 : Nat) : Int) := by omega
            have hhi2 : ((f9 : Nat) : Int) = ((hi9 : Nat) : Int) := by omega
            have loop : ∀ (q i : Nat) (ls : Array Slot), hi9 - i = q → lo9 ≤ i → i ≤ hi9 → eh_op cb lo9 i → lv_has ls 9 [(8, .int (eI ((i : Nat) : Int))), (5, .int (eI (eh_wy2 ln lo9 (i - lo9)))), (7, .int (eI ((hi9 : Nat) : Int))), (6, .int (eI ((lo9 : Nat) : Int))), (0, .ref (md 0)), (1, .int (eI ((so : Nat) : Int))), (2, .int (eI ((si : Nat) : Int)))] → W p l e R s m args below meth c s.heap [] 0 0 Q (F0 m 69 ls []) := by
              intro q
              induction q with
              | zero =>
                intro i ls hq h1 h2 hop hl
                have hwb := eh_wy2_b hE lo9 (i - lo9) (by omega)
                have hop9 : ¬ eh_opb cb lo9 (hi9 - lo9) = false := by
                  have z := (eh_opb_iff cb lo9 (hi9 - lo9)).mpr (by rw [show lo9 + (hi9 - lo9) = i by omega]; exact hop)
                  rw [z]; decide
                rw [if_neg hop9] at hku
                rcases (show so < 4 ∨ so = 4 ∨ so = 5 by omega) with hs4 | hs4 | hs4
                ·
                  refine lv_iload hx hb d_M_costOf_69 (lv_at hl 0 rfl) ?_
                  refine lv_iload hx hb d_M_costOf_71 (lv_at hl 2 rfl) ?_
                  refine we_icmp_ge (tgt := 116) hx hb (by constructor <;> omega) (by constructor <;> omega) d_M_costOf_73 rfl (fun hc73 => ?_) (fun hc73 => absurd hc73 (by omega))
                  refine lv_iload_n hx hb d_M_costOf_116 rfl (lv_at hl 5 rfl) ?_
                  refine lv_iconst (v := eI 3) hx hb d_M_costOf_117 rfl ?_
                  refine we_icmp_le (tgt := 132) hx hb (by constructor <;> omega) (by constructor <;> omega) d_M_costOf_118 rfl (fun hc118 => ?_) (fun hc118 => absurd hc118 (by omega))
                  refine lv_iload_n hx hb d_M_costOf_132 rfl (lv_at hl 6 rfl) ?_
                  refine lv_iconst (v := eI 4) hx hb d_M_costOf_133 rfl ?_
                  refine we_icmp_ne (tgt := 146) hx hb (by constructor <;> omega) (by constructor <;> omega) d_M_costOf_134 rfl (fun hc134 => ?_) (fun hc134 => ?_)
                  ·
                    refine lv_iconst (v := eI 0) hx hb d_M_costOf_146 rfl ?_
                    refine lv_istore hx hb d_M_costOf_147 hl (by decide) rfl (fun ls hl => ?_)
                    have hl : lv_has ls 9 [(8, .int (eI 0)), (5, .int (eI (eh_wy2 ln lo9 (i - lo9)))), (7, .int (eI ((hi9 : Nat) : Int))), (6, .int (eI ((lo9 : Nat) : Int))), (0, .ref (md 0)), (1, .int (eI ((so : Nat) : Int))), (2, .int (eI ((si : Nat) : Int)))] := hl
                    refine lv_iload hx hb d_M_costOf_149 (lv_at hl 1 rfl) ?_
                    refine lv_aload_n hx hb d_M_costOf_151 rfl (lv_at hl 4 rfl) ?_
                    refine va_get (D := D) (ci := 5) (v := .int (eI ra)) (C := R_M) (T := T_M) (N := 23) hx hb htb in_M hown hK hP 0 rfl rfl 6 (by decide) (htb _ tb_594) (fun _ h9 => h9) rfl d_M_costOf_152 ?_
                    refine we_imul hx hb d_M_costOf_155 ?_
                    refine lv_iload hx hb d_M_costOf_156 (lv_at hl 0 rfl) ?_
                    refine we_iadd hx hb d_M_costOf_158 ?_
                    have hres : ((((eh_wy2 ln lo9 (i - lo9)) * ra) + 0) : Int) = (eh_ku n ra ln cb ys yp so si) := by
                      rw [hku, show hi9 - lo9 = i - lo9 by omega, Int.mul_comm ra]
                      rw [if_neg (by omega), if_neg (by omega)]
                    rw [hres]
                    subst hQ
                    exact W.iret hx hb hrt (fun t9 ht hW => ⟨rfl, ht⟩) (fun q h => by cases h) d_M_costOf_159
                  ·
                    refine lv_aload_n hx hb d_M_costOf_137 rfl (lv_at hl 4 rfl) ?_
                    refine va_get (D := D) (ci := 5) (v := .ref (md 7)) (C := R_M) (T := T_M) (N := 23) hx hb htb in_M hown hK hP 0 rfl rfl 10 (by decide) (htb _ tb_598) (fun _ h9 => h9) rfl d_M_costOf_138 ?_
                    refine lv_iconst (v := eI 2) hx hb d_M_costOf_141 rfl ?_
                    refine we_iald hx hb hK hP 7 0 rfl rfl 2 rfl (by decide) (by decide) d_M_costOf_142 ?_
                    refine lv_goto (tgt := 147) hx hb d_M_costOf_143 rfl ?_
                    refine lv_istore hx hb d_M_costOf_147 hl (by decide) rfl (fun ls hl => ?_)
                    have hl : lv_has ls 9 [(8, .int (eI (pr 2))), (5, .int (eI (eh_wy2 ln lo9 (i - lo9)))), (7, .int (eI ((hi9 : Nat) : Int))), (6, .int (eI ((lo9 : Nat) : Int))), (0, .ref (md 0)), (1, .int (eI ((so : Nat) : Int))), (2, .int (eI ((si : Nat) : Int)))] := hl
                    refine lv_iload hx hb d_M_costOf_149 (lv_at hl 1 rfl) ?_
                    refine lv_aload_n hx hb d_M_costOf_151 rfl (lv_at hl 4 rfl) ?_
                    refine va_get (D := D) (ci := 5) (v := .int (eI ra)) (C := R_M) (T := T_M) (N := 23) hx hb htb in_M hown hK hP 0 rfl rfl 6 (by decide) (htb _ tb_594) (fun _ h9 => h9) rfl d_M_costOf_152 ?_
                    refine we_imul hx hb d_M_costOf_155 ?_
                    refine lv_iload hx hb d_M_costOf_156 (lv_at hl 0 rfl) ?_
                    refine we_iadd hx hb d_M_costOf_158 ?_
                    have hres : ((((eh_wy2 ln lo9 (i - lo9)) * ra) + (pr 2)) : Int) = (eh_ku n ra ln cb ys yp so si) := by
                      rw [hku, show hi9 - lo9 = i - lo9 by omega, Int.mul_comm ra]
                      rw [if_neg (by omega), if_pos (by omega)]
                      have hy := hM.2.1 2 (by omega)
                      have hv9 : eh_si n ys 4 = ys 2 := rfl
                      have hsi4 : si = 4 := by omega
                      rw [hsi4] at hg9
                      omega
                    rw [hres]
                    subst hQ
                    exact W.iret hx hb hrt (fun t9 ht hW => ⟨rfl, ht⟩) (fun q h => by cases h) d_M_costOf_159
                ·
                  subst hs4
                  refine lv_iload hx hb d_M_costOf_69 (lv_at hl 0 rfl) ?_
                  refine lv_iload hx hb d_M_costOf_71 (lv_at hl 2 rfl) ?_
                  refine we_icmp_ge (tgt := 116) hx hb (by constructor <;> omega) (by constructor <;> omega) d_M_costOf_73 rfl (fun hc73 => ?_) (fun hc73 => absurd hc73 (by omega))
                  refine lv_iload_n hx hb d_M_costOf_116 rfl (lv_at hl 5 rfl) ?_
                  refine lv_iconst (v := eI 3) hx hb d_M_costOf_117 rfl ?_
                  refine we_icmp_le (tgt := 132) hx hb (by constructor <;> omega) (by constructor <;> omega) d_M_costOf_118 rfl (fun hc118 => absurd hc118 (by omega)) (fun hc118 => ?_)
                  refine lv_aload_n hx hb d_M_costOf_121 rfl (lv_at hl 4 rfl) ?_
                  refine va_get (D := D) (ci := 5) (v := .ref (md 7)) (C := R_M) (T := T_M) (N := 23) hx hb htb in_M hown hK hP 0 rfl rfl 10 (by decide) (htb _ tb_598) (fun _ h9 => h9) rfl d_M_costOf_122 ?_
                  refine lv_iload_n hx hb d_M_costOf_125 rfl (lv_at hl 5 rfl) ?_
                  refine lv_iconst (v := eI 4) hx hb d_M_costOf_126 rfl ?_
                  refine we_isub hx hb d_M_costOf_127 ?_
                  refine we_iald hx hb hK hP 7 0 rfl rfl 0 rfl (by decide) (by decide) d_M_costOf_128 ?_
                  refine lv_goto (tgt := 147) hx hb d_M_costOf_129 rfl ?_
                  refine lv_istore hx hb d_M_costOf_147 hl (by decide) rfl (fun ls hl => ?_)
                  have hl : lv_has ls 9 [(8, .int (eI (pr 0))), (5, .int (eI (eh_wy2 ln lo9 (i - lo9)))), (7, .int (eI ((hi9 : Nat) : Int))), (6, .int (eI ((lo9 : Nat) : Int))), (0, .ref (md 0)), (1, .int (eI ((4 : Nat) : Int))), (2, .int (eI ((si : Nat) : Int)))] := hl
                  refine lv_iload hx hb d_M_costOf_149 (lv_at hl 1 rfl) ?_
                  refine lv_aload_n hx hb d_M_costOf_151 rfl (lv_at hl 4 rfl) ?_
                  refine va_get (D := D) (ci := 5) (v := .int (eI ra)) (C := R_M) (T := T_M) (N := 23) hx hb htb in_M hown hK hP 0 rfl rfl 6 (by decide) (htb _ tb_594) (fun _ h9 => h9) rfl d_M_costOf_152 ?_
                  refine we_imul hx hb d_M_costOf_155 ?_
                  refine lv_iload hx hb d_M_costOf_156 (lv_at hl 0 rfl) ?_
                  refine we_iadd hx hb d_M_costOf_158 ?_
                  have hres : ((((eh_wy2 ln lo9 (i - lo9)) * ra) + (pr 0)) : Int) = (eh_ku n ra ln cb ys yp 4 si) := by
                    rw [hku, show hi9 - lo9 = i - lo9 by omega, Int.mul_comm ra]
                    rw [if_pos (by omega)]
                    have hy := hM.2.1 0 (by omega)
                    have ho := hso
                    have hv9 : eh_so n ys 4 = ys 0 := rfl
                    show _ = _ + yp 0
                    omega
                  rw [hres]
                  subst hQ
                  exact W.iret hx hb hrt (fun t9 ht hW => ⟨rfl, ht⟩) (fun q h => by cases h) d_M_costOf_159
                ·
                  subst hs4
                  refine lv_iload hx hb d_M_costOf_69 (lv_at hl 0 rfl) ?_
                  refine lv_iload hx hb d_M_costOf_71 (lv_at hl 2 rfl) ?_
                  refine we_icmp_ge (tgt := 116) hx hb (by constructor <;> omega) (by constructor <;> omega) d_M_costOf_73 rfl (fun hc73 => ?_) (fun hc73 => absurd hc73 (by omega))
                  refine lv_iload_n hx hb d_M_costOf_116 rfl (lv_at hl 5 rfl) ?_
                  refine lv_iconst (v := eI 3) hx hb d_M_costOf_117 rfl ?_
                  refine we_icmp_le (tgt := 132) hx hb (by constructor <;> omega) (by constructor <;> omega) d_M_costOf_118 rfl (fun hc118 => absurd hc118 (by omega)) (fun hc118 => ?_)
                  refine lv_aload_n hx hb d_M_costOf_121 rfl (lv_at hl 4 rfl) ?_
                  refine va_get (D := D) (ci := 5) (v := .ref (md 7)) (C := R_M) (T := T_M) (N := 23) hx hb htb in_M hown hK hP 0 rfl rfl 10 (by decide) (htb _ tb_598) (fun _ h9 => h9) rfl d_M_costOf_122 ?_
                  refine lv_iload_n hx hb d_M_costOf_125 rfl (lv_at hl 5 rfl) ?_
                  refine lv_iconst (v := eI 4) hx hb d_M_costOf_126 rfl ?_
                  refine we_isub hx hb d_M_costOf_127 ?_
                  refine we_iald hx hb hK hP 7 0 rfl rfl 1 rfl (by decide) (by decide) d_M_costOf_128 ?_
                  refine lv_goto (tgt := 147) hx hb d_M_costOf_129 rfl ?_
                  refine lv_istore hx hb d_M_costOf_147 hl (by decide) rfl (fun ls hl => ?_)
                  have hl : lv_has ls 9 [(8, .int (eI (pr 1))), (5, .int (eI (eh_wy2 ln lo9 (i - lo9)))), (7, .int (eI ((hi9 : Nat) : Int))), (6, .int (eI ((lo9 : Nat) : Int))), (0, .ref (md 0)), (1, .int (eI ((5 : Nat) : Int))), (2, .int (eI ((si : Nat) : Int)))] := hl
                  refine lv_iload hx hb d_M_costOf_149 (lv_at hl 1 rfl) ?_
                  refine lv_aload_n hx hb d_M_costOf_151 rfl (lv_at hl 4 rfl) ?_
                  refine va_get (D := D) (ci := 5) (v := .int (eI ra)) (C := R_M) (T := T_M) (N := 23) hx hb htb in_M hown hK hP 0 rfl rfl 6 (by decide) (htb _ tb_594) (fun _ h9 => h9) rfl d_M_costOf_152 ?_
                  refine we_imul hx hb d_M_costOf_155 ?_
                  refine lv_iload hx hb d_M_costOf_156 (lv_at hl 0 rfl) ?_
                  refine we_iadd hx hb d_M_costOf_158 ?_
                  have hres : ((((eh_wy2 ln lo9 (i - lo9)) * ra) + (pr 1)) : Int) = (eh_ku n ra ln cb ys yp 5 si) := by
                    rw [hku, show hi9 - lo9 = i - lo9 by omega, Int.mul_comm ra]
                    rw [if_pos (by omega)]
                    have hy := hM.2.1 1 (by omega)
                    have ho := hso
                    have hv9 : eh_so n ys 5 = ys 1 := rfl
                    show _ = _ + yp 1
                    omega
                  rw [hres]
                  subst hQ
                  exact W.iret hx hb hrt (fun t9 ht hW => ⟨rfl, ht⟩) (fun q h => by cases h) d_M_costOf_159
              | succ q ih =>
                intro i ls hq h1 h2 hop hl
                have hcb := hE.2.2.2.2.1 i (by omega)
                have hwb := eh_wy2_b hE lo9 (i - lo9) (by omega)
                refine lv_iload hx hb d_M_costOf_69 (lv_at hl 0 rfl) ?_
                refine lv_iload hx hb d_M_costOf_71 (lv_at hl 2 rfl) ?_
                refine we_icmp_ge (tgt := 116) hx hb (by constructor <;> omega) (by constructor <;> omega) d_M_costOf_73 rfl (fun hc73 => absurd hc73 (by omega)) (fun hc73 => ?_)
                refine lv_aload_n hx hb d_M_costOf_76 rfl (lv_at hl 4 rfl) ?_
                refine va_get (D := D) (ci := 5) (v := .ref (md 3)) (C := R_M) (T := T_M) (N := 23) hx hb htb in_M hown hK hP 0 rfl rfl 4 (by decide) (htb _ tb_592) (fun _ h9 => h9) rfl d_M_costOf_77 ?_
                refine lv_iload hx hb d_M_costOf_80 (lv_at hl 0 rfl) ?_
                refine we_zald hx hb hK hP 3 2 rfl rfl i rfl (by omega) (by decide) d_M_costOf_82 ?_
                refine we_if_eq (tgt := 88) hx hb (by constructor <;> omega) d_M_costOf_83 rfl (fun hc83 => ?_) (fun hc83 => ?_)
                ·
                  refine lv_iload hx hb d_M_costOf_88 (lv_at hl 1 rfl) ?_
                  refine lv_aload_n hx hb d_M_costOf_90 rfl (lv_at hl 4 rfl) ?_
                  refine va_get (D := D) (ci := 5) (v := .ref (md 2)) (C := R_M) (T := T_M) (N := 23) hx hb htb in_M hown hK hP 0 rfl rfl 3 (by decide) (htb _ tb_591) (fun _ h9 => h9) rfl d_M_costOf_91 ?_
                  refine lv_iload hx hb d_M_costOf_94 (lv_at hl 0 rfl) ?_
                  refine we_iald hx hb hK hP 2 0 rfl rfl i rfl (by omega) (by decide) d_M_costOf_96 ?_
                  refine we_iadd hx hb d_M_costOf_97 ?_
                  refine lv_aload_n hx hb d_M_costOf_98 rfl (lv_at hl 4 rfl) ?_
                  refine va_get (D := D) (ci := 5) (v := .ref (md 2)) (C := R_M) (T := T_M) (N := 23) hx hb htb in_M hown hK hP 0 rfl rfl 3 (by decide) (htb _ tb_591) (fun _ h9 => h9) rfl d_M_costOf_99 ?_
                  refine lv_iload hx hb d_M_costOf_102 (lv_at hl 0 rfl) ?_
                  refine lv_iconst (v := eI 1) hx hb d_M_costOf_104 rfl ?_
                  refine we_iadd hx hb d_M_costOf_105 ?_
                  refine we_iald hx hb hK hP 2 0 rfl rfl (i + 1) rfl (by omega) (by decide) d_M_costOf_106 ?_
                  refine we_iadd hx hb d_M_costOf_107 ?_
                  refine lv_istore hx hb d_M_costOf_108 hl (by decide) rfl (fun ls hl => ?_)
                  have hl : lv_has ls 9 [(5, .int (eI (((eh_wy2 ln lo9 (i - lo9)) + (ln i)) + (ln (i + 1))))), (8, .int (eI ((i : Nat) : Int))), (7, .int (eI ((hi9 : Nat) : Int))), (6, .int (eI ((lo9 : Nat) : Int))), (0, .ref (md 0)), (1, .int (eI ((so : Nat) : Int))), (2, .int (eI ((si : Nat) : Int)))] := hl
                  refine lv_iinc (v := eI (((i : Nat) : Int) + 1)) hx hb d_M_costOf_110 hl (k := 1) rfl (eI_add _ _) (by decide) rfl (fun ls hl => ?_)
                  have hl : lv_has ls 9 [(8, .int (eI (((i : Nat) : Int) + 1))), (5, .int (eI (((eh_wy2 ln lo9 (i - lo9)) + (ln i)) + (ln (i + 1))))), (7, .int (eI ((hi9 : Nat) : Int))), (6, .int (eI ((lo9 : Nat) : Int))), (0, .ref (md 0)), (1, .int (eI ((so : Nat) : Int))), (2, .int (eI ((si : Nat) : Int)))] := hl
                  refine lv_goto (tgt := 69) hx hb d_M_costOf_113 rfl ?_
                  have hs9 : (((eh_wy2 ln lo9 (i - lo9)) + (ln i)) + (ln (i + 1))) = eh_wy2 ln lo9 (i + 1 - lo9) := by
                    rw [show i + 1 - lo9 = (i - lo9) + 1 by omega]
                    show _ = eh_wy2 ln lo9 (i - lo9) + (ln (lo9 + (i - lo9)) + ln (lo9 + (i - lo9) + 1))
                    rw [show lo9 + (i - lo9) = i by omega]
                    omega
                  rw [hs9] at hl
                  exact ih (i + 1) ls (by omega) (by omega) (by omega) (fun k z1 z2 => by
                    by_cases z3 : k = i
                    · subst z3; omega
                    · exact hop k z1 (by omega)) (lv_sub hl [0, 1, 2, 3, 4, 5, 6] rfl)
                ·
                  refine lv_iconst (v := eI (-1)) hx hb d_M_costOf_86 rfl ?_
                  have hres : ((-1) : Int) = (eh_ku n ra ln cb ys yp so si) := by
                    have z : eh_opb cb lo9 (hi9 - lo9) = false := by
                      cases z9 : eh_opb cb lo9 (hi9 - lo9) with
                      | false => rfl
                      | true =>
                        have z2 := (eh_opb_iff cb lo9 (hi9 - lo9)).mp z9 i (by omega) (by omega)
                        omega
                    rw [hku, if_pos z]
                  rw [hres]
                  subst hQ
                  exact W.iret hx hb hrt (fun t9 ht hW => ⟨rfl, ht⟩) (fun q h => by cases h) d_M_costOf_87
            rw [hlo2, hhi2] at hl
            have hz0 : (0 : Int) = eh_wy2 ln lo9 (lo9 - lo9) := by rw [Nat.sub_self]; rfl
            rw [hz0] at hl
            exact loop (hi9 - lo9) lo9 ls rfl (by omega) (by omega) (fun k z1 z2 => by omega) (lv_sub hl [0, 3, 1, 2, 6, 7, 8] rfl)
          ·
            refine lv_iload hx hb d_M_costOf_57 (lv_at hl 2 rfl) ?_
            refine lv_goto (tgt := 63) hx hb d_M_costOf_59 rfl ?_
            refine lv_istore hx hb d_M_costOf_63 hl (by decide) rfl (fun ls hl => ?_)
            have hl : lv_has ls 9 [(7, .int (eI ((g9 : Nat) : Int))), (6, .int (eI ((g9 : Nat) : Int))), (5, .int (eI 0)), (4, .int (eI ((g9 : Nat) : Int))), (3, .int (eI ((f9 : Nat) : Int))), (0, .ref (md 0)), (1, .int (eI ((so : Nat) : Int))), (2, .int (eI ((si : Nat) : Int)))] := hl
            refine lv_iload hx hb d_M_costOf_65 (lv_at hl 1 rfl) ?_
            refine lv_istore hx hb d_M_costOf_67 hl (by decide) rfl (fun ls hl => ?_)
            have hl : lv_has ls 9 [(8, .int (eI ((g9 : Nat) : Int))), (7, .int (eI ((g9 : Nat) : Int))), (6, .int (eI ((g9 : Nat) : Int))), (5, .int (eI 0)), (4, .int (eI ((g9 : Nat) : Int))), (3, .int (eI ((f9 : Nat) : Int))), (0, .ref (md 0)), (1, .int (eI ((so : Nat) : Int))), (2, .int (eI ((si : Nat) : Int)))] := hl
            exfalso; omega
        ·
          refine lv_iload_n hx hb d_M_costOf_43 rfl (lv_at hl 2 rfl) ?_
          refine lv_goto (tgt := 49) hx hb d_M_costOf_44 rfl ?_
          refine lv_istore hx hb d_M_costOf_49 hl (by decide) rfl (fun ls hl => ?_)
          have hl : lv_has ls 9 [(6, .int (eI ((f9 : Nat) : Int))), (5, .int (eI 0)), (4, .int (eI ((g9 : Nat) : Int))), (3, .int (eI ((f9 : Nat) : Int))), (0, .ref (md 0)), (1, .int (eI ((so : Nat) : Int))), (2, .int (eI ((si : Nat) : Int)))] := hl
          refine lv_iload_n hx hb d_M_costOf_51 rfl (lv_at hl 3 rfl) ?_
          refine lv_iload hx hb d_M_costOf_52 (lv_at hl 2 rfl) ?_
          refine we_icmp_ge (tgt := 62) hx hb (by constructor <;> omega) (by constructor <;> omega) d_M_costOf_54 rfl (fun hc54 => ?_) (fun hc54 => ?_)
          ·
            refine lv_iload_n hx hb d_M_costOf_62 rfl (lv_at hl 3 rfl) ?_
            refine lv_istore hx hb d_M_costOf_63 hl (by decide) rfl (fun ls hl => ?_)
            have hl : lv_has ls 9 [(7, .int (eI ((f9 : Nat) : Int))), (6, .int (eI ((f9 : Nat) : Int))), (5, .int (eI 0)), (4, .int (eI ((g9 : Nat) : Int))), (3, .int (eI ((f9 : Nat) : Int))), (0, .ref (md 0)), (1, .int (eI ((so : Nat) : Int))), (2, .int (eI ((si : Nat) : Int)))] := hl
            refine lv_iload hx hb d_M_costOf_65 (lv_at hl 1 rfl) ?_
            refine lv_istore hx hb d_M_costOf_67 hl (by decide) rfl (fun ls hl => ?_)
            have hl : lv_has ls 9 [(8, .int (eI ((f9 : Nat) : Int))), (7, .int (eI ((f9 : Nat) : Int))), (6, .int (eI ((f9 : Nat) : Int))), (5, .int (eI 0)), (4, .int (eI ((g9 : Nat) : Int))), (3, .int (eI ((f9 : Nat) : Int))), (0, .ref (md 0)), (1, .int (eI ((so : Nat) : Int))), (2, .int (eI ((si : Nat) : Int)))] := hl
            exfalso; omega
          ·
            refine lv_iload hx hb d_M_costOf_57 (lv_at hl 2 rfl) ?_
            refine lv_goto (tgt := 63) hx hb d_M_costOf_59 rfl ?_
            refine lv_istore hx hb d_M_costOf_63 hl (by decide) rfl (fun ls hl => ?_)
            have hl : lv_has ls 9 [(7, .int (eI ((g9 : Nat) : Int))), (6, .int (eI ((f9 : Nat) : Int))), (5, .int (eI 0)), (4, .int (eI ((g9 : Nat) : Int))), (3, .int (eI ((f9 : Nat) : Int))), (0, .ref (md 0)), (1, .int (eI ((so : Nat) : Int))), (2, .int (eI ((si : Nat) : Int)))] := hl
            refine lv_iload hx hb d_M_costOf_65 (lv_at hl 1 rfl) ?_
            refine lv_istore hx hb d_M_costOf_67 hl (by decide) rfl (fun ls hl => ?_)
            have hl : lv_has ls 9 [(8, .int (eI ((f9 : Nat) : Int))), (7, .int (eI ((g9 : Nat) : Int))), (6, .int (eI ((f9 : Nat) : Int))), (5, .int (eI 0)), (4, .int (eI ((g9 : Nat) : Int))), (3, .int (eI ((f9 : Nat) : Int))), (0, .ref (md 0)), (1, .int (eI ((so : Nat) : Int))), (2, .int (eI ((si : Nat) : Int)))] := hl
            have hlo2 : ((f9 : Nat) : Int) = ((lo9 : Nat) : Int) := by omega
            have hhi2 : ((g9 : Nat) : Int) = ((hi9 : Nat) : Int) := by omega
            have loop : ∀ (q i : Nat) (ls : Array Slot), hi9 - i = q → lo9 ≤ i → i ≤ hi9 → eh_op cb lo9 i → lv_has ls 9 [(8, .int (eI ((i : Nat) : Int))), (5, .int (eI (eh_wy2 ln lo9 (i - lo9)))), (7, .int (eI ((hi9 : Nat) : Int))), (6, .int (eI ((lo9 : Nat) : Int))), (0, .ref (md 0)), (1, .int (eI ((so : Nat) : Int))), (2, .int (eI ((si : Nat) : Int)))] → W p l e R s m args below meth c s.heap [] 0 0 Q (F0 m 69 ls []) := by
              intro q
              induction q with
              | zero =>
                intro i ls hq h1 h2 hop hl
                have hwb := eh_wy2_b hE lo9 (i - lo9) (by omega)
                have hop9 : ¬ eh_opb cb lo9 (hi9 - lo9) = false := by
                  have z := (eh_opb_iff cb lo9 (hi9 - lo9)).mpr (by rw [show lo9 + (hi9 - lo9) = i by omega]; exact hop)
                  rw [z]; decide
                rw [if_neg hop9] at hku
                rcases (show so < 4 ∨ so = 4 ∨ so = 5 by omega) with hs4 | hs4 | hs4
                ·
                  refine lv_iload hx hb d_M_costOf_69 (lv_at hl 0 rfl) ?_
                  refine lv_iload hx hb d_M_costOf_71 (lv_at hl 2 rfl) ?_
                  refine we_icmp_ge (tgt := 116) hx hb (by constructor <;> omega) (by constructor <;> omega) d_M_costOf_73 rfl (fun hc73 => ?_) (fun hc73 => absurd hc73 (by omega))
                  refine lv_iload_n hx hb d_M_costOf_116 rfl (lv_at hl 5 rfl) ?_
                  refine lv_iconst (v := eI 3) hx hb d_M_costOf_117 rfl ?_
                  refine we_icmp_le (tgt := 132) hx hb (by constructor <;> omega) (by constructor <;> omega) d_M_costOf_118 rfl (fun hc118 => ?_) (fun hc118 => absurd hc118 (by omega))
                  refine lv_iload_n hx hb d_M_costOf_132 rfl (lv_at hl 6 rfl) ?_
                  refine lv_iconst (v := eI 4) hx hb d_M_costOf_133 rfl ?_
                  refine we_icmp_ne (tgt := 146) hx hb (by constructor <;> omega) (by constructor <;> omega) d_M_costOf_134 rfl (fun hc134 => ?_) (fun hc134 => ?_)
                  ·
                    refine lv_iconst (v := eI 0) hx hb d_M_costOf_146 rfl ?_
                    refine lv_istore hx hb d_M_costOf_147 hl (by decide) rfl (fun ls hl => ?_)
                    have hl : lv_has ls 9 [(8, .int (eI 0)), (5, .int (eI (eh_wy2 ln lo9 (i - lo9)))), (7, .int (eI ((hi9 : Nat) : Int))), (6, .int (eI ((lo9 : Nat) : Int))), (0, .ref (md 0)), (1, .int (eI ((so : Nat) : Int))), (2, .int (eI ((si : Nat) : Int)))] := hl
                    refine lv_iload hx hb d_M_costOf_149 (lv_at hl 1 rfl) ?_
                    refine lv_aload_n hx hb d_M_costOf_151 rfl (lv_at hl 4 rfl) ?_
                    refine va_get (D := D) (ci := 5) (v := .int (eI ra)) (C := R_M) (T := T_M) (N := 23) hx hb htb in_M hown hK hP 0 rfl rfl 6 (by decide) (htb _ tb_594) (fun _ h9 => h9) rfl d_M_costOf_152 ?_
                    refine we_imul hx hb d_M_costOf_155 ?_
                    refine lv_iload hx hb d_M_costOf_156 (lv_at hl 0 rfl) ?_
                    refine we_iadd hx hb d_M_costOf_158 ?_
                    have hres : ((((eh_wy2 ln lo9 (i - lo9)) * ra) + 0) : Int) = (eh_ku n ra ln cb ys yp so si) := by
                      rw [hku, show hi9 - lo9 = i - lo9 by omega, Int.mul_comm ra]
                      rw [if_neg (by omega), if_neg (by omega)]
                    rw [hres]
                    subst hQ
                    exact W.iret hx hb hrt (fun t9 ht hW => ⟨rfl, ht⟩) (fun q h => by cases h) d_M_costOf_159
                  ·
                    refine lv_aload_n hx hb d_M_costOf_137 rfl (lv_at hl 4 rfl) ?_
                    refine va_get (D := D) (ci := 5) (v := .ref (md 7)) (C := R_M) (T := T_M) (N := 23) hx hb htb in_M hown hK hP 0 rfl rfl 10 (by decide) (htb _ tb_598) (fun _ h9 => h9) rfl d_M_costOf_138 ?_
                    refine lv_iconst (v := eI 2) hx hb d_M_costOf_141 rfl ?_
                    refine we_iald hx hb hK hP 7 0 rfl rfl 2 rfl (by decide) (by decide) d_M_costOf_142 ?_
                    refine lv_goto (tgt := 147) hx hb d_M_costOf_143 rfl ?_
                    refine lv_istore hx hb d_M_costOf_147 hl (by decide) rfl (fun ls hl => ?_)
                    have hl : lv_has ls 9 [(8, .int (eI (pr 2))), (5, .int (eI (eh_wy2 ln lo9 (i - lo9)))), (7, .int (eI ((hi9 : Nat) : Int))), (6, .int (eI ((lo9 : Nat) : Int))), (0, .ref (md 0)), (1, .int (eI ((so : Nat) : Int))), (2, .int (eI ((si : Nat) : Int)))] := hl
                    refine lv_iload hx hb d_M_costOf_149 (lv_at hl 1 rfl) ?_
                    refine lv_aload_n hx hb d_M_costOf_151 rfl (lv_at hl 4 rfl) ?_
                    refine va_get (D := D) (ci := 5) (v := .int (eI ra)) (C := R_M) (T := T_M) (N := 23) hx hb htb in_M hown hK hP 0 rfl rfl 6 (by decide) (htb _ tb_594) (fun _ h9 => h9) rfl d_M_costOf_152 ?_
                    refine we_imul hx hb d_M_costOf_155 ?_
                    refine lv_iload hx hb d_M_costOf_156 (lv_at hl 0 rfl) ?_
                    refine we_iadd hx hb d_M_costOf_158 ?_
                    have hres : ((((eh_wy2 ln lo9 (i - lo9)) * ra) + (pr 2)) : Int) = (eh_ku n ra ln cb ys yp so si) := by
                      rw [hku, show hi9 - lo9 = i - lo9 by omega, Int.mul_comm ra]
                      rw [if_neg (by omega), if_pos (by omega)]
                      have hy := hM.2.1 2 (by omega)
                      have hv9 : eh_si n ys 4 = ys 2 := rfl
                      have hsi4 : si = 4 := by omega
                      rw [hsi4] at hg9
                      omega
                    rw [hres]
                    subst hQ
                    exact W.iret hx hb hrt (fun t9 ht hW => ⟨rfl, ht⟩) (fun q h => by cases h) d_M_costOf_159
                ·
                  subst hs4
                  refine lv_iload hx hb d_M_costOf_69 (lv_at hl 0 rfl) ?_
                  refine lv_iload hx hb d_M_costOf_71 (lv_at hl 2 rfl) ?_
                  refine we_icmp_ge (tgt := 116) hx hb (by constructor <;> omega) (by constructor <;> omega) d_M_costOf_73 rfl (fun hc73 => ?_) (fun hc73 => absurd hc73 (by omega))
                  refine lv_iload_n hx hb d_M_costOf_116 rfl (lv_at hl 5 rfl) ?_
                  refine lv_iconst (v := eI 3) hx hb d_M_costOf_117 rfl ?_
                  refine we_icmp_le (tgt := 132) hx hb (by constructor <;> omega) (by constructor <;> omega) d_M_costOf_118 rfl (fun hc118 => absurd hc118 (by omega)) (fun hc118 => ?_)
                  refine lv_aload_n hx hb d_M_costOf_121 rfl (lv_at hl 4 rfl) ?_
                  refine va_get (D := D) (ci := 5) (v := .ref (md 7)) (C := R_M) (T := T_M) (N := 23) hx hb htb in_M hown hK hP 0 rfl rfl 10 (by decide) (htb _ tb_598) (fun _ h9 => h9) rfl d_M_costOf_122 ?_
                  refine lv_iload_n hx hb d_M_costOf_125 rfl (lv_at hl 5 rfl) ?_
                  refine lv_iconst (v := eI 4) hx hb d_M_costOf_126 rfl ?_
                  refine we_isub hx hb d_M_costOf_127 ?_
                  refine we_iald hx hb hK hP 7 0 rfl rfl 0 rfl (by decide) (by decide) d_M_costOf_128 ?_
                  refine lv_goto (tgt := 147) hx hb d_M_costOf_129 rfl ?_
                  refine lv_istore hx hb d_M_costOf_147 hl (by decide) rfl (fun ls hl => ?_)
                  have hl : lv_has ls 9 [(8, .int (eI (pr 0))), (5, .int (eI (eh_wy2 ln lo9 (i - lo9)))), (7, .int (eI ((hi9 : Nat) : Int))), (6, .int (eI ((lo9 : Nat) : Int))), (0, .ref (md 0)), (1, .int (eI ((4 : Nat) : Int))), (2, .int (eI ((si : Nat) : Int)))] := hl
                  refine lv_iload hx hb d_M_costOf_149 (lv_at hl 1 rfl) ?_
                  refine lv_aload_n hx hb d_M_costOf_151 rfl (lv_at hl 4 rfl) ?_
                  refine va_get (D := D) (ci := 5) (v := .int (eI ra)) (C := R_M) (T := T_M) (N := 23) hx hb htb in_M hown hK hP 0 rfl rfl 6 (by decide) (htb _ tb_594) (fun _ h9 => h9) rfl d_M_costOf_152 ?_
                  refine we_imul hx hb d_M_costOf_155 ?_
                  refine lv_iload hx hb d_M_costOf_156 (lv_at hl 0 rfl) ?_
                  refine we_iadd hx hb d_M_costOf_158 ?_
                  have hres : ((((eh_wy2 ln lo9 (i - lo9)) * ra) + (pr 0)) : Int) = (eh_ku n ra ln cb ys yp 4 si) := by
                    rw [hku, show hi9 - lo9 = i - lo9 by omega, Int.mul_comm ra]
                    rw [if_pos (by omega)]
                    have hy := hM.2.1 0 (by omega)
                    have ho := hso
                    have hv9 : eh_so n ys 4 = ys 0 := rfl
                    show _ = _ + yp 0
                    omega
                  rw [hres]
                  subst hQ
                  exact W.iret hx hb hrt (fun t9 ht hW => ⟨rfl, ht⟩) (fun q h => by cases h) d_M_costOf_159
                ·
                  subst hs4
                  refine lv_iload hx hb d_M_costOf_69 (lv_at hl 0 rfl) ?_
                  refine lv_iload hx hb d_M_costOf_71 (lv_at hl 2 rfl) ?_
                  refine we_icmp_ge (tgt := 116) hx hb (by constructor <;> omega) (by constructor <;> omega) d_M_costOf_73 rfl (fun hc73 => ?_) (fun hc73 => absurd hc73 (by omega))
                  refine lv_iload_n hx hb d_M_costOf_116 rfl (lv_at hl 5 rfl) ?_
                  refine lv_iconst (v := eI 3) hx hb d_M_costOf_117 rfl ?_
                  refine we_icmp_le (tgt := 132) hx hb (by constructor <;> omega) (by constructor <;> omega) d_M_costOf_118 rfl (fun hc118 => absurd hc118 (by omega)) (fun hc118 => ?_)
                  refine lv_aload_n hx hb d_M_costOf_121 rfl (lv_at hl 4 rfl) ?_
                  refine va_get (D := D) (ci := 5) (v := .ref (md 7)) (C := R_M) (T := T_M) (N := 23) hx hb htb in_M hown hK hP 0 rfl rfl 10 (by decide) (htb _ tb_598) (fun _ h9 => h9) rfl d_M_costOf_122 ?_
                  refine lv_iload_n hx hb d_M_costOf_125 rfl (lv_at hl 5 rfl) ?_
                  refine lv_iconst (v := eI 4) hx hb d_M_costOf_126 rfl ?_
                  refine we_isub hx hb d_M_costOf_127 ?_
                  refine we_iald hx hb hK hP 7 0 rfl rfl 1 rfl (by decide) (by decide) d_M_costOf_128 ?_
                  refine lv_goto (tgt := 147) hx hb d_M_costOf_129 rfl ?_
                  refine lv_istore hx hb d_M_costOf_147 hl (by decide) rfl (fun ls hl => ?_)
                  have hl : lv_has ls 9 [(8, .int (eI (pr 1))), (5, .int (eI (eh_wy2 ln lo9 (i - lo9)))), (7, .int (eI ((hi9 : Nat) : Int))), (6, .int (eI ((lo9 : Nat) : Int))), (0, .ref (md 0)), (1, .int (eI ((5 : Nat) : Int))), (2, .int (eI ((si : Nat) : Int)))] := hl
                  refine lv_iload hx hb d_M_costOf_149 (lv_at hl 1 rfl) ?_
                  refine lv_aload_n hx hb d_M_costOf_151 rfl (lv_at hl 4 rfl) ?_
                  refine va_get (D := D) (ci := 5) (v := .int (eI ra)) (C := R_M) (T := T_M) (N := 23) hx hb htb in_M hown hK hP 0 rfl rfl 6 (by decide) (htb _ tb_594) (fun _ h9 => h9) rfl d_M_costOf_152 ?_
                  refine we_imul hx hb d_M_costOf_155 ?_
                  refine lv_iload hx hb d_M_costOf_156 (lv_at hl 0 rfl) ?_
                  refine we_iadd hx hb d_M_costOf_158 ?_
                  have hres : ((((eh_wy2 ln lo9 (i - lo9)) * ra) + (pr 1)) : Int) = (eh_ku n ra ln cb ys yp 5 si) := by
                    rw [hku, show hi9 - lo9 = i - lo9 by omega, Int.mul_comm ra]
                    rw [if_pos (by omega)]
                    have hy := hM.2.1 1 (by omega)
                    have ho := hso
                    have hv9 : eh_so n ys 5 = ys 1 := rfl
                    show _ = _ + yp 1
                    omega
                  rw [hres]
                  subst hQ
                  exact W.iret hx hb hrt (fun t9 ht hW => ⟨rfl, ht⟩) (fun q h => by cases h) d_M_costOf_159
              | succ q ih =>
                intro i ls hq h1 h2 hop hl
                have hcb := hE.2.2.2.2.1 i (by omega)
                have hwb := eh_wy2_b hE lo9 (i - lo9) (by omega)
                refine lv_iload hx hb d_M_costOf_69 (lv_at hl 0 rfl) ?_
                refine lv_iload hx hb d_M_costOf_71 (lv_at hl 2 rfl) ?_
                refine we_icmp_ge (tgt := 116) hx hb (by constructor <;> omega) (by constructor <;> omega) d_M_costOf_73 rfl (fun hc73 => absurd hc73 (by omega)) (fun hc73 => ?_)
                refine lv_aload_n hx hb d_M_costOf_76 rfl (lv_at hl 4 rfl) ?_
                refine va_get (D := D) (ci := 5) (v := .ref (md 3)) (C := R_M) (T := T_M) (N := 23) hx hb htb in_M hown hK hP 0 rfl rfl 4 (by decide) (htb _ tb_592) (fun _ h9 => h9) rfl d_M_costOf_77 ?_
                refine lv_iload hx hb d_M_costOf_80 (lv_at hl 0 rfl) ?_
                refine we_zald hx hb hK hP 3 2 rfl rfl i rfl (by omega) (by decide) d_M_costOf_82 ?_
                refine we_if_eq (tgt := 88) hx hb (by constructor <;> omega) d_M_costOf_83 rfl (fun hc83 => ?_) (fun hc83 => ?_)
                ·
                  refine lv_iload hx hb d_M_costOf_88 (lv_at hl 1 rfl) ?_
                  refine lv_aload_n hx hb d_M_costOf_90 rfl (lv_at hl 4 rfl) ?_
                  refine va_get (D := D) (ci := 5) (v := .ref (md 2)) (C := R_M) (T := T_M) (N := 23) hx hb htb in_M hown hK hP 0 rfl rfl 3 (by decide) (htb _ tb_591) (fun _ h9 => h9) rfl d_M_costOf_91 ?_
                  refine lv_iload hx hb d_M_costOf_94 (lv_at hl 0 rfl) ?_
                  refine we_iald hx hb hK hP 2 0 rfl rfl i rfl (by omega) (by decide) d_M_costOf_96 ?_
                  refine we_iadd hx hb d_M_costOf_97 ?_
                  refine lv_aload_n hx hb d_M_costOf_98 rfl (lv_at hl 4 rfl) ?_
                  refine va_get (D := D) (ci := 5) (v := .ref (md 2)) (C := R_M) (T := T_M) (N := 23) hx hb htb in_M hown hK hP 0 rfl rfl 3 (by decide) (htb _ tb_591) (fun _ h9 => h9) rfl d_M_costOf_99 ?_
                  refine lv_iload hx hb d_M_costOf_102 (lv_at hl 0 rfl) ?_
                  refine lv_iconst (v := eI 1) hx hb d_M_costOf_104 rfl ?_
                  refine we_iadd hx hb d_M_costOf_105 ?_
                  refine we_iald hx hb hK hP 2 0 rfl rfl (i + 1) rfl (by omega) (by decide) d_M_costOf_106 ?_
                  refine we_iadd hx hb d_M_costOf_107 ?_
                  refine lv_istore hx hb d_M_costOf_108 hl (by decide) rfl (fun ls hl => ?_)
                  have hl : lv_has ls 9 [(5, .int (eI (((eh_wy2 ln lo9 (i - lo9)) + (ln i)) + (ln (i + 1))))), (8, .int (eI ((i : Nat) : Int))), (7, .int (eI ((hi9 : Nat) : Int))), (6, .int (eI ((lo9 : Nat) : Int))), (0, .ref (md 0)), (1, .int (eI ((so : Nat) : Int))), (2, .int (eI ((si : Nat) : Int)))] := hl
                  refine lv_iinc (v := eI (((i : Nat) : Int) + 1)) hx hb d_M_costOf_110 hl (k := 1) rfl (eI_add _ _) (by decide) rfl (fun ls hl => ?_)
                  have hl : lv_has ls 9 [(8, .int (eI (((i : Nat) : Int) + 1))), (5, .int (eI (((eh_wy2 ln lo9 (i - lo9)) + (ln i)) + (ln (i + 1))))), (7, .int (eI ((hi9 : Nat) : Int))), (6, .int (eI ((lo9 : Nat) : Int))), (0, .ref (md 0)), (1, .int (eI ((so : Nat) : Int))), (2, .int (eI ((si : Nat) : Int)))] := hl
                  refine lv_goto (tgt := 69) hx hb d_M_costOf_113 rfl ?_
                  have hs9 : (((eh_wy2 ln lo9 (i - lo9)) + (ln i)) + (ln (i + 1))) = eh_wy2 ln lo9 (i + 1 - lo9) := by
                    rw [show i + 1 - lo9 = (i - lo9) + 1 by omega]
                    show _ = eh_wy2 ln lo9 (i - lo9) + (ln (lo9 + (i - lo9)) + ln (lo9 + (i - lo9) + 1))
                    rw [show lo9 + (i - lo9) = i by omega]
                    omega
                  rw [hs9] at hl
                  exact ih (i + 1) ls (by omega) (by omega) (by omega) (fun k z1 z2 => by
                    by_cases z3 : k = i
                    · subst z3; omega
                    · exact hop k z1 (by omega)) (lv_sub hl [0, 1, 2, 3, 4, 5, 6] rfl)
                ·
                  refine lv_iconst (v := eI (-1)) hx hb d_M_costOf_86 rfl ?_
                  have hres : ((-1) : Int) = (eh_ku n ra ln cb ys yp so si) := by
                    have z : eh_opb cb lo9 (hi9 - lo9) = false := by
                      cases z9 : eh_opb cb lo9 (hi9 - lo9) with
                      | false => rfl
                      | true =>
                        have z2 := (eh_opb_iff cb lo9 (hi9 - lo9)).mp z9 i (by omega) (by omega)
                        omega
                    rw [hku, if_pos z]
                  rw [hres]
                  subst hQ
                  exact W.iret hx hb hrt (fun t9 ht hW => ⟨rfl, ht⟩) (fun q h => by cases h) d_M_costOf_87
            rw [hlo2, hhi2] at hl
            have hz0 : (0 : Int) = eh_wy2 ln lo9 (lo9 - lo9) := by rw [Nat.sub_self]; rfl
            rw [hz0] at hl
            exact loop (hi9 - lo9) lo9 ls rfl (by omega) (by omega) (fun k z1 z2 => by omega) (lv_sub hl [0, 3, 1, 2, 6, 7, 8] rfl)
      ·
        refine lv_iload_n hx hb d_M_costOf_27 rfl (lv_at hl 4 rfl) ?_
        refine lv_iconst (v := eI 4) hx hb d_M_costOf_28 rfl ?_
        refine we_icmp_ne (tgt := 34) hx hb (by constructor <;> omega) (by constructor <;> omega) d_M_costOf_29 rfl (fun hc29 => ?_) (fun hc29 => ?_)
        ·
          obtain ⟨f9, hf9⟩ : ∃ f : Nat, (eh_so n ys so) = (f : Int) := Int.eq_ofNat_of_zero_le (by omega)
          obtain ⟨g9, hg9⟩ : ∃ g : Nat, (eh_si n ys si) = (g : Int) := Int.eq_ofNat_of_zero_le (by omega)
          rw [hf9, hg9] at hl
          have h49 : ¬ (4 ≤ so ∧ si = 4) := by omega
          obtain ⟨lo9, hlo⟩ : ∃ q : Nat, q = min f9 g9 := ⟨_, rfl⟩
          obtain ⟨hi9, hhi⟩ : ∃ q : Nat, q = max f9 g9 := ⟨_, rfl⟩
          have hku := eh_ku_2 (n := n) (ra := ra) (ln := ln) (cb := cb) (ys := ys) (yp := yp) hf9 hg9 h49
          rw [← hlo, ← hhi] at hku
          refine lv_iconst (v := eI 0) hx hb d_M_costOf_34 rfl ?_
          refine lv_istore hx hb d_M_costOf_35 hl (by decide) rfl (fun ls hl => ?_)
          have hl : lv_has ls 9 [(5, .int (eI 0)), (4, .int (eI ((g9 : Nat) : Int))), (3, .int (eI ((f9 : Nat) : Int))), (0, .ref (md 0)), (1, .int (eI ((so : Nat) : Int))), (2, .int (eI ((si : Nat) : Int)))] := hl
          refine lv_iload_n hx hb d_M_costOf_37 rfl (lv_at hl 2 rfl) ?_
          refine lv_iload hx hb d_M_costOf_38 (lv_at hl 1 rfl) ?_
          refine we_icmp_ge (tgt := 47) hx hb (by constructor <;> omega) (by constructor <;> omega) d_M_costOf_40 rfl (fun hc40 => ?_) (fun hc40 => ?_)
          ·
            refine lv_iload hx hb d_M_costOf_47 (lv_at hl 1 rfl) ?_
            refine lv_istore hx hb d_M_costOf_49 hl (by decide) rfl (fun ls hl => ?_)
            have hl : lv_has ls 9 [(6, .int (eI ((g9 : Nat) : Int))), (5, .int (eI 0)), (4, .int (eI ((g9 : Nat) : Int))), (3, .int (eI ((f9 : Nat) : Int))), (0, .ref (md 0)), (1, .int (eI ((so : Nat) : Int))), (2, .int (eI ((si : Nat) : Int)))] := hl
            refine lv_iload_n hx hb d_M_costOf_51 rfl (lv_at hl 3 rfl) ?_
            refine lv_iload hx hb d_M_costOf_52 (lv_at hl 2 rfl) ?_
            refine we_icmp_ge (tgt := 62) hx hb (by constructor <;> omega) (by constructor <;> omega) d_M_costOf_54 rfl (fun hc54 => ?_) (fun hc54 => ?_)
            ·
              refine lv_iload_n hx hb d_M_costOf_62 rfl (lv_at hl 3 rfl) ?_
              refine lv_istore hx hb d_M_costOf_63 hl (by decide) rfl (fun ls hl => ?_)
              have hl : lv_has ls 9 [(7, .int (eI ((f9 : Nat) : Int))), (6, .int (eI ((g9 : Nat) : Int))), (5, .int (eI 0)), (4, .int (eI ((g9 : Nat) : Int))), (3, .int (eI ((f9 : Nat) : Int))), (0, .ref (md 0)), (1, .int (eI ((so : Nat) : Int))), (2, .int (eI ((si : Nat) : Int)))] := hl
              refine lv_iload hx hb d_M_costOf_65 (lv_at hl 1 rfl) ?_
              refine lv_istore hx hb d_M_costOf_67 hl (by decide) rfl (fun ls hl => ?_)
              have hl : lv_has ls 9 [(8, .int (eI ((g9 : Nat) : Int))), (7, .int (eI ((f9 : Nat) : Int))), (6, .int (eI ((g9 : Nat) : Int))), (5, .int (eI 0)), (4, .int (eI ((g9 : Nat) : Int))), (3, .int (eI ((f9 : Nat) : Int))), (0, .ref (md 0)), (1, .int (eI ((so : Nat) : Int))), (2, .int (eI ((si : Nat) : Int)))] := hl
              have hlo2 : ((g9 : Nat) : Int) = ((lo9 : Nat) : Int) := by omega
              have hhi2 : ((f9 : Nat) : Int) = ((hi9 : Nat) : Int) := by omega
              have loop : ∀ (q i : Nat) (ls : Array Slot), hi9 - i = q → lo9 ≤ i → i ≤ hi9 → eh_op cb lo9 i → lv_has ls 9 [(8, .int (eI ((i : Nat) : Int))), (5, .int (eI (eh_wy2 ln lo9 (i - lo9)))), (7, .int (eI ((hi9 : Nat) : Int))), (6, .int (eI ((lo9 : Nat) : Int))), (0, .ref (md 0)), (1, .int (eI ((so : Nat) : Int))), (2, .int (eI ((si : Nat) : Int)))] → W p l e R s m args below meth c s.heap [] 0 0 Q (F0 m 69 ls []) := by
                intro q
                induction q with
                | zero =>
                  intro i ls hq h1 h2 hop hl
                  have hwb := eh_wy2_b hE lo9 (i - lo9) (by omega)
                  have hop9 : ¬ eh_opb cb lo9 (hi9 - lo9) = false := by
                    have z := (eh_opb_iff cb lo9 (hi9 - lo9)).mpr (by rw [show lo9 + (hi9 - lo9) = i by omega]; exact hop)
                    rw [z]; decide
                  rw [if_neg hop9] at hku
                  rcases (show so < 4 ∨ so = 4 ∨ so = 5 by omega) with hs4 | hs4 | hs4
                  ·
                    refine lv_iload hx hb d_M_costOf_69 (lv_at hl 0 rfl) ?_
                    refine lv_iload hx hb d_M_costOf_71 (lv_at hl 2 rfl) ?_
                    refine we_icmp_ge (tgt := 116) hx hb (by constructor <;> omega) (by constructor <;> omega) d_M_costOf_73 rfl (fun hc73 => ?_) (fun hc73 => absurd hc73 (by omega))
                    refine lv_iload_n hx hb d_M_costOf_116 rfl (lv_at hl 5 rfl) ?_
                    refine lv_iconst (v := eI 3) hx hb d_M_costOf_117 rfl ?_
                    refine we_icmp_le (tgt := 132) hx hb (by constructor <;> omega) (by constructor <;> omega) d_M_costOf_118 rfl (fun hc118 => ?_) (fun hc118 => absurd hc118 (by omega))
                    refine lv_iload_n hx hb d_M_costOf_132 rfl (lv_at hl 6 rfl) ?_
                    refine lv_iconst (v := eI 4) hx hb d_M_costOf_133 rfl ?_
                    refine we_icmp_ne (tgt := 146) hx hb (by constructor <;> omega) (by constructor <;> omega) d_M_costOf_134 rfl (fun hc134 => ?_) (fun hc134 => ?_)
                    ·
                      refine lv_iconst (v := eI 0) hx hb d_M_costOf_146 rfl ?_
                      refine lv_istore hx hb d_M_costOf_147 hl (by decide) rfl (fun ls hl => ?_)
                      have hl : lv_has ls 9 [(8, .int (eI 0)), (5, .int (eI (eh_wy2 ln lo9 (i - lo9)))), (7, .int (eI ((hi9 : Nat) : Int))), (6, .int (eI ((lo9 : Nat) : Int))), (0, .ref (md 0)), (1, .int (eI ((so : Nat) : Int))), (2, .int (eI ((si : Nat) : Int)))] := hl
                      refine lv_iload hx hb d_M_costOf_149 (lv_at hl 1 rfl) ?_
                      refine lv_aload_n hx hb d_M_costOf_151 rfl (lv_at hl 4 rfl) ?_
                      refine va_get (D := D) (ci := 5) (v := .int (eI ra)) (C := R_M) (T := T_M) (N := 23) hx hb htb in_M hown hK hP 0 rfl rfl 6 (by decide) (htb _ tb_594) (fun _ h9 => h9) rfl d_M_costOf_152 ?_
                      refine we_imul hx hb d_M_costOf_155 ?_
                      refine lv_iload hx hb d_M_costOf_156 (lv_at hl 0 rfl) ?_
                      refine we_iadd hx hb d_M_costOf_158 ?_
                      have hres : ((((eh_wy2 ln lo9 (i - lo9)) * ra) + 0) : Int) = (eh_ku n ra ln cb ys yp so si) := by
                        rw [hku, show hi9 - lo9 = i - lo9 by omega, Int.mul_comm ra]
                        rw [if_neg (by omega), if_neg (by omega)]
                      rw [hres]
                      subst hQ
                      exact W.iret hx hb hrt (fun t9 ht hW => ⟨rfl, ht⟩) (fun q h => by cases h) d_M_costOf_159
                    ·
                      refine lv_aload_n hx hb d_M_costOf_137 rfl (lv_at hl 4 rfl) ?_
                      refine va_get (D := D) (ci := 5) (v := .ref (md 7)) (C := R_M) (T := T_M) (N := 23) hx hb htb in_M hown hK hP 0 rfl rfl 10 (by decide) (htb _ tb_598) (fun _ h9 => h9) rfl d_M_costOf_138 ?_
                      refine lv_iconst (v := eI 2) hx hb d_M_costOf_141 rfl ?_
                      refine we_iald hx hb hK hP 7 0 rfl rfl 2 rfl (by decide) (by decide) d_M_costOf_142 ?_
                      refine lv_goto (tgt := 147) hx hb d_M_costOf_143 rfl ?_
                      refine lv_istore hx hb d_M_costOf_147 hl (by decide) rfl (fun ls hl => ?_)
                      have hl : lv_has ls 9 [(8, .int (eI (pr 2))), (5, .int (eI (eh_wy2 ln lo9 (i - lo9)))), (7, .int (eI ((hi9 : Nat) : Int))), (6, .int (eI ((lo9 : Nat) : Int))), (0, .ref (md 0)), (1, .int (eI ((so : Nat) : Int))), (2, .int (eI ((si : Nat) : Int)))] := hl
                      refine lv_iload hx hb d_M_costOf_149 (lv_at hl 1 rfl) ?_
                      refine lv_aload_n hx hb d_M_costOf_151 rfl (lv_at hl 4 rfl) ?_
                      refine va_get (D := D) (ci := 5) (v := .int (eI ra)) (C := R_M) (T := T_M) (N := 23) hx hb htb in_M hown hK hP 0 rfl rfl 6 (by decide) (htb _ tb_594) (fun _ h9 => h9) rfl d_M_costOf_152 ?_
                      refine we_imul hx hb d_M_costOf_155 ?_
                      refine lv_iload hx hb d_M_costOf_156 (lv_at hl 0 rfl) ?_
                      refine we_iadd hx hb d_M_costOf_158 ?_
                      have hres : ((((eh_wy2 ln lo9 (i - lo9)) * ra) + (pr 2)) : Int) = (eh_ku n ra ln cb ys yp so si) := by
                        rw [hku, show hi9 - lo9 = i - lo9 by omega, Int.mul_comm ra]
                        rw [if_neg (by omega), if_pos (by omega)]
                        have hy := hM.2.1 2 (by omega)
                        have hv9 : eh_si n ys 4 = ys 2 := rfl
                        have hsi4 : si = 4 := by omega
                        rw [hsi4] at hg9
                        omega
                      rw [hres]
                      subst hQ
                      exact W.iret hx hb hrt (fun t9 ht hW => ⟨rfl, ht⟩) (fun q h => by cases h) d_M_costOf_159
                  ·
                    subst hs4
                    refine lv_iload hx hb d_M_costOf_69 (lv_at hl 0 rfl) ?_
                    refine lv_iload hx hb d_M_costOf_71 (lv_at hl 2 rfl) ?_
                    refine we_icmp_ge (tgt := 116) hx hb (by constructor <;> omega) (by constructor <;> omega) d_M_costOf_73 rfl (fun hc73 => ?_) (fun hc73 => absurd hc73 (by omega))
                    refine lv_iload_n hx hb d_M_costOf_116 rfl (lv_at hl 5 rfl) ?_
                    refine lv_iconst (v := eI 3) hx hb d_M_costOf_117 rfl ?_
                    refine we_icmp_le (tgt := 132) hx hb (by constructor <;> omega) (by constructor <;> omega) d_M_costOf_118 rfl (fun hc118 => absurd hc118 (by omega)) (fun hc118 => ?_)
                    refine lv_aload_n hx hb d_M_costOf_121 rfl (lv_at hl 4 rfl) ?_
                    refine va_get (D := D) (ci := 5) (v := .ref (md 7)) (C := R_M) (T := T_M) (N := 23) hx hb htb in_M hown hK hP 0 rfl rfl 10 (by decide) (htb _ tb_598) (fun _ h9 => h9) rfl d_M_costOf_122 ?_
                    refine lv_iload_n hx hb d_M_costOf_125 rfl (lv_at hl 5 rfl) ?_
                    refine lv_iconst (v := eI 4) hx hb d_M_costOf_126 rfl ?_
                    refine we_isub hx hb d_M_costOf_127 ?_
                    refine we_iald hx hb hK hP 7 0 rfl rfl 0 rfl (by decide) (by decide) d_M_costOf_128 ?_
                    refine lv_goto (tgt := 147) hx hb d_M_costOf_129 rfl ?_
                    refine lv_istore hx hb d_M_costOf_147 hl (by decide) rfl (fun ls hl => ?_)
                    have hl : lv_has ls 9 [(8, .int (eI (pr 0))), (5, .int (eI (eh_wy2 ln lo9 (i - lo9)))), (7, .int (eI ((hi9 : Nat) : Int))), (6, .int (eI ((lo9 : Nat) : Int))), (0, .ref (md 0)), (1, .int (eI ((4 : Nat) : Int))), (2, .int (eI ((si : Nat) : Int)))] := hl
                    refine lv_iload hx hb d_M_costOf_149 (lv_at hl 1 rfl) ?_
                    refine lv_aload_n hx hb d_M_costOf_151 rfl (lv_at hl 4 rfl) ?_
                    refine va_get (D := D) (ci := 5) (v := .int (eI ra)) (C := R_M) (T := T_M) (N := 23) hx hb htb in_M hown hK hP 0 rfl rfl 6 (by decide) (htb _ tb_594) (fun _ h9 => h9) rfl d_M_costOf_152 ?_
                    refine we_imul hx hb d_M_costOf_155 ?_
                    refine lv_iload hx hb d_M_costOf_156 (lv_at hl 0 rfl) ?_
                    refine we_iadd hx hb d_M_costOf_158 ?_
                    have hres : ((((eh_wy2 ln lo9 (i - lo9)) * ra) + (pr 0)) : Int) = (eh_ku n ra ln cb ys yp 4 si) := by
                      rw [hku, show hi9 - lo9 = i - lo9 by omega, Int.mul_comm ra]
                      rw [if_pos (by omega)]
                      have hy := hM.2.1 0 (by omega)
                      have ho := hso
                      have hv9 : eh_so n ys 4 = ys 0 := rfl
                      show _ = _ + yp 0
                      omega
                    rw [hres]
                    subst hQ
                    exact W.iret hx hb hrt (fun t9 ht hW => ⟨rfl, ht⟩) (fun q h => by cases h) d_M_costOf_159
                  ·
                    subst hs4
                    refine lv_iload hx hb d_M_costOf_69 (lv_at hl 0 rfl) ?_
                    refine lv_iload hx hb d_M_costOf_71 (lv_at hl 2 rfl) ?_
                    refine we_icmp_ge (tgt := 116) hx hb (by constructor <;> omega) (by constructor <;> omega) d_M_costOf_73 rfl (fun hc73 => ?_) (fun hc73 => absurd hc73 (by omega))
                    refine lv_iload_n hx hb d_M_costOf_116 rfl (lv_at hl 5 rfl) ?_
                    refine lv_iconst (v := eI 3) hx hb d_M_costOf_117 rfl ?_
                    refine we_icmp_le (tgt := 132) hx hb (by constructor <;> omega) (by constructor <;> omega) d_M_costOf_118 rfl (fun hc118 => absurd hc118 (by omega)) (fun hc118 => ?_)
                    refine lv_aload_n hx hb d_M_costOf_121 rfl (lv_at hl 4 rfl) ?_
                    refine va_get (D := D) (ci := 5) (v := .ref (md 7)) (C := R_M) (T := T_M) (N := 23) hx hb htb in_M hown hK hP 0 rfl rfl 10 (by decide) (htb _ tb_598) (fun _ h9 => h9) rfl d_M_costOf_122 ?_
                    refine lv_iload_n hx hb d_M_costOf_125 rfl (lv_at hl 5 rfl) ?_
                    refine lv_iconst (v := eI 4) hx hb d_M_costOf_126 rfl ?_
                    refine we_isub hx hb d_M_costOf_127 ?_
                    refine we_iald hx hb hK hP 7 0 rfl rfl 1 rfl (by decide) (by decide) d_M_costOf_128 ?_
                    refine lv_goto (tgt := 147) hx hb d_M_costOf_129 rfl ?_
                    refine lv_istore hx hb d_M_costOf_147 hl (by decide) rfl (fun ls hl => ?_)
                    have hl : lv_has ls 9 [(8, .int (eI (pr 1))), (5, .int (eI (eh_wy2 ln lo9 (i - lo9)))), (7, .int (eI ((hi9 : Nat) : Int))), (6, .int (eI ((lo9 : Nat) : Int))), (0, .ref (md 0)), (1, .int (eI ((5 : Nat) : Int))), (2, .int (eI ((si : Nat) : Int)))] := hl
                    refine lv_iload hx hb d_M_costOf_149 (lv_at hl 1 rfl) ?_
                    refine lv_aload_n hx hb d_M_costOf_151 rfl (lv_at hl 4 rfl) ?_
                    refine va_get (D := D) (ci := 5) (v := .int (eI ra)) (C := R_M) (T := T_M) (N := 23) hx hb htb in_M hown hK hP 0 rfl rfl 6 (by decide) (htb _ tb_594) (fun _ h9 => h9) rfl d_M_costOf_152 ?_
                    refine we_imul hx hb d_M_costOf_155 ?_
                    refine lv_iload hx hb d_M_costOf_156 (lv_at hl 0 rfl) ?_
                    refine we_iadd hx hb d_M_costOf_158 ?_
                    have hres : ((((eh_wy2 ln lo9 (i - lo9)) * ra) + (pr 1)) : Int) = (eh_ku n ra ln cb ys yp 5 si) := by
                      rw [hku, show hi9 - lo9 = i - lo9 by omega, Int.mul_comm ra]
                      rw [if_pos (by omega)]
                      have hy := hM.2.1 1 (by omega)
                      have ho := hso
                      have hv9 : eh_so n ys 5 = ys 1 := rfl
                      show _ = _ + yp 1
                      omega
                    rw [hres]
                    subst hQ
                    exact W.iret hx hb hrt (fun t9 ht hW => ⟨rfl, ht⟩) (fun q h => by cases h) d_M_costOf_159
                | succ q ih =>
                  intro i ls hq h1 h2 hop hl
                  have hcb := hE.2.2.2.2.1 i (by omega)
                  have hwb := eh_wy2_b hE lo9 (i - lo9) (by omega)
                  refine lv_iload hx hb d_M_costOf_69 (lv_at hl 0 rfl) ?_
                  refine lv_iload hx hb d_M_costOf_71 (lv_at hl 2 rfl) ?_
                  refine we_icmp_ge (tgt := 116) hx hb (by constructor <;> omega) (by constructor <;> omega) d_M_costOf_73 rfl (fun hc73 => absurd hc73 (by omega)) (fun hc73 => ?_)
                  refine lv_aload_n hx hb d_M_costOf_76 rfl (lv_at hl 4 rfl) ?_
                  refine va_get (D := D) (ci := 5) (v := .ref (md 3)) (C := R_M) (T := T_M) (N := 23) hx hb htb in_M hown hK hP 0 rfl rfl 4 (by decide) (htb _ tb_592) (fun _ h9 => h9) rfl d_M_costOf_77 ?_
                  refine lv_iload hx hb d_M_costOf_80 (lv_at hl 0 rfl) ?_
                  refine we_zald hx hb hK hP 3 2 rfl rfl i rfl (by omega) (by decide) d_M_costOf_82 ?_
                  refine we_if_eq (tgt := 88) hx hb (by constructor <;> omega) d_M_costOf_83 rfl (fun hc83 => ?_) (fun hc83 => ?_)
                  ·
                    refine lv_iload hx hb d_M_costOf_88 (lv_at hl 1 rfl) ?_
                    refine lv_aload_n hx hb d_M_costOf_90 rfl (lv_at hl 4 rfl) ?_
                    refine va_get (D := D) (ci := 5) (v := .ref (md 2)) (C := R_M) (T := T_M) (N := 23) hx hb htb in_M hown hK hP 0 rfl rfl 3 (by decide) (htb _ tb_591) (fun _ h9 => h9) rfl d_M_costOf_91 ?_
                    refine lv_iload hx hb d_M_costOf_94 (lv_at hl 0 rfl) ?_
                    refine we_iald hx hb hK hP 2 0 rfl rfl i rfl (by omega) (by decide) d_M_costOf_96 ?_
                    refine we_iadd hx hb d_M_costOf_97 ?_
                    refine lv_aload_n hx hb d_M_costOf_98 rfl (lv_at hl 4 rfl) ?_
                    refine va_get (D := D) (ci := 5) (v := .ref (md 2)) (C := R_M) (T := T_M) (N := 23) hx hb htb in_M hown hK hP 0 rfl rfl 3 (by decide) (htb _ tb_591) (fun _ h9 => h9) rfl d_M_costOf_99 ?_
                    refine lv_iload hx hb d_M_costOf_102 (lv_at hl 0 rfl) ?_
                    refine lv_iconst (v := eI 1) hx hb d_M_costOf_104 rfl ?_
                    refine we_iadd hx hb d_M_costOf_105 ?_
                    refine we_iald hx hb hK hP 2 0 rfl rfl (i + 1) rfl (by omega) (by decide) d_M_costOf_106 ?_
                    refine we_iadd hx hb d_M_costOf_107 ?_
                    refine lv_istore hx hb d_M_costOf_108 hl (by decide) rfl (fun ls hl => ?_)
                    have hl : lv_has ls 9 [(5, .int (eI (((eh_wy2 ln lo9 (i - lo9)) + (ln i)) + (ln (i + 1))))), (8, .int (eI ((i : Nat) : Int))), (7, .int (eI ((hi9 : Nat) : Int))), (6, .int (eI ((lo9 : Nat) : Int))), (0, .ref (md 0)), (1, .int (eI ((so : Nat) : Int))), (2, .int (eI ((si : Nat) : Int)))] := hl
                    refine lv_iinc (v := eI (((i : Nat) : Int) + 1)) hx hb d_M_costOf_110 hl (k := 1) rfl (eI_add _ _) (by decide) rfl (fun ls hl => ?_)
                    have hl : lv_has ls 9 [(8, .int (eI (((i : Nat) : Int) + 1))), (5, .int (eI (((eh_wy2 ln lo9 (i - lo9)) + (ln i)) + (ln (i + 1))))), (7, .int (eI ((hi9 : Nat) : Int))), (6, .int (eI ((lo9 : Nat) : Int))), (0, .ref (md 0)), (1, .int (eI ((so : Nat) : Int))), (2, .int (eI ((si : Nat) : Int)))] := hl
                    refine lv_goto (tgt := 69) hx hb d_M_costOf_113 rfl ?_
                    have hs9 : (((eh_wy2 ln lo9 (i - lo9)) + (ln i)) + (ln (i + 1))) = eh_wy2 ln lo9 (i + 1 - lo9) := by
                      rw [show i + 1 - lo9 = (i - lo9) + 1 by omega]
                      show _ = eh_wy2 ln lo9 (i - lo9) + (ln (lo9 + (i - lo9)) + ln (lo9 + (i - lo9) + 1))
                      rw [show lo9 + (i - lo9) = i by omega]
                      omega
                    rw [hs9] at hl
                    exact ih (i + 1) ls (by omega) (by omega) (by omega) (fun k z1 z2 => by
                      by_cases z3 : k = i
                      · subst z3; omega
                      · exact hop k z1 (by omega)) (lv_sub hl [0, 1, 2, 3, 4, 5, 6] rfl)
                  ·
                    refine lv_iconst (v := eI (-1)) hx hb d_M_costOf_86 rfl ?_
                    have hres : ((-1) : Int) = (eh_ku n ra ln cb ys yp so si) := by
                      have z : eh_opb cb lo9 (hi9 - lo9) = false := by
                        cases z9 : eh_opb cb lo9 (hi9 - lo9) with
                        | false => rfl
                        | true =>
                          have z2 := (eh_opb_iff cb lo9 (hi9 - lo9)).mp z9 i (by omega) (by omega)
                          omega
                      rw [hku, if_pos z]
                    rw [hres]
                    subst hQ
                    exact W.iret hx hb hrt (fun t9 ht hW => ⟨rfl, ht⟩) (fun q h => by cases h) d_M_costOf_87
              rw [hlo2, hhi2] at hl
              have hz0 : (0 : Int) = eh_wy2 ln lo9 (lo9 - lo9) := by rw [Nat.sub_self]; rfl
              rw [hz0] at hl
              exact loop (hi9 - lo9) lo9 ls rfl (by omega) (by omega) (fun k z1 z2 => by omega) (lv_sub hl [0, 3, 1, 2, 6, 7, 8] rfl)
            ·
              refine lv_iload hx hb d_M_costOf_57 (lv_at hl 2 rfl) ?_
              refine lv_goto (tgt := 63) hx hb d_M_costOf_59 rfl ?_
              refine lv_istore hx hb d_M_costOf_63 hl (by decide) rfl (fun ls hl => ?_)
              have hl : lv_has ls 9 [(7, .int (eI ((g9 : Nat) : Int))), (6, .int (eI ((g9 : Nat) : Int))), (5, .int (eI 0)), (4, .int (eI ((g9 : Nat) : Int))), (3, .int (eI ((f9 : Nat) : Int))), (0, .ref (md 0)), (1, .int (eI ((so : Nat) : Int))), (2, .int (eI ((si : Nat) : Int)))] := hl
              refine lv_iload hx hb d_M_costOf_65 (lv_at hl 1 rfl) ?_
              refine lv_istore hx hb d_M_costOf_67 hl (by decide) rfl (fun ls hl => ?_)
              have hl : lv_has ls 9 [(8, .int (eI ((g9 : Nat) : Int))), (7, .int (eI ((g9 : Nat) : Int))), (6, .int (eI ((g9 : Nat) : Int))), (5, .int (eI 0)), (4, .int (eI ((g9 : Nat) : Int))), (3, .int (eI ((f9 : Nat) : Int))), (0, .ref (md 0)), (1, .int (eI ((so : Nat) : Int))), (2, .int (eI ((si : Nat) : Int)))] := hl
              exfalso; omega
          ·
            refine lv_iload_n hx hb d_M_costOf_43 rfl (lv_at hl 2 rfl) ?_
            refine lv_goto (tgt := 49) hx hb d_M_costOf_44 rfl ?_
            refine lv_istore hx hb d_M_costOf_49 hl (by decide) rfl (fun ls hl => ?_)
            have hl : lv_has ls 9 [(6, .int (eI ((f9 : Nat) : Int))), (5, .int (eI 0)), (4, .int (eI ((g9 : Nat) : Int))), (3, .int (eI ((f9 : Nat) : Int))), (0, .ref (md 0)), (1, .int (eI ((so : Nat) : Int))), (2, .int (eI ((si : Nat) : Int)))] := hl
            refine lv_iload_n hx hb d_M_costOf_51 rfl (lv_at hl 3 rfl) ?_
            refine lv_iload hx hb d_M_costOf_52 (lv_at hl 2 rfl) ?_
            refine we_icmp_ge (tgt := 62) hx hb (by constructor <;> omega) (by constructor <;> omega) d_M_costOf_54 rfl (fun hc54 => ?_) (fun hc54 => ?_)
            ·
              refine lv_iload_n hx hb d_M_costOf_62 rfl (lv_at hl 3 rfl) ?_
              refine lv_istore hx hb d_M_costOf_63 hl (by decide) rfl (fun ls hl => ?_)
              have hl : lv_has ls 9 [(7, .int (eI ((f9 : Nat) : Int))), (6, .int (eI ((f9 : Nat) : Int))), (5, .int (eI 0)), (4, .int (eI ((g9 : Nat) : Int))), (3, .int (eI ((f9 : Nat) : Int))), (0, .ref (md 0)), (1, .int (eI ((so : Nat) : Int))), (2, .int (eI ((si : Nat) : Int)))] := hl
              refine lv_iload hx hb d_M_costOf_65 (lv_at hl 1 rfl) ?_
              refine lv_istore hx hb d_M_costOf_67 hl (by decide) rfl (fun ls hl => ?_)
              have hl : lv_has ls 9 [(8, .int (eI ((f9 : Nat) : Int))), (7, .int (eI ((f9 : Nat) : Int))), (6, .int (eI ((f9 : Nat) : Int))), (5, .int (eI 0)), (4, .int (eI ((g9 : Nat) : Int))), (3, .int (eI ((f9 : Nat) : Int))), (0, .ref (md 0)), (1, .int (eI ((so : Nat) : Int))), (2, .int (eI ((si : Nat) : Int)))] := hl
              exfalso; omega
            ·
              refine lv_iload hx hb d_M_costOf_57 (lv_at hl 2 rfl) ?_
              refine lv_goto (tgt := 63) hx hb d_M_costOf_59 rfl ?_
              refine lv_istore hx hb d_M_costOf_63 hl (by decide) rfl (fun ls hl => ?_)
              have hl : lv_has ls 9 [(7, .int (eI ((g9 : Nat) : Int))), (6, .int (eI ((f9 : Nat) : Int))), (5, .int (eI 0)), (4, .int (eI ((g9 : Nat) : Int))), (3, .int (eI ((f9 : Nat) : Int))), (0, .ref (md 0)), (1, .int (eI ((so : Nat) : Int))), (2, .int (eI ((si : Nat) : Int)))] := hl
              refine lv_iload hx hb d_M_costOf_65 (lv_at hl 1 rfl) ?_
              refine lv_istore hx hb d_M_costOf_67 hl (by decide) rfl (fun ls hl => ?_)
              have hl : lv_has ls 9 [(8, .int (eI ((f9 : Nat) : Int))), (7, .int (eI ((g9 : Nat) : Int))), (6, .int (eI ((f9 : Nat) : Int))), (5, .int (eI 0)), (4, .int (eI ((g9 : Nat) : Int))), (3, .int (eI ((f9 : Nat) : Int))), (0, .ref (md 0)), (1, .int (eI ((so : Nat) : Int))), (2, .int (eI ((si : Nat) : Int)))] := hl
              have hlo2 : ((f9 : Nat) : Int) = ((lo9 : Nat) : Int) := by omega
              have hhi2 : ((g9 : Nat) : Int) = ((hi9 : Nat) : Int) := by omega
              have loop : ∀ (q i : Nat) (ls : Array Slot), hi9 - i = q → lo9 ≤ i → i ≤ hi9 → eh_op cb lo9 i → lv_has ls 9 [(8, .int (eI ((i : Nat) : Int))), (5, .int (eI (eh_wy2 ln lo9 (i - lo9)))), (7, .int (eI ((hi9 : Nat) : Int))), (6, .int (eI ((lo9 : Nat) : Int))), (0, .ref (md 0)), (1, .int (eI ((so : Nat) : Int))), (2, .int (eI ((si : Nat) : Int)))] → W p l e R s m args below meth c s.heap [] 0 0 Q (F0 m 69 ls []) := by
                intro q
                induction q with
                | zero =>
                  intro i ls hq h1 h2 hop hl
                  have hwb := eh_wy2_b hE lo9 (i - lo9) (by omega)
                  have hop9 : ¬ eh_opb cb lo9 (hi9 - lo9) = false := by
                    have z := (eh_opb_iff cb lo9 (hi9 - lo9)).mpr (by rw [show lo9 + (hi9 - lo9) = i by omega]; exact hop)
                    rw [z]; decide
                  rw [if_neg hop9] at hku
                  rcases (show so < 4 ∨ so = 4 ∨ so = 5 by omega) with hs4 | hs4 | hs4
                  ·
                    refine lv_iload hx hb d_M_costOf_69 (lv_at hl 0 rfl) ?_
                    refine lv_iload hx hb d_M_costOf_71 (lv_at hl 2 rfl) ?_
                    refine we_icmp_ge (tgt := 116) hx hb (by constructor <;> omega) (by constructor <;> omega) d_M_costOf_73 rfl (fun hc73 => ?_) (fun hc73 => absurd hc73 (by omega))
                    refine lv_iload_n hx hb d_M_costOf_116 rfl (lv_at hl 5 rfl) ?_
                    refine lv_iconst (v := eI 3) hx hb d_M_costOf_117 rfl ?_
                    refine we_icmp_le (tgt := 132) hx hb (by constructor <;> omega) (by constructor <;> omega) d_M_costOf_118 rfl (fun hc118 => ?_) (fun hc118 => absurd hc118 (by omega))
                    refine lv_iload_n hx hb d_M_costOf_132 rfl (lv_at hl 6 rfl) ?_
                    refine lv_iconst (v := eI 4) hx hb d_M_costOf_133 rfl ?_
                    refine we_icmp_ne (tgt := 146) hx hb (by constructor <;> omega) (by constructor <;> omega) d_M_costOf_134 rfl (fun hc134 => ?_) (fun hc134 => ?_)
                    ·
                      refine lv_iconst (v := eI 0) hx hb d_M_costOf_146 rfl ?_
                      refine lv_istore hx hb d_M_costOf_147 hl (by decide) rfl (fun ls hl => ?_)
                      have hl : lv_has ls 9 [(8, .int (eI 0)), (5, .int (eI (eh_wy2 ln lo9 (i - lo9)))), (7, .int (eI ((hi9 : Nat) : Int))), (6, .int (eI ((lo9 : Nat) : Int))), (0, .ref (md 0)), (1, .int (eI ((so : Nat) : Int))), (2, .int (eI ((si : Nat) : Int)))] := hl
                      refine lv_iload hx hb d_M_costOf_149 (lv_at hl 1 rfl) ?_
                      refine lv_aload_n hx hb d_M_costOf_151 rfl (lv_at hl 4 rfl) ?_
                      refine va_get (D := D) (ci := 5) (v := .int (eI ra)) (C := R_M) (T := T_M) (N := 23) hx hb htb in_M hown hK hP 0 rfl rfl 6 (by decide) (htb _ tb_594) (fun _ h9 => h9) rfl d_M_costOf_152 ?_
                      refine we_imul hx hb d_M_costOf_155 ?_
                      refine lv_iload hx hb d_M_costOf_156 (lv_at hl 0 rfl) ?_
                      refine we_iadd hx hb d_M_costOf_158 ?_
                      have hres : ((((eh_wy2 ln lo9 (i - lo9)) * ra) + 0) : Int) = (eh_ku n ra ln cb ys yp so si) := by
                        rw [hku, show hi9 - lo9 = i - lo9 by omega, Int.mul_comm ra]
                        rw [if_neg (by omega), if_neg (by omega)]
                      rw [hres]
                      subst hQ
                      exact W.iret hx hb hrt (fun t9 ht hW => ⟨rfl, ht⟩) (fun q h => by cases h) d_M_costOf_159
                    ·
                      refine lv_aload_n hx hb d_M_costOf_137 rfl (lv_at hl 4 rfl) ?_
                      refine va_get (D := D) (ci := 5) (v := .ref (md 7)) (C := R_M) (T := T_M) (N := 23) hx hb htb in_M hown hK hP 0 rfl rfl 10 (by decide) (htb _ tb_598) (fun _ h9 => h9) rfl d_M_costOf_138 ?_
                      refine lv_iconst (v := eI 2) hx hb d_M_costOf_141 rfl ?_
                      refine we_iald hx hb hK hP 7 0 rfl rfl 2 rfl (by decide) (by decide) d_M_costOf_142 ?_
                      refine lv_goto (tgt := 147) hx hb d_M_costOf_143 rfl ?_
                      refine lv_istore hx hb d_M_costOf_147 hl (by decide) rfl (fun ls hl => ?_)
                      have hl : lv_has ls 9 [(8, .int (eI (pr 2))), (5, .int (eI (eh_wy2 ln lo9 (i - lo9)))), (7, .int (eI ((hi9 : Nat) : Int))), (6, .int (eI ((lo9 : Nat) : Int))), (0, .ref (md 0)), (1, .int (eI ((so : Nat) : Int))), (2, .int (eI ((si : Nat) : Int)))] := hl
                      refine lv_iload hx hb d_M_costOf_149 (lv_at hl 1 rfl) ?_
                      refine lv_aload_n hx hb d_M_costOf_151 rfl (lv_at hl 4 rfl) ?_
                      refine va_get (D := D) (ci := 5) (v := .int (eI ra)) (C := R_M) (T := T_M) (N := 23) hx hb htb in_M hown hK hP 0 rfl rfl 6 (by decide) (htb _ tb_594) (fun _ h9 => h9) rfl d_M_costOf_152 ?_
                      refine we_imul hx hb d_M_costOf_155 ?_
                      refine lv_iload hx hb d_M_costOf_156 (lv_at hl 0 rfl) ?_
                      refine we_iadd hx hb d_M_costOf_158 ?_
                      have hres : ((((eh_wy2 ln lo9 (i - lo9)) * ra) + (pr 2)) : Int) = (eh_ku n ra ln cb ys yp so si) := by
                        rw [hku, show hi9 - lo9 = i - lo9 by omega, Int.mul_comm ra]
                        rw [if_neg (by omega), if_pos (by omega)]
                        have hy := hM.2.1 2 (by omega)
                        have hv9 : eh_si n ys 4 = ys 2 := rfl
                        have hsi4 : si = 4 := by omega
                        rw [hsi4] at hg9
                        omega
                      rw [hres]
                      subst hQ
                      exact W.iret hx hb hrt (fun t9 ht hW => ⟨rfl, ht⟩) (fun q h => by cases h) d_M_costOf_159
                  ·
                    subst hs4
                    refine lv_iload hx hb d_M_costOf_69 (lv_at hl 0 rfl) ?_
                    refine lv_iload hx hb d_M_costOf_71 (lv_at hl 2 rfl) ?_
                    refine we_icmp_ge (tgt := 116) hx hb (by constructor <;> omega) (by constructor <;> omega) d_M_costOf_73 rfl (fun hc73 => ?_) (fun hc73 => absurd hc73 (by omega))
                    refine lv_iload_n hx hb d_M_costOf_116 rfl (lv_at hl 5 rfl) ?_
                    refine lv_iconst (v := eI 3) hx hb d_M_costOf_117 rfl ?_
                    refine we_icmp_le (tgt := 132) hx hb (by constructor <;> omega) (by constructor <;> omega) d_M_costOf_118 rfl (fun hc118 => absurd hc118 (by omega)) (fun hc118 => ?_)
                    refine lv_aload_n hx hb d_M_costOf_121 rfl (lv_at hl 4 rfl) ?_
                    refine va_get (D := D) (ci := 5) (v := .ref (md 7)) (C := R_M) (T := T_M) (N := 23) hx hb htb in_M hown hK hP 0 rfl rfl 10 (by decide) (htb _ tb_598) (fun _ h9 => h9) rfl d_M_costOf_122 ?_
                    refine lv_iload_n hx hb d_M_costOf_125 rfl (lv_at hl 5 rfl) ?_
                    refine lv_iconst (v := eI 4) hx hb d_M_costOf_126 rfl ?_
                    refine we_isub hx hb d_M_costOf_127 ?_
                    refine we_iald hx hb hK hP 7 0 rfl rfl 0 rfl (by decide) (by decide) d_M_costOf_128 ?_
                    refine lv_goto (tgt := 147) hx hb d_M_costOf_129 rfl ?_
                    refine lv_istore hx hb d_M_costOf_147 hl (by decide) rfl (fun ls hl => ?_)
                    have hl : lv_has ls 9 [(8, .int (eI (pr 0))), (5, .int (eI (eh_wy2 ln lo9 (i - lo9)))), (7, .int (eI ((hi9 : Nat) : Int))), (6, .int (eI ((lo9 : Nat) : Int))), (0, .ref (md 0)), (1, .int (eI ((4 : Nat) : Int))), (2, .int (eI ((si : Nat) : Int)))] := hl
                    refine lv_iload hx hb d_M_costOf_149 (lv_at hl 1 rfl) ?_
                    refine lv_aload_n hx hb d_M_costOf_151 rfl (lv_at hl 4 rfl) ?_
                    refine va_get (D := D) (ci := 5) (v := .int (eI ra)) (C := R_M) (T := T_M) (N := 23) hx hb htb in_M hown hK hP 0 rfl rfl 6 (by decide) (htb _ tb_594) (fun _ h9 => h9) rfl d_M_costOf_152 ?_
                    refine we_imul hx hb d_M_costOf_155 ?_
                    refine lv_iload hx hb d_M_costOf_156 (lv_at hl 0 rfl) ?_
                    refine we_iadd hx hb d_M_costOf_158 ?_
                    have hres : ((((eh_wy2 ln lo9 (i - lo9)) * ra) + (pr 0)) : Int) = (eh_ku n ra ln cb ys yp 4 si) := by
                      rw [hku, show hi9 - lo9 = i - lo9 by omega, Int.mul_comm ra]
                      rw [if_pos (by omega)]
                      have hy := hM.2.1 0 (by omega)
                      have ho := hso
                      have hv9 : eh_so n ys 4 = ys 0 := rfl
                      show _ = _ + yp 0
                      omega
                    rw [hres]
                    subst hQ
                    exact W.iret hx hb hrt (fun t9 ht hW => ⟨rfl, ht⟩) (fun q h => by cases h) d_M_costOf_159
                  ·
                    subst hs4
                    refine lv_iload hx hb d_M_costOf_69 (lv_at hl 0 rfl) ?_
                    refine lv_iload hx hb d_M_costOf_71 (lv_at hl 2 rfl) ?_
                    refine we_icmp_ge (tgt := 116) hx hb (by constructor <;> omega) (by constructor <;> omega) d_M_costOf_73 rfl (fun hc73 => ?_) (fun hc73 => absurd hc73 (by omega))
                    refine lv_iload_n hx hb d_M_costOf_116 rfl (lv_at hl 5 rfl) ?_
                    refine lv_iconst (v := eI 3) hx hb d_M_costOf_117 rfl ?_
                    refine we_icmp_le (tgt := 132) hx hb (by constructor <;> omega) (by constructor <;> omega) d_M_costOf_118 rfl (fun hc118 => absurd hc118 (by omega)) (fun hc118 => ?_)
                    refine lv_aload_n hx hb d_M_costOf_121 rfl (lv_at hl 4 rfl) ?_
                    refine va_get (D := D) (ci := 5) (v := .ref (md 7)) (C := R_M) (T := T_M) (N := 23) hx hb htb in_M hown hK hP 0 rfl rfl 10 (by decide) (htb _ tb_598) (fun _ h9 => h9) rfl d_M_costOf_122 ?_
                    refine lv_iload_n hx hb d_M_costOf_125 rfl (lv_at hl 5 rfl) ?_
                    refine lv_iconst (v := eI 4) hx hb d_M_costOf_126 rfl ?_
                    refine we_isub hx hb d_M_costOf_127 ?_
                    refine we_iald hx hb hK hP 7 0 rfl rfl 1 rfl (by decide) (by decide) d_M_costOf_128 ?_
                    refine lv_goto (tgt := 147) hx hb d_M_costOf_129 rfl ?_
                    refine lv_istore hx hb d_M_costOf_147 hl (by decide) rfl (fun ls hl => ?_)
                    have hl : lv_has ls 9 [(8, .int (eI (pr 1))), (5, .int (eI (eh_wy2 ln lo9 (i - lo9)))), (7, .int (eI ((hi9 : Nat) : Int))), (6, .int (eI ((lo9 : Nat) : Int))), (0, .ref (md 0)), (1, .int (eI ((5 : Nat) : Int))), (2, .int (eI ((si : Nat) : Int)))] := hl
                    refine lv_iload hx hb d_M_costOf_149 (lv_at hl 1 rfl) ?_
                    refine lv_aload_n hx hb d_M_costOf_151 rfl (lv_at hl 4 rfl) ?_
                    refine va_get (D := D) (ci := 5) (v := .int (eI ra)) (C := R_M) (T := T_M) (N := 23) hx hb htb in_M hown hK hP 0 rfl rfl 6 (by decide) (htb _ tb_594) (fun _ h9 => h9) rfl d_M_costOf_152 ?_
                    refine we_imul hx hb d_M_costOf_155 ?_
                    refine lv_iload hx hb d_M_costOf_156 (lv_at hl 0 rfl) ?_
                    refine we_iadd hx hb d_M_costOf_158 ?_
                    have hres : ((((eh_wy2 ln lo9 (i - lo9)) * ra) + (pr 1)) : Int) = (eh_ku n ra ln cb ys yp 5 si) := by
                      rw [hku, show hi9 - lo9 = i - lo9 by omega, Int.mul_comm ra]
                      rw [if_pos (by omega)]
                      have hy := hM.2.1 1 (by omega)
                      have ho := hso
                      have hv9 : eh_so n ys 5 = ys 1 := rfl
                      show _ = _ + yp 1
                      omega
                    rw [hres]
                    subst hQ
                    exact W.iret hx hb hrt (fun t9 ht hW => ⟨rfl, ht⟩) (fun q h => by cases h) d_M_costOf_159
                | succ q ih =>
                  intro i ls hq h1 h2 hop hl
                  have hcb := hE.2.2.2.2.1 i (by omega)
                  have hwb := eh_wy2_b hE lo9 (i - lo9) (by omega)
                  refine lv_iload hx hb d_M_costOf_69 (lv_at hl 0 rfl) ?_
                  refine lv_iload hx hb d_M_costOf_71 (lv_at hl 2 rfl) ?_
                  refine we_icmp_ge (tgt := 116) hx hb (by constructor <;> omega) (by constructor <;> omega) d_M_costOf_73 rfl (fun hc73 => absurd hc73 (by omega)) (fun hc73 => ?_)
                  refine lv_aload_n hx hb d_M_costOf_76 rfl (lv_at hl 4 rfl) ?_
                  refine va_get (D := D) (ci := 5) (v := .ref (md 3)) (C := R_M) (T := T_M) (N := 23) hx hb htb in_M hown hK hP 0 rfl rfl 4 (by decide) (htb _ tb_592) (fun _ h9 => h9) rfl d_M_costOf_77 ?_
                  refine lv_iload hx hb d_M_costOf_80 (lv_at hl 0 rfl) ?_
                  refine we_zald hx hb hK hP 3 2 rfl rfl i rfl (by omega) (by decide) d_M_costOf_82 ?_
                  refine we_if_eq (tgt := 88) hx hb (by constructor <;> omega) d_M_costOf_83 rfl (fun hc83 => ?_) (fun hc83 => ?_)
                  ·
                    refine lv_iload hx hb d_M_costOf_88 (lv_at hl 1 rfl) ?_
                    refine lv_aload_n hx hb d_M_costOf_90 rfl (lv_at hl 4 rfl) ?_
                    refine va_get (D := D) (ci := 5) (v := .ref (md 2)) (C := R_M) (T := T_M) (N := 23) hx hb htb in_M hown hK hP 0 rfl rfl 3 (by decide) (htb _ tb_591) (fun _ h9 => h9) rfl d_M_costOf_91 ?_
                    refine lv_iload hx hb d_M_costOf_94 (lv_at hl 0 rfl) ?_
                    refine we_iald hx hb hK hP 2 0 rfl rfl i rfl (by omega) (by decide) d_M_costOf_96 ?_
                    refine we_iadd hx hb d_M_costOf_97 ?_
                    refine lv_aload_n hx hb d_M_costOf_98 rfl (lv_at hl 4 rfl) ?_
                    refine va_get (D := D) (ci := 5) (v := .ref (md 2)) (C := R_M) (T := T_M) (N := 23) hx hb htb in_M hown hK hP 0 rfl rfl 3 (by decide) (htb _ tb_591) (fun _ h9 => h9) rfl d_M_costOf_99 ?_
                    refine lv_iload hx hb d_M_costOf_102 (lv_at hl 0 rfl) ?_
                    refine lv_iconst (v := eI 1) hx hb d_M_costOf_104 rfl ?_
                    refine we_iadd hx hb d_M_costOf_105 ?_
                    refine we_iald hx hb hK hP 2 0 rfl rfl (i + 1) rfl (by omega) (by decide) d_M_costOf_106 ?_
                    refine we_iadd hx hb d_M_costOf_107 ?_
                    refine lv_istore hx hb d_M_costOf_108 hl (by decide) rfl (fun ls hl => ?_)
                    have hl : lv_has ls 9 [(5, .int (eI (((eh_wy2 ln lo9 (i - lo9)) + (ln i)) + (ln (i + 1))))), (8, .int (eI ((i : Nat) : Int))), (7, .int (eI ((hi9 : Nat) : Int))), (6, .int (eI ((lo9 : Nat) : Int))), (0, .ref (md 0)), (1, .int (eI ((so : Nat) : Int))), (2, .int (eI ((si : Nat) : Int)))] := hl
                    refine lv_iinc (v := eI (((i : Nat) : Int) + 1)) hx hb d_M_costOf_110 hl (k := 1) rfl (eI_add _ _) (by decide) rfl (fun ls hl => ?_)
                    have hl : lv_has ls 9 [(8, .int (eI (((i : Nat) : Int) + 1))), (5, .int (eI (((eh_wy2 ln lo9 (i - lo9)) + (ln i)) + (ln (i + 1))))), (7, .int (eI ((hi9 : Nat) : Int))), (6, .int (eI ((lo9 : Nat) : Int))), (0, .ref (md 0)), (1, .int (eI ((so : Nat) : Int))), (2, .int (eI ((si : Nat) : Int)))] := hl
                    refine lv_goto (tgt := 69) hx hb d_M_costOf_113 rfl ?_
                    have hs9 : (((eh_wy2 ln lo9 (i - lo9)) + (ln i)) + (ln (i + 1))) = eh_wy2 ln lo9 (i + 1 - lo9) := by
                      rw [show i + 1 - lo9 = (i - lo9) + 1 by omega]
                      show _ = eh_wy2 ln lo9 (i - lo9) + (ln (lo9 + (i - lo9)) + ln (lo9 + (i - lo9) + 1))
                      rw [show lo9 + (i - lo9) = i by omega]
                      omega
                    rw [hs9] at hl
                    exact ih (i + 1) ls (by omega) (by omega) (by omega) (fun k z1 z2 => by
                      by_cases z3 : k = i
                      · subst z3; omega
                      · exact hop k z1 (by omega)) (lv_sub hl [0, 1, 2, 3, 4, 5, 6] rfl)
                  ·
                    refine lv_iconst (v := eI (-1)) hx hb d_M_costOf_86 rfl ?_
                    have hres : ((-1) : Int) = (eh_ku n ra ln cb ys yp so si) := by
                      have z : eh_opb cb lo9 (hi9 - lo9) = false := by
                        cases z9 : eh_opb cb lo9 (hi9 - lo9) with
                        | false => rfl
                        | true =>
                          have z2 := (eh_opb_iff cb lo9 (hi9 - lo9)).mp z9 i (by omega) (by omega)
                          omega
                      rw [hku, if_pos z]
                    rw [hres]
                    subst hQ
                    exact W.iret hx hb hrt (fun t9 ht hW => ⟨rfl, ht⟩) (fun q h => by cases h) d_M_costOf_87
              rw [hlo2, hhi2] at hl
              have hz0 : (0 : Int) = eh_wy2 ln lo9 (lo9 - lo9) := by rw [Nat.sub_self]; rfl
              rw [hz0] at hl
              exact loop (hi9 - lo9) lo9 ls rfl (by omega) (by omega) (fun k z1 z2 => by omega) (lv_sub hl [0, 3, 1, 2, 6, 7, 8] rfl)
        ·
          refine lv_iconst (v := eI (-1)) hx hb d_M_costOf_32 rfl ?_
          have hres : ((-1) : Int) = (eh_ku n ra ln cb ys yp so si) := (eh_ku_1 (by omega)).symm
          rw [hres]
          subst hQ
          exact W.iret hx hb hrt (fun t9 ht hW => ⟨rfl, ht⟩) (fun q h => by cases h) d_M_costOf_33
