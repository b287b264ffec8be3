abbrev c_M_count : ByteArray := prog_7_method_48_code
def y_M_count : MethodName := ⟨"EarthHaulsModel", "count", "(I)I"⟩
abbrev k_M_count : Cond := .code y_M_count c_M_count 6 (some .int)
theorem kin_M_count : k_M_count ∈ ew_t := tb_847
theorem dv_M_count : eh_dV y_M_count "EarthHaulsModel" 1 := ⟨rfl, by decide, by decide, by decide +kernel⟩
theorem d_M_count_0 : decode c_M_count 0 = .ok (.aload_n 0, 1) := by decide +kernel
theorem d_M_count_1 : decode c_M_count 1 = .ok (.iload_n 1, 1) := by decide +kernel
theorem d_M_count_2 : decode c_M_count 2 = .ok (.ifCond .lt 8, 3) := by decide +kernel
theorem d_M_count_5 : decode c_M_count 5 = .ok (.iload_n 1, 1) := by decide +kernel
theorem d_M_count_6 : decode c_M_count 6 = .ok (.iconst 4, 1) := by decide +kernel
theorem d_M_count_7 : decode c_M_count 7 = .ok (.if_icmp .le 7, 3) := by decide +kernel
theorem d_M_count_10 : decode c_M_count 10 = .ok (.iconst 1, 1) := by decide +kernel
theorem d_M_count_11 : decode c_M_count 11 = .ok (.goto 4, 3) := by decide +kernel
theorem d_M_count_14 : decode c_M_count 14 = .ok (.iconst 0, 1) := by decide +kernel
theorem d_M_count_15 : decode c_M_count 15 = .ok (.putfield 64, 3) := by decide +kernel
theorem d_M_count_18 : decode c_M_count 18 = .ok (.aload_n 0, 1) := by decide +kernel
theorem d_M_count_19 : decode c_M_count 19 = .ok (.getfield 64, 3) := by decide +kernel
theorem d_M_count_22 : decode c_M_count 22 = .ok (.ifCond .le 5, 3) := by decide +kernel
theorem d_M_count_25 : decode c_M_count 25 = .ok (.iconst 0, 1) := by decide +kernel
theorem d_M_count_26 : decode c_M_count 26 = .ok (.ireturn, 1) := by decide +kernel
theorem d_M_count_27 : decode c_M_count 27 = .ok (.iconst 0, 1) := by decide +kernel
theorem d_M_count_28 : decode c_M_count 28 = .ok (.istore_n 2, 1) := by decide +kernel
theorem d_M_count_29 : decode c_M_count 29 = .ok (.iconst 0, 1) := by decide +kernel
theorem d_M_count_30 : decode c_M_count 30 = .ok (.istore_n 3, 1) := by decide +kernel
theorem d_M_count_31 : decode c_M_count 31 = .ok (.iconst 0, 1) := by decide +kernel
theorem d_M_count_32 : decode c_M_count 32 = .ok (.istore 4, 2) := by decide +kernel
theorem d_M_count_34 : decode c_M_count 34 = .ok (.iload 4, 2) := by decide +kernel
theorem d_M_count_36 : decode c_M_count 36 = .ok (.iconst 2, 1) := by decide +kernel
theorem d_M_count_37 : decode c_M_count 37 = .ok (.iadd, 1) := by decide +kernel
theorem d_M_count_38 : decode c_M_count 38 = .ok (.aload_n 0, 1) := by decide +kernel
theorem d_M_count_39 : decode c_M_count 39 = .ok (.getfield 86, 3) := by decide +kernel
theorem d_M_count_42 : decode c_M_count 42 = .ok (.if_icmp .ge 27, 3) := by decide +kernel
theorem d_M_count_45 : decode c_M_count 45 = .ok (.aload_n 0, 1) := by decide +kernel
theorem d_M_count_46 : decode c_M_count 46 = .ok (.getfield 16, 3) := by decide +kernel
theorem d_M_count_49 : decode c_M_count 49 = .ok (.iload 4, 2) := by decide +kernel
theorem d_M_count_51 : decode c_M_count 51 = .ok (.baload, 1) := by decide +kernel
theorem d_M_count_52 : decode c_M_count 52 = .ok (.ifCond .eq 7, 3) := by decide +kernel
theorem d_M_count_55 : decode c_M_count 55 = .ok (.iload_n 2, 1) := by decide +kernel
theorem d_M_count_56 : decode c_M_count 56 = .ok (.goto 6, 3) := by decide +kernel
theorem d_M_count_59 : decode c_M_count 59 = .ok (.iload_n 2, 1) := by decide +kernel
theorem d_M_count_60 : decode c_M_count 60 = .ok (.iconst 1, 1) := by decide +kernel
theorem d_M_count_61 : decode c_M_count 61 = .ok (.iadd, 1) := by decide +kernel
theorem d_M_count_62 : decode c_M_count 62 = .ok (.istore_n 2, 1) := by decide +kernel
theorem d_M_count_63 : decode c_M_count 63 = .ok (.iinc 4 1, 3) := by decide +kernel
theorem d_M_count_66 : decode c_M_count 66 = .ok (.goto (-32), 3) := by decide +kernel
theorem d_M_count_69 : decode c_M_count 69 = .ok (.iconst 0, 1) := by decide +kernel
theorem d_M_count_70 : decode c_M_count 70 = .ok (.istore 4, 2) := by decide +kernel
theorem d_M_count_72 : decode c_M_count 72 = .ok (.iload 4, 2) := by decide +kernel
theorem d_M_count_74 : decode c_M_count 74 = .ok (.bipush 6, 2) := by decide +kernel
theorem d_M_count_76 : decode c_M_count 76 = .ok (.if_icmp .ge 43, 3) := by decide +kernel
theorem d_M_count_79 : decode c_M_count 79 = .ok (.iconst 0, 1) := by decide +kernel
theorem d_M_count_80 : decode c_M_count 80 = .ok (.istore 5, 2) := by decide +kernel
theorem d_M_count_82 : decode c_M_count 82 = .ok (.iload 5, 2) := by decide +kernel
theorem d_M_count_84 : decode c_M_count 84 = .ok (.iconst 5, 1) := by decide +kernel
theorem d_M_count_85 : decode c_M_count 85 = .ok (.if_icmp .ge 28, 3) := by decide +kernel
theorem d_M_count_88 : decode c_M_count 88 = .ok (.aload_n 0, 1) := by decide +kernel
theorem d_M_count_89 : decode c_M_count 89 = .ok (.iload 4, 2) := by decide +kernel
theorem d_M_count_91 : decode c_M_count 91 = .ok (.iload 5, 2) := by decide +kernel
theorem d_M_count_93 : decode c_M_count 93 = .ok (.invokevirtual 133, 3) := by decide +kernel
theorem d_M_count_96 : decode c_M_count 96 = .ok (.ifCond .ge 7, 3) := by decide +kernel
theorem d_M_count_99 : decode c_M_count 99 = .ok (.iload_n 3, 1) := by decide +kernel
theorem d_M_count_100 : decode c_M_count 100 = .ok (.goto 6, 3) := by decide +kernel
theorem d_M_count_103 : decode c_M_count 103 = .ok (.iload_n 3, 1) := by decide +kernel
theorem d_M_count_104 : decode c_M_count 104 = .ok (.iconst 1, 1) := by decide +kernel
theorem d_M_count_105 : decode c_M_count 105 = .ok (.iadd, 1) := by decide +kernel
theorem d_M_count_106 : decode c_M_count 106 = .ok (.istore_n 3, 1) := by decide +kernel
theorem d_M_count_107 : decode c_M_count 107 = .ok (.iinc 5 1, 3) := by decide +kernel
theorem d_M_count_110 : decode c_M_count 110 = .ok (.goto (-28), 3) := by decide +kernel
theorem d_M_count_113 : decode c_M_count 113 = .ok (.iinc 4 1, 3) := by decide +kernel
theorem d_M_count_116 : decode c_M_count 116 = .ok (.goto (-44), 3) := by decide +kernel
theorem d_M_count_119 : decode c_M_count 119 = .ok (.aload_n 0, 1) := by decide +kernel
theorem d_M_count_120 : decode c_M_count 120 = .ok (.getfield 27, 3) := by decide +kernel
theorem d_M_count_123 : decode c_M_count 123 = .ok (.iconst 0, 1) := by decide +kernel
theorem d_M_count_124 : decode c_M_count 124 = .ok (.baload, 1) := by decide +kernel
theorem d_M_count_125 : decode c_M_count 125 = .ok (.ifCond .eq 7, 3) := by decide +kernel
theorem d_M_count_128 : decode c_M_count 128 = .ok (.iconst 1, 1) := by decide +kernel
theorem d_M_count_129 : decode c_M_count 129 = .ok (.goto 4, 3) := by decide +kernel
theorem d_M_count_132 : decode c_M_count 132 = .ok (.iconst 0, 1) := by decide +kernel
theorem d_M_count_133 : decode c_M_count 133 = .ok (.aload_n 0, 1) := by decide +kernel
theorem d_M_count_134 : decode c_M_count 134 = .ok (.getfield 27, 3) := by decide +kernel
theorem d_M_count_137 : decode c_M_count 137 = .ok (.iconst 1, 1) := by decide +kernel
theorem d_M_count_138 : decode c_M_count 138 = .ok (.baload, 1) := by decide +kernel
theorem d_M_count_139 : decode c_M_count 139 = .ok (.ifCond .eq 7, 3) := by decide +kernel
theorem d_M_count_142 : decode c_M_count 142 = .ok (.iconst 1, 1) := by decide +kernel
theorem d_M_count_143 : decode c_M_count 143 = .ok (.goto 4, 3) := by decide +kernel
theorem d_M_count_146 : decode c_M_count 146 = .ok (.iconst 0, 1) := by decide +kernel
theorem d_M_count_147 : decode c_M_count 147 = .ok (.iadd, 1) := by decide +kernel
theorem d_M_count_148 : decode c_M_count 148 = .ok (.istore 4, 2) := by decide +kernel
theorem d_M_count_150 : decode c_M_count 150 = .ok (.iload_n 1, 1) := by decide +kernel
theorem d_M_count_151 : decode c_M_count 151 = .ok (.ifCond .ne 10, 3) := by decide +kernel
theorem d_M_count_154 : decode c_M_count 154 = .ok (.aload_n 0, 1) := by decide +kernel
theorem d_M_count_155 : decode c_M_count 155 = .ok (.getfield 86, 3) := by decide +kernel
theorem d_M_count_158 : decode c_M_count 158 = .ok (.goto 45, 3) := by decide +kernel
theorem d_M_count_161 : decode c_M_count 161 = .ok (.iload_n 1, 1) := by decide +kernel
theorem d_M_count_162 : decode c_M_count 162 = .ok (.iconst 1, 1) := by decide +kernel
theorem d_M_count_163 : decode c_M_count 163 = .ok (.if_icmp .ne 7, 3) := by decide +kernel
theorem d_M_count_166 : decode c_M_count 166 = .ok (.iload_n 2, 1) := by decide +kernel
theorem d_M_count_167 : decode c_M_count 167 = .ok (.goto 36, 3) := by decide +kernel
theorem d_M_count_170 : decode c_M_count 170 = .ok (.iload_n 1, 1) := by decide +kernel
theorem d_M_count_171 : decode c_M_count 171 = .ok (.iconst 2, 1) := by decide +kernel
theorem d_M_count_172 : decode c_M_count 172 = .ok (.if_icmp .ne 8, 3) := by decide +kernel
theorem d_M_count_175 : decode c_M_count 175 = .ok (.iload 4, 2) := by decide +kernel
theorem d_M_count_177 : decode c_M_count 177 = .ok (.goto 26, 3) := by decide +kernel
theorem d_M_count_180 : decode c_M_count 180 = .ok (.iload_n 1, 1) := by decide +kernel
theorem d_M_count_181 : decode c_M_count 181 = .ok (.iconst 3, 1) := by decide +kernel
theorem d_M_count_182 : decode c_M_count 182 = .ok (.if_icmp .ne 20, 3) := by decide +kernel
theorem d_M_count_185 : decode c_M_count 185 = .ok (.aload_n 0, 1) := by decide +kernel
theorem d_M_count_186 : decode c_M_count 186 = .ok (.getfield 27, 3) := by decide +kernel
theorem d_M_count_189 : decode c_M_count 189 = .ok (.iconst 2, 1) := by decide +kernel
theorem d_M_count_190 : decode c_M_count 190 = .ok (.baload, 1) := by decide +kernel
theorem d_M_count_191 : decode c_M_count 191 = .ok (.ifCond .eq 7, 3) := by decide +kernel
theorem d_M_count_194 : decode c_M_count 194 = .ok (.iconst 1, 1) := by decide +kernel
theorem d_M_count_195 : decode c_M_count 195 = .ok (.goto 8, 3) := by decide +kernel
theorem d_M_count_198 : decode c_M_count 198 = .ok (.iconst 0, 1) := by decide +kernel
theorem d_M_count_199 : decode c_M_count 199 = .ok (.goto 4, 3) := by decide +kernel
theorem d_M_count_202 : decode c_M_count 202 = .ok (.iload_n 3, 1) := by decide +kernel
theorem d_M_count_203 : decode c_M_count 203 = .ok (.ireturn, 1) := by decide +kernel
set_option maxHeartbeats 1000000 in
set_option maxRecDepth 100000 in
theorem m_M_count (l : Launch) (D : va_G) (cI cL cZ : ClassId) (md : Nat → Nat) (co : Int) (n : Nat) (sh ra up lw kn fo : Int) (sc ln cb th pl lo pr la : Nat → Int) (cu cl fu fl : Nat → Nat) (ys yl yp : Nat → Int) (y : Int) (hy : -2147483648 ≤ y ∧ y < 2147483648) (hM : eh_MS n sh ra sc ln cb th pl lo pr la cu cl fu fl ys yl yp) : eh_M (S := Int) l y_M_count k_M_count 3 70 D classes [(cI, .int), (cL, .long), (cZ, .boolean)] [.ref (md 0), .int (eI y)] [((md 0), .inr (5, [.int (eI co), .int (eI ((n : Nat) : Int)), .ref (md 1), .ref (md 2), .ref (md 3), .int (eI sh), .int (eI ra), .ref (md 4), .ref (md 5), .ref (md 6), .ref (md 7), .ref (md 8), .long (eL up), .long (eL lw), .ref (md 9), .ref (md 10), .ref (md 11), .ref (md 12), .ref (md 13), .ref (md 14), .ref (md 15), .int (eI kn), .int (eI fo)])), ((md 1), aI cI 25 sc), ((md 2), aI cI 4 ln), ((md 3), aI cZ 4 cb), ((md 4), aI cZ 3 th), ((md 5), aI cI 3 pl), ((md 6), aI cI 3 lo), ((md 7), aI cI 3 pr), ((md 8), aI cI 30 la)] (fun u => ((y < 0 ∨ 4 < y) ∧ u = 1) ∨ (¬ (y < 0 ∨ 4 < y) ∧ u = 0)) (fun u => some (.int (eI (if u = 0 then (if y = 0 then ((n : Nat) : Int) else if y = 1 then (eh_ob cb (n - 2)) else if y = 2 then ((if ys 0 = -1 then 0 else 1) + (if ys 1 = -1 then 0 else 1)) else if y = 3 then (if ys 2 = -1 then 0 else 1) else (eh_ph (eh_kc n ra ln cb ys yp) 30)) else 0)))) (fun u => [((md 0), .inr (5, [.int (eI u), .int (eI ((n : Nat) : Int)), .ref (md 1), .ref (md 2), .ref (md 3), .int (eI sh), .int (eI ra), .ref (md 4), .ref (md 5), .ref (md 6), .ref (md 7), .ref (md 8), .long (eL up), .long (eL lw), .ref (md 9), .ref (md 10), .ref (md 11), .ref (md 12), .ref (md 13), .ref (md 14), .ref (md 15), .int (eI kn), .int (eI fo)])), ((md 1), aI cI 25 sc), ((md 2), aI cI 4 ln), ((md 3), aI cZ 4 cb), ((md 4), aI cZ 3 th), ((md 5), aI cI 3 pl), ((md 6), aI cI 3 lo), ((md 7), aI cI 3 pr), ((md 8), aI cI 30 la)]) := by
  intro sz
  refine Met.ofW (cc := c_M_count) (maxL := 6) (ret := (some .int)) (by decide) rfl ?_
  intro p e s m args below meth c s₁ B hml hv
  obtain ⟨hargs, hsz, hP, hK, hD0, hN⟩ := hv
  have hx := B.exec
  have hb := B.bytes
  have hrt := B.returns
  have hts := atoms_spec (ws := k_M_count :: ew_t) B.pre
  have htb : ∀ w ∈ ew_t, w.before args s = true := fun w h => hts w (List.mem_cons_of_mem _ h)
  have hown : s.vm.findClass "EarthHaulsModel" = some m.cls := findClass_of_methodNamed B.named
  have hlocks := B.notSynchronized
  have hE : entryFrame m args 6 = entryFrame m ([.ref (md 0), .int (eI y)] : List Value).toArray 6 := by rw [hargs]
  rw [hE]
  clear hE hts B hargs
  generalize hRe : (headSpec _ _).room = R
  have hR1 : R.frames = 3 := by rw [← hRe]; rfl
  have hR2 : R.locals = 70 := by rw [← hRe]; rfl
  clear hRe
  generalize hQ : MQ below _ _ s 0 0 _ = Q
  subst hsz
  have hD := hD0.self (sz := s.heap.size)
  generalize hAe : va_A [((md 0), .inr (5, [.int (eI co), .int (eI ((n : Nat) : Int)), .ref (md 1), .ref (md 2), .ref (md 3), .int (eI sh), .int (eI ra), .ref (md 4), .ref (md 5), .ref (md 6), .ref (md 7), .ref (md 8), .long (eL up), .long (eL lw), .ref (md 9), .ref (md 10), .ref (md 11), .ref (md 12), .ref (md 13), .ref (md 14), .ref (md 15), .int (eI kn), .int (eI fo)])), ((md 1), aI cI 25 sc), ((md 2), aI cI 4 ln), ((md 3), aI cZ 4 cb), ((md 4), aI cZ 3 th), ((md 5), aI cI 3 pl), ((md 6), aI cI 3 lo), ((md 7), aI cI 3 pr), ((md 8), aI cI 30 la)] s.heap.size = A at hD hQ
  have hA : ∀ q : Nat, s.heap.size ≤ q → A q := fun q h => by rw [← hAe]; exact Or.inr h
  have hS : va_S A s.heap s.heap [] := va_S.rf
  have hP : va_P D classes [((md 0), .inr (5, [.int (eI co), .int (eI ((n : Nat) : Int)), .ref (md 1), .ref (md 2), .ref (md 3), .int (eI sh), .int (eI ra), .ref (md 4), .ref (md 5), .ref (md 6), .ref (md 7), .ref (md 8), .long (eL up), .long (eL lw), .ref (md 9), .ref (md 10), .ref (md 11), .ref (md 12), .ref (md 13), .ref (md 14), .ref (md 15), .int (eI kn), .int (eI fo)])), ((md 1), aI cI 25 sc), ((md 2), aI cI 4 ln), ((md 3), aI cZ 4 cb), ((md 4), aI cZ 3 th), ((md 5), aI cI 3 pl), ((md 6), aI cI 3 lo), ((md 7), aI cI 3 pr), ((md 8), aI cI 30 la)] s.heap := hP
  have hl := lv_entry ([.ref (md 0), .int (eI y)]) (n := 6) (Nat.le_of_ble_eq_true rfl)
  rw [lg_entry_eq]
  generalize (lg_sl ([.ref (md 0), .int (eI y)]) ++ List.replicate (6 - (lg_sl ([.ref (md 0), .int (eI y)])).length) Slot.unset).toArray = ls at hl ⊢
  have hl : lv_has ls 6 [(0, .ref (md 0)), (1, .int (eI y))] := hl
  have hn5 := hM.1.1
  by_cases hbad : y < 0 ∨ 4 < y
  ·
    by_cases hneg : y < 0
    ·
      refine lv_aload_n hx hb d_M_count_0 rfl (lv_at hl 0 rfl) ?_
      refine lv_iload_n hx hb d_M_count_1 rfl (lv_at hl 1 rfl) ?_
      refine we_if_lt (tgt := 10) hx hb (by constructor <;> omega) d_M_count_2 rfl (fun hc2 => ?_) (fun hc2 => absurd hc2 (by omega))
      refine lv_iconst (v := eI 1) hx hb d_M_count_10 rfl ?_
      refine lv_goto (tgt := 15) hx hb d_M_count_11 rfl ?_
      refine va_put (D := D) (ci := 5) (v := .int (eI 1)) (ty := .int) (C := R_M) (T := T_M) (N := 23) hx hb htb in_M t_M t_M_ok n_M hown hK hP hD hS 0 rfl rfl 0 (by decide) (htb _ tb_588) (fun _ h9 => h9) rfl (by decide +kernel) rfl rfl (Nat.le_of_ble_eq_true rfl) d_M_count_15 (fun H locs hP hD hS => ?_)
      have hP : va_P D classes [((md 0), .inr (5, [.int (eI 1), .int (eI ((n : Nat) : Int)), .ref (md 1), .ref (md 2), .ref (md 3), .int (eI sh), .int (eI ra), .ref (md 4), .ref (md 5), .ref (md 6), .ref (md 7), .ref (md 8), .long (eL up), .long (eL lw), .ref (md 9), .ref (md 10), .ref (md 11), .ref (md 12), .ref (md 13), .ref (md 14), .ref (md 15), .int (eI kn), .int (eI fo)])), ((md 1), aI cI 25 sc), ((md 2), aI cI 4 ln), ((md 3), aI cZ 4 cb), ((md 4), aI cZ 3 th), ((md 5), aI cI 3 pl), ((md 6), aI cI 3 lo), ((md 7), aI cI 3 pr), ((md 8), aI cI 30 la)] H := hP
      have hD : va_D A [((md 0), .inr (5, [.int (eI 1), .int (eI ((n : Nat) : Int)), .ref (md 1), .ref (md 2), .ref (md 3), .int (eI sh), .int (eI ra), .ref (md 4), .ref (md 5), .ref (md 6), .ref (md 7), .ref (md 8), .long (eL up), .long (eL lw), .ref (md 9), .ref (md 10), .ref (md 11), .ref (md 12), .ref (md 13), .ref (md 14), .ref (md 15), .int (eI kn), .int (eI fo)])), ((md 1), aI cI 25 sc), ((md 2), aI cI 4 ln), ((md 3), aI cZ 4 cb), ((md 4), aI cZ 3 th), ((md 5), aI cI 3 pl), ((md 6), aI cI 3 lo), ((md 7), aI cI 3 pr), ((md 8), aI cI 30 la)] := hD
      refine lv_aload_n hx hb d_M_count_18 rfl (lv_at hl 0 rfl) ?_
      refine va_get (D := D) (ci := 5) (v := .int (eI 1)) (C := R_M) (T := T_M) (N := 23) hx hb htb in_M hown hK hP 0 rfl rfl 0 (by decide) (htb _ tb_588) (fun _ h9 => h9) rfl d_M_count_19 ?_
      refine we_if_le (tgt := 27) hx hb (by constructor <;> omega) d_M_count_22 rfl (fun hc22 => absurd hc22 (by omega)) (fun hc22 => ?_)
      refine lv_iconst (v := eI 0) hx hb d_M_count_25 rfl ?_
      have hres : (0 : Int) = (if (1 : Int) = 0 then (if y = 0 then ((n : Nat) : Int) else if y = 1 then (eh_ob cb (n - 2)) else if y = 2 then ((if ys 0 = -1 then 0 else 1) + (if ys 1 = -1 then 0 else 1)) else if y = 3 then (if ys 2 = -1 then 0 else 1) else (eh_ph (eh_kc n ra ln cb ys yp) 30)) else 0) := by rw [if_neg (by decide)]
      rw [hres]
      subst hQ
      exact W.iret hx hb hrt (fun t9 ht hW => ⟨⟨1, rfl, Or.inl ⟨hbad, rfl⟩, by rw [ht]; exact hP, hD⟩, hS.F ht⟩) hS.2.2 d_M_count_26
    ·
      refine lv_aload_n hx hb d_M_count_0 rfl (lv_at hl 0 rfl) ?_
      refine lv_iload_n hx hb d_M_count_1 rfl (lv_at hl 1 rfl) ?_
      refine we_if_lt (tgt := 10) hx hb (by constructor <;> omega) d_M_count_2 rfl (fun hc2 => absurd hc2 (by omega)) (fun hc2 => ?_)
      refine lv_iload_n hx hb d_M_count_5 rfl (lv_at hl 1 rfl) ?_
      refine lv_iconst (v := eI 4) hx hb d_M_count_6 rfl ?_
      refine we_icmp_le (tgt := 14) hx hb (by constructor <;> omega) (by constructor <;> omega) d_M_count_7 rfl (fun hc7 => absurd hc7 (by omega)) (fun hc7 => ?_)
      refine lv_iconst (v := eI 1) hx hb d_M_count_10 rfl ?_
      refine lv_goto (tgt := 15) hx hb d_M_count_11 rfl ?_
      refine va_put (D := D) (ci := 5) (v := .int (eI 1)) (ty := .int) (C := R_M) (T := T_M) (N := 23) hx hb htb in_M t_M t_M_ok n_M hown hK hP hD hS 0 rfl rfl 0 (by decide) (htb _ tb_588) (fun _ h9 => h9) rfl (by decide +kernel) rfl rfl (Nat.le_of_ble_eq_true rfl) d_M_count_15 (fun H locs hP hD hS => ?_)
      have hP : va_P D classes [((md 0), .inr (5, [.int (eI 1), .int (eI ((n : Nat) : Int)), .ref (md 1), .ref (md 2), .ref (md 3), .int (eI sh), .int (eI ra), .ref (md 4), .ref (md 5), .ref (md 6), .ref (md 7), .ref (md 8), .long (eL up), .long (eL lw), .ref (md 9), .ref (md 10), .ref (md 11), .ref (md 12), .ref (md 13), .ref (md 14), .ref (md 15), .int (eI kn), .int (eI fo)])), ((md 1), aI cI 25 sc), ((md 2), aI cI 4 ln), ((md 3), aI cZ 4 cb), ((md 4), aI cZ 3 th), ((md 5), aI cI 3 pl), ((md 6), aI cI 3 lo), ((md 7), aI cI 3 pr), ((md 8), aI cI 30 la)] H := hP
      have hD : va_D A [((md 0), .inr (5, [.int (eI 1), .int (eI ((n : Nat) : Int)), .ref (md 1), .ref (md 2), .ref (md 3), .int (eI sh), .int (eI ra), .ref (md 4), .ref (md 5), .ref (md 6), .ref (md 7), .ref (md 8), .long (eL up), .long (eL lw), .ref (md 9), .ref (md 10), .ref (md 11), .ref (md 12), .ref (md 13), .ref (md 14), .ref (md 15), .int (eI kn), .int (eI fo)])), ((md 1), aI cI 25 sc), ((md 2), aI cI 4 ln), ((md 3), aI cZ 4 cb), ((md 4), aI cZ 3 th), ((md 5), aI cI 3 pl), ((md 6), aI cI 3 lo), ((md 7), aI cI 3 pr), ((md 8), aI cI 30 la)] := hD
      refine lv_aload_n hx hb d_M_count_18 rfl (lv_at hl 0 rfl) ?_
      refine va_get (D := D) (ci := 5) (v := .int (eI 1)) (C := R_M) (T := T_M) (N := 23) hx hb htb in_M hown hK hP 0 rfl rfl 0 (by decide) (htb _ tb_588) (fun _ h9 => h9) rfl d_M_count_19 ?_
      refine we_if_le (tgt := 27) hx hb (by constructor <;> omega) d_M_count_22 rfl (fun hc22 => absurd hc22 (by omega)) (fun hc22 => ?_)
      refine lv_iconst (v := eI 0) hx hb d_M_count_25 rfl ?_
      have hres : (0 : Int) = (if (1 : Int) = 0 then (if y = 0 then ((n : Nat) : Int) else if y = 1 then (eh_ob cb (n - 2)) else if y = 2 then ((if ys 0 = -1 then 0 else 1) + (if ys 1 = -1 then 0 else 1)) else if y = 3 then (if ys 2 = -1 then 0 else 1) else (eh_ph (eh_kc n ra ln cb ys yp) 30)) else 0) := by rw [if_neg (by decide)]
      rw [hres]
      subst hQ
      exact W.iret hx hb hrt (fun t9 ht hW => ⟨⟨1, rfl, Or.inl ⟨hbad, rfl⟩, by rw [ht]; exact hP, hD⟩, hS.F ht⟩) hS.2.2 d_M_count_26
  ·
    have hth0 := hM.2.1 0 (by omega)
    have hth1 := hM.2.1 1 (by omega)
    have hth2 := hM.2.1 2 (by omega)
    have hy0 : ((if ys 0 = -1 then 0 else 1) : Int) = th 0 := by split <;> omega
    have hy1 : ((if ys 1 = -1 then 0 else 1) : Int) = th 1 := by split <;> omega
    have hy2 : ((if ys 2 = -1 then 0 else 1) : Int) = th 2 := by split <;> omega
    have hob := eh_ob_b cb (n - 2)
    have hph := eh_ph_b (eh_kc n ra ln cb ys yp) 30
    refine lv_aload_n hx hb d_M_count_0 rfl (lv_at hl 0 rfl) ?_
    refine lv_iload_n hx hb d_M_count_1 rfl (lv_at hl 1 rfl) ?_
    refine we_if_lt (tgt := 10) hx hb (by constructor <;> omega) d_M_count_2 rfl (fun hc2 => absurd hc2 (by omega)) (fun hc2 => ?_)
    refine lv_iload_n hx hb d_M_count_5 rfl (lv_at hl 1 rfl) ?_
    refine lv_iconst (v := eI 4) hx hb d_M_count_6 rfl ?_
    refine we_icmp_le (tgt := 14) hx hb (by constructor <;> omega) (by constructor <;> omega) d_M_count_7 rfl (fun hc7 => ?_) (fun hc7 => absurd hc7 (by omega))
    refine lv_iconst (v := eI 0) hx hb d_M_count_14 rfl ?_
    refine va_put (D := D) (ci := 5) (v := .int (eI 0)) (ty := .int) (C := R_M) (T := T_M) (N := 23) hx hb htb in_M t_M t_M_ok n_M hown hK hP hD hS 0 rfl rfl 0 (by decide) (htb _ tb_588) (fun _ h9 => h9) rfl (by decide +kernel) rfl rfl (Nat.le_of_ble_eq_true rfl) d_M_count_15 (fun H locs hP hD hS => ?_)
    have hP : va_P D classes [((md 0), .inr (5, [.int (eI 0), .int (eI ((n : Nat) : Int)), .ref (md 1), .ref (md 2), .ref (md 3), .int (eI sh), .int (eI ra), .ref (md 4), .ref (md 5), .ref (md 6), .ref (md 7), .ref (md 8), .long (eL up), .long (eL lw), .ref (md 9), .ref (md 10), .ref (md 11), .ref (md 12), .ref (md 13), .ref (md 14), .ref (md 15), .int (eI kn), .int (eI fo)])), ((md 1), aI cI 25 sc), ((md 2), aI cI 4 ln), ((md 3), aI cZ 4 cb), ((md 4), aI cZ 3 th), ((md 5), aI cI 3 pl), ((md 6), aI cI 3 lo), ((md 7), aI cI 3 pr), ((md 8), aI cI 30 la)] H := hP
    have hD : va_D A [((md 0), .inr (5, [.int (eI 0), .int (eI ((n : Nat) : Int)), .ref (md 1), .ref (md 2), .ref (md 3), .int (eI sh), .int (eI ra), .ref (md 4), .ref (md 5), .ref (md 6), .ref (md 7), .ref (md 8), .long (eL up), .long (eL lw), .ref (md 9), .ref (md 10), .ref (md 11), .ref (md 12), .ref (md 13), .ref (md 14), .ref (md 15), .int (eI kn), .int (eI fo)])), ((md 1), aI cI 25 sc), ((md 2), aI cI 4 ln), ((md 3), aI cZ 4 cb), ((md 4), aI cZ 3 th), ((md 5), aI cI 3 pl), ((md 6), aI cI 3 lo), ((md 7), aI cI 3 pr), ((md 8), aI cI 30 la)] := hD
    refine lv_aload_n hx hb d_M_count_18 rfl (lv_at hl 0 rfl) ?_
    refine va_get (D := D) (ci := 5) (v := .int (eI 0)) (C := R_M) (T := T_M) (N := 23) hx hb htb in_M hown hK hP 0 rfl rfl 0 (by decide) (htb _ tb_588) (fun _ h9 => h9) rfl d_M_count_19 ?_
    refine we_if_le (tgt := 27) hx hb (by constructor <;> omega) d_M_count_22 rfl (fun hc22 => ?_) (fun hc22 => absurd hc22 (by omega))
    refine lv_iconst (v := eI 0) hx hb d_M_count_27 rfl ?_
    refine lv_istore_n hx hb d_M_count_28 rfl hl (by decide) rfl (fun ls hl => ?_)
    have hl : lv_has ls 6 [(2, .int (eI 0)), (0, .ref (md 0)), (1, .int (eI y))] := hl
    refine lv_iconst (v := eI 0) hx hb d_M_count_29 rfl ?_
    refine lv_istore_n hx hb d_M_count_30 rfl hl (by decide) rfl (fun ls hl => ?_)
    have hl : lv_has ls 6 [(3, .int (eI 0)), (2, .int (eI 0)), (0, .ref (md 0)), (1, .int (eI y))] := hl
    refine lv_iconst (v := eI 0) hx hb d_M_count_31 rfl ?_
    refine lv_istore hx hb d_M_count_32 hl (by decide) rfl (fun ls hl => ?_)
    have hl : lv_has ls 6 [(4, .int (eI 0)), (3, .int (eI 0)), (2, .int (eI 0)), (0, .ref (md 0)), (1, .int (eI y))] := hl
    have fin : ∀ (ls : Array Slot), lv_has ls 6 [(3, .int (eI (eh_ph (eh_kc n ra ln cb ys yp) 30))), (2, .int (eI (eh_ob cb (n - 2)))), (0, .ref (md 0)), (1, .int (eI y))] → W p l e R s m args below meth c H locs 0 0 Q (F0 m 119 ls []) := by
      intro ls hl
      refine lv_aload_n hx hb d_M_count_119 rfl (lv_at hl 2 rfl) ?_
      refine va_get (D := D) (ci := 5) (v := .ref (md 4)) (C := R_M) (T := T_M) (N := 23) hx hb htb in_M hown hK hP 0 rfl rfl 7 (by decide) (htb _ tb_595) (fun _ h9 => h9) rfl d_M_count_120 ?_
      refine lv_iconst (v := eI 0) hx hb d_M_count_123 rfl ?_
      refine we_zald hx hb hK hP 4 2 rfl rfl 0 rfl (by decide) (by decide) d_M_count_124 ?_
      refine we_if_eq (tgt := 132) hx hb (by constructor <;> omega) d_M_count_125 rfl (fun hc125 => ?_) (fun hc125 => ?_)
      ·
        refine lv_iconst (v := eI 0) hx hb d_M_count_132 rfl ?_
        refine lv_aload_n hx hb d_M_count_133 rfl (lv_at hl 2 rfl) ?_
        refine va_get (D := D) (ci := 5) (v := .ref (md 4)) (C := R_M) (T := T_M) (N := 23) hx hb htb in_M hown hK hP 0 rfl rfl 7 (by decide) (htb _ tb_595) (fun _ h9 => h9) rfl d_M_count_134 ?_
        refine lv_iconst (v := eI 1) hx hb d_M_count_137 rfl ?_
        refine we_zald hx hb hK hP 4 2 rfl rfl 1 rfl (by decide) (by decide) d_M_count_138 ?_
        refine we_if_eq (tgt := 146) hx hb (by constructor <;> omega) d_M_count_139 rfl (fun hc139 => ?_) (fun hc139 => ?_)
        ·
          refine lv_iconst (v := eI 0) hx hb d_M_count_146 rfl ?_
          refine we_iadd hx hb d_M_count_147 ?_
          refine lv_istore hx hb d_M_count_148 hl (by decide) rfl (fun ls hl => ?_)
          have hl : lv_has ls 6 [(4, .int (eI (0 + 0))), (3, .int (eI (eh_ph (eh_kc n ra ln cb ys yp) 30))), (2, .int (eI (eh_ob cb (n - 2)))), (0, .ref (md 0)), (1, .int (eI y))] := hl
          refine lv_iload_n hx hb d_M_count_150 rfl (lv_at hl 4 rfl) ?_
          refine we_if_ne (tgt := 161) hx hb (by constructor <;> omega) d_M_count_151 rfl (fun hc151 => ?_) (fun hc151 => ?_)
          ·
            refine lv_iload_n hx hb d_M_count_161 rfl (lv_at hl 4 rfl) ?_
            refine lv_iconst (v := eI 1) hx hb d_M_count_162 rfl ?_
            refine we_icmp_ne (tgt := 170) hx hb (by constructor <;> omega) (by constructor <;> omega) d_M_count_163 rfl (fun hc163 => ?_) (fun hc163 => ?_)
            ·
              refine lv_iload_n hx hb d_M_count_170 rfl (lv_at hl 4 rfl) ?_
              refine lv_iconst (v := eI 2) hx hb d_M_count_171 rfl ?_
              refine we_icmp_ne (tgt := 180) hx hb (by constructor <;> omega) (by constructor <;> omega) d_M_count_172 rfl (fun hc172 => ?_) (fun hc172 => ?_)
              ·
                refine lv_iload_n hx hb d_M_count_180 rfl (lv_at hl 4 rfl) ?_
                refine lv_iconst (v := eI 3) hx hb d_M_count_181 rfl ?_
                refine we_icmp_ne (tgt := 202) hx hb (by constructor <;> omega) (by constructor <;> omega) d_M_count_182 rfl (fun hc182 => ?_) (fun hc182 => ?_)
                ·
                  refine lv_iload_n hx hb d_M_count_202 rfl (lv_at hl 1 rfl) ?_
                  have hres : ((eh_ph (eh_kc n ra ln cb ys yp) 30) : Int) = (if (0 : Int) = 0 then (if y = 0 then ((n : Nat) : Int) else if y = 1 then (eh_ob cb (n - 2)) else if y = 2 then ((if ys 0 = -1 then 0 else 1) + (if ys 1 = -1 then 0 else 1)) else if y = 3 then (if ys 2 = -1 then 0 else 1) else (eh_ph (eh_kc n ra ln cb ys yp) 30)) else 0) := by
                    rw [if_pos rfl, hy0, hy1, hy2]
                    repeat' split
                    all_goals omega
                  rw [hres]
                  subst hQ
                  exact W.iret hx hb hrt (fun t9 ht hW => ⟨⟨0, rfl, Or.inr ⟨hbad, rfl⟩, by rw [ht]; exact hP, hD⟩, hS.F ht⟩) hS.2.2 d_M_count_203
                ·
                  refine lv_aload_n hx hb d_M_count_185 rfl (lv_at hl 3 rfl) ?_
                  refine va_get (D := D) (ci := 5) (v := .ref (md 4)) (C := R_M) (T := T_M) (N := 23) hx hb htb in_M hown hK hP 0 rfl rfl 7 (by decide) (htb _ tb_595) (fun _ h9 => h9) rfl d_M_count_186 ?_
                  refine lv_iconst (v := eI 2) hx hb d_M_count_189 rfl ?_
                  refine we_zald hx hb hK hP 4 2 rfl rfl 2 rfl (by decide) (by decide) d_M_count_190 ?_
                  refine we_if_eq (tgt := 198) hx hb (by constructor <;> omega) d_M_count_191 rfl (fun hc191 => ?_) (fun hc191 => ?_)
                  ·
                    refine lv_iconst (v := eI 0) hx hb d_M_count_198 rfl ?_
                    refine lv_goto (tgt := 203) hx hb d_M_count_199 rfl ?_
                    have hres : (0 : Int) = (if (0 : Int) = 0 then (if y = 0 then ((n : Nat) : Int) else if y = 1 then (eh_ob cb (n - 2)) else if y = 2 then ((if ys 0 = -1 then 0 else 1) + (if ys 1 = -1 then 0 else 1)) else if y = 3 then (if ys 2 = -1 then 0 else 1) else (eh_ph (eh_kc n ra ln cb ys yp) 30)) else 0) := by
                      rw [if_pos rfl, hy0, hy1, hy2]
                      repeat' split
                      all_goals omega
                    rw [hres]
                    subst hQ
                    exact W.iret hx hb hrt (fun t9 ht hW => ⟨⟨0, rfl, Or.inr ⟨hbad, rfl⟩, by rw [ht]; exact hP, hD⟩, hS.F ht⟩) hS.2.2 d_M_count_203
                  ·
                    refine lv_iconst (v := eI 1) hx hb d_M_count_194 rfl ?_
                    refine lv_goto (tgt := 203) hx hb d_M_count_195 rfl ?_
                    have hres : (1 : Int) = (if (0 : Int) = 0 then (if y = 0 then ((n : Nat) : Int) else if y = 1 then (eh_ob cb (n - 2)) else if y = 2 then ((if ys 0 = -1 then 0 else 1) + (if ys 1 = -1 then 0 else 1)) else if y = 3 then (if ys 2 = -1 then 0 else 1) else (eh_ph (eh_kc n ra ln cb ys yp) 30)) else 0) := by
                      rw [if_pos rfl, hy0, hy1, hy2]
                      repeat' split
                      all_goals omega
                    rw [hres]
                    subst hQ
                    exact W.iret hx hb hrt (fun t9 ht hW => ⟨⟨0, rfl, Or.inr ⟨hbad, rfl⟩, by rw [ht]; exact hP, hD⟩, hS.F ht⟩) hS.2.2 d_M_count_203
              ·
                refine lv_iload hx hb d_M_count_175 (lv_at hl 0 rfl) ?_
                refine lv_goto (tgt := 203) hx hb d_M_count_177 rfl ?_
                have hres : ((0 + 0) : Int) = (if (0 : Int) = 0 then (if y = 0 then ((n : Nat) : Int) else if y = 1 then (eh_ob cb (n - 2)) else if y = 2 then ((if ys 0 = -1 then 0 else 1) + (if ys 1 = -1 then 0 else 1)) else if y = 3 then (if ys 2 = -1 then 0 else 1) else (eh_ph (eh_kc n ra ln cb ys yp) 30)) else 0) := by
                  rw [if_pos rfl, hy0, hy1, hy2]
                  repeat' split
                  all_goals omega
                rw [hres]
                subst hQ
                exact W.iret hx hb hrt (fun t9 ht hW => ⟨⟨0, rfl, Or.inr ⟨hbad, rfl⟩, by rw [ht]; exact hP, hD⟩, hS.F ht⟩) hS.2.2 d_M_count_203
            ·
              refine lv_iload_n hx hb d_M_count_166 rfl (lv_at hl 2 rfl) ?_
              refine lv_goto (tgt := 203) hx hb d_M_count_167 rfl ?_
              have hres : ((eh_ob cb (n - 2)) : Int) = (if (0 : Int) = 0 then (if y = 0 then ((n : Nat) : Int) else if y = 1 then (eh_ob cb (n - 2)) else if y = 2 then ((if ys 0 = -1 then 0 else 1) + (if ys 1 = -1 then 0 else 1)) else if y = 3 then (if ys 2 = -1 then 0 else 1) else (eh_ph (eh_kc n ra ln cb ys yp) 30)) else 0) := by
                rw [if_pos rfl, hy0, hy1, hy2]
                repeat' split
                all_goals omega
              rw [hres]
              subst hQ
              exact W.iret hx hb hrt (fun t9 ht hW => ⟨⟨0, rfl, Or.inr ⟨hbad, rfl⟩, by rw [ht]; exact hP, hD⟩, hS.F ht⟩) hS.2.2 d_M_count_203
          ·
            refine lv_aload_n hx hb d_M_count_154 rfl (lv_at hl 3 rfl) ?_
            refine va_get (D := D) (ci := 5) (v := .int (eI ((n : Nat) : Int))) (C := R_M) (T := T_M) (N := 23) hx hb htb in_M hown hK hP 0 rfl rfl 1 (by decide) (htb _ tb_589) (fun _ h9 => h9) rfl d_M_count_155 ?_
            refine lv_goto (tgt := 203) hx hb d_M_count_158 rfl ?_
            have hres : (((n : Nat) : Int) : Int) = (if (0 : Int) = 0 then (if y = 0 then ((n : Nat) : Int) else if y = 1 then (eh_ob cb (n - 2)) else if y = 2 then ((if ys 0 = -1 then 0 else 1) + (if ys 1 = -1 then 0 else 1)) else if y = 3 then (if ys 2 = -1 then 0 else 1) else (eh_ph (eh_kc n ra ln cb ys yp) 30)) else 0) := by
              rw [if_pos rfl, hy0, hy1, hy2]
              repeat' split
              all_goals omega
            rw [hres]
            subst hQ
            exact W.iret hx hb hrt (fun t9 ht hW => ⟨⟨0, rfl, Or.inr ⟨hbad, rfl⟩, by rw [ht]; exact hP, hD⟩, hS.F ht⟩) hS.2.2 d_M_count_203
        ·
          refine lv_iconst (v := eI 1) hx hb d_M_count_142 rfl ?_
          refine lv_goto (tgt := 147) hx hb d_M_count_143 rfl ?_
          refine we_iadd hx hb d_M_count_147 ?_
          refine lv_istore hx hb d_M_count_148 hl (by decide) rfl (fun ls hl => ?_)
          have hl : lv_has ls 6 [(4, .int (eI (0 + 1))), (3, .int (eI (eh_ph (eh_kc n ra ln cb ys yp) 30))), (2, .int (eI (eh_ob cb (n - 2)))), (0, .ref (md 0)), (1, .int (eI y))] := hl
          refine lv_iload_n hx hb d_M_count_150 rfl (lv_at hl 4 rfl) ?_
          refine we_if_ne (tgt := 161) hx hb (by constructor <;> omega) d_M_count_151 rfl (fun hc151 => ?_) (fun hc151 => ?_)
          ·
            refine lv_iload_n hx hb d_M_count_161 rfl (lv_at hl 4 rfl) ?_
            refine lv_iconst (v := eI 1) hx hb d_M_count_162 rfl ?_
            refine we_icmp_ne (tgt := 170) hx hb (by constructor <;> omega) (by constructor <;> omega) d_M_count_163 rfl (fun hc163 => ?_) (fun hc163 => ?_)
            ·
              refine lv_iload_n hx hb d_M_count_170 rfl (lv_at hl 4 rfl) ?_
              refine lv_iconst (v := eI 2) hx hb d_M_count_171 rfl ?_
              refine we_icmp_ne (tgt := 180) hx hb (by constructor <;> omega) (by constructor <;> omega) d_M_count_172 rfl (fun hc172 => ?_) (fun hc172 => ?_)
              ·
                refine lv_iload_n hx hb d_M_count_180 rfl (lv_at hl 4 rfl) ?_
                refine lv_iconst (v := eI 3) hx hb d_M_count_181 rfl ?_
                refine we_icmp_ne (tgt := 202) hx hb (by constructor <;> omega) (by constructor <;> omega) d_M_count_182 rfl (fun hc182 => ?_) (fun hc182 => ?_)
                ·
                  refine lv_iload_n hx hb d_M_count_202 rfl (lv_at hl 1 rfl) ?_
                  have hres : ((eh_ph (eh_kc n ra ln cb ys yp) 30) : Int) = (if (0 : Int) = 0 then (if y = 0 then ((n : Nat) : Int) else if y = 1 then (eh_ob cb (n - 2)) else if y = 2 then ((if ys 0 = -1 then 0 else 1) + (if ys 1 = -1 then 0 else 1)) else if y = 3 then (if ys 2 = -1 then 0 else 1) else (eh_ph (eh_kc n ra ln cb ys yp) 30)) else 0) := by
                    rw [if_pos rfl, hy0, hy1, hy2]
                    repeat' split
                    all_goals omega
                  rw [hres]
                  subst hQ
                  exact W.iret hx hb hrt (fun t9 ht hW => ⟨⟨0, rfl, Or.inr ⟨hbad, rfl⟩, by rw [ht]; exact hP, hD⟩, hS.F ht⟩) hS.2.2 d_M_count_203
                ·
                  refine lv_aload_n hx hb d_M_count_185 rfl (lv_at hl 3 rfl) ?_
                  refine va_get (D := D) (ci := 5) (v := .ref (md 4)) (C := R_M) (T := T_M) (N := 23) hx hb htb in_M hown hK hP 0 rfl rfl 7 (by decide) (htb _ tb_595) (fun _ h9 => h9) rfl d_M_count_186 ?_
                  refine lv_iconst (v := eI 2) hx hb d_M_count_189 rfl ?_
                  refine we_zald hx hb hK hP 4 2 rfl rfl 2 rfl (by decide) (by decide) d_M_count_190 ?_
                  refine we_if_eq (tgt := 198) hx hb (by constructor <;> omega) d_M_count_191 rfl (fun hc191 => ?_) (fun hc191 => ?_)
                  ·
                    refine lv_iconst (v := eI 0) hx hb d_M_count_198 rfl ?_
                    refine lv_goto (tgt := 203) hx hb d_M_count_199 rfl ?_
                    have hres : (0 : Int) = (if (0 : Int) = 0 then (if y = 0 then ((n : Nat) : Int) else if y = 1 then (eh_ob cb (n - 2)) else if y = 2 then ((if ys 0 = -1 then 0 else 1) + (if ys 1 = -1 then 0 else 1)) else if y = 3 then (if ys 2 = -1 then 0 else 1) else (eh_ph (eh_kc n ra ln cb ys yp) 30)) else 0) := by
                      rw [if_pos rfl, hy0, hy1, hy2]
                      repeat' split
                      all_goals omega
                    rw [hres]
                    subst hQ
                    exact W.iret hx hb hrt (fun t9 ht hW => ⟨⟨0, rfl, Or.inr ⟨hbad, rfl⟩, by rw [ht]; exact hP, hD⟩, hS.F ht⟩) hS.2.2 d_M_count_203
                  ·
                    refine lv_iconst (v := eI 1) hx hb d_M_count_194 rfl ?_
                    refine lv_goto (tgt := 203) hx hb d_M_count_195 rfl ?_
                    have hres : (1 : Int) = (if (0 : Int) = 0 then (if y = 0 then ((n : Nat) : Int) else if y = 1 then (eh_ob cb (n - 2)) else if y = 2 then ((if ys 0 = -1 then 0 else 1) + (if ys 1 = -1 then 0 else 1)) else if y = 3 then (if ys 2 = -1 then 0 else 1) else (eh_ph (eh_kc n ra ln cb ys yp) 30)) else 0) := by
                      rw [if_pos rfl, hy0, hy1, hy2]
                      repeat' split
                      all_goals omega
                    rw [hres]
                    subst hQ
                    exact W.iret hx hb hrt (fun t9 ht hW => ⟨⟨0, rfl, Or.inr ⟨hbad, rfl⟩, by rw [ht]; exact hP, hD⟩, hS.F ht⟩) hS.2.2 d_M_count_203
              ·
                refine lv_iload hx hb d_M_count_175 (lv_at hl 0 rfl) ?_
                refine lv_goto (tgt := 203) hx hb d_M_count_177 rfl ?_
                have hres : ((0 + 1) : Int) = (if (0 : Int) = 0 then (if y = 0 then ((n : Nat) : Int) else if y = 1 then (eh_ob cb (n - 2)) else if y = 2 then ((if ys 0 = -1 then 0 else 1) + (if ys 1 = -1 then 0 else 1)) else if y = 3 then (if ys 2 = -1 then 0 else 1) else (eh_ph (eh_kc n ra ln cb ys yp) 30)) else 0) := by
                  rw [if_pos rfl, hy0, hy1, hy2]
                  repeat' split
                  all_goals omega
                rw [hres]
                subst hQ
                exact W.iret hx hb hrt (fun t9 ht hW => ⟨⟨0, rfl, Or.inr ⟨hbad, rfl⟩, by rw [ht]; exact hP, hD⟩, hS.F ht⟩) hS.2.2 d_M_count_203
            ·
              refine lv_iload_n hx hb d_M_count_166 rfl (lv_at hl 2 rfl) ?_
              refine lv_goto (tgt := 203) hx hb d_M_count_167 rfl ?_
              have hres : ((eh_ob cb (n - 2)) : Int) = (if (0 : Int) = 0 then (if y = 0 then ((n : Nat) : Int) else if y = 1 then (eh_ob cb (n - 2)) else if y = 2 then ((if ys 0 = -1 then 0 else 1) + (if ys 1 = -1 then 0 else 1)) else if y = 3 then (if ys 2 = -1 then 0 else 1) else (eh_ph (eh_kc n ra ln cb ys yp) 30)) else 0) := by
                rw [if_pos rfl, hy0, hy1, hy2]
                repeat' split
                all_goals omega
              rw [hres]
              subst hQ
              exact W.iret hx hb hrt (fun t9 ht hW => ⟨⟨0, rfl, Or.inr ⟨hbad, rfl⟩, by rw [ht]; exact hP, hD⟩, hS.F ht⟩) hS.2.2 d_M_count_203
          ·
            refine lv_aload_n hx hb d_M_count_154 rfl (lv_at hl 3 rfl) ?_
            refine va_get (D := D) (ci := 5) (v := .int (eI ((n : Nat) : Int))) (C := R_M) (T := T_M) (N := 23) hx hb htb in_M hown hK hP 0 rfl rfl 1 (by decide) (htb _ tb_589) (fun _ h9 => h9) rfl d_M_count_155 ?_
            refine lv_goto (tgt := 203) hx hb d_M_count_158 rfl ?_
            have hres : (((n : Nat) : Int) : Int) = (if (0 : Int) = 0 then (if y = 0 then ((n : Nat) : Int) else if y = 1 then (eh_ob cb (n - 2)) else if y = 2 then ((if ys 0 = -1 then 0 else 1) + (if ys 1 = -1 then 0 else 1)) else if y = 3 then (if ys 2 = -1 then 0 else 1) else (eh_ph (eh_kc n ra ln cb ys yp) 30)) else 0) := by
              rw [if_pos rfl, hy0, hy1, hy2]
              repeat' split
              all_goals omega
            rw [hres]
            subst hQ
            exact W.iret hx hb hrt (fun t9 ht hW => ⟨⟨0, rfl, Or.inr ⟨hbad, rfl⟩, by rw [ht]; exact hP, hD⟩, hS.F ht⟩) hS.2.2 d_M_count_203
      ·
        refine lv_iconst (v := eI 1) hx hb d_M_count_128 rfl ?_
        refine lv_goto (tgt := 133) hx hb d_M_count_129 rfl ?_
        refine lv_aload_n hx hb d_M_count_133 rfl (lv_at hl 2 rfl) ?_
        refine va_get (D := D) (ci := 5) (v := .ref (md 4)) (C := R_M) (T := T_M) (N := 23) hx hb htb in_M hown hK hP 0 rfl rfl 7 (by decide) (htb _ tb_595) (fun _ h9 => h9) rfl d_M_count_134 ?_
        refine lv_iconst (v := eI 1) hx hb d_M_count_137 rfl ?_
        refine we_zald hx hb hK hP 4 2 rfl rfl 1 rfl (by decide) (by decide) d_M_count_138 ?_
        refine we_if_eq (tgt := 146) hx hb (by constructor <;> omega) d_M_count_139 rfl (fun hc139 => ?_) (fun hc139 => ?_)
        ·
          refine lv_iconst (v := eI 0) hx hb d_M_count_146 rfl ?_
          refine we_iadd hx hb d_M_count_147 ?_
          refine lv_istore hx hb d_M_count_148 hl (by decide) rfl (fun ls hl => ?_)
          have hl : lv_has ls 6 [(4, .int (eI (1 + 0))), (3, .int (eI (eh_ph (eh_kc n ra ln cb ys yp) 30))), (2, .int (eI (eh_ob cb (n - 2)))), (0, .ref (md 0)), (1, .int (eI y))] := hl
          refine lv_iload_n hx hb d_M_count_150 rfl (lv_at hl 4 rfl) ?_
          refine we_if_ne (tgt := 161) hx hb (by constructor <;> omega) d_M_count_151 rfl (fun hc151 => ?_) (fun hc151 => ?_)
          ·
            refine lv_iload_n hx hb d_M_count_161 rfl (lv_at hl 4 rfl) ?_
            refine lv_iconst (v := eI 1) hx hb d_M_count_162 rfl ?_
            refine we_icmp_ne (tgt := 170) hx hb (by constructor <;> omega) (by constructor <;> omega) d_M_count_163 rfl (fun hc163 => ?_) (fun hc163 => ?_)
            ·
              refine lv_iload_n hx hb d_M_count_170 rfl (lv_at hl 4 rfl) ?_
              refine lv_iconst (v := eI 2) hx hb d_M_count_171 rfl ?_
              refine we_icmp_ne (tgt := 180) hx hb (by constructor <;> omega) (by constructor <;> omega) d_M_count_172 rfl (fun hc172 => ?_) (fun hc172 => ?_)
              ·
                refine lv_iload_n hx hb d_M_count_180 rfl (lv_at hl 4 rfl) ?_
                refine lv_iconst (v := eI 3) hx hb d_M_count_181 rfl ?_
                refine we_icmp_ne (tgt := 202) hx hb (by constructor <;> omega) (by constructor <;> omega) d_M_count_182 rfl (fun hc182 => ?_) (fun hc182 => ?_)
                ·
                  refine lv_iload_n hx hb d_M_count_202 rfl (lv_at hl 1 rfl) ?_
                  have hres : ((eh_ph (eh_kc n ra ln cb ys yp) 30) : Int) = (if (0 : Int) = 0 then (if y = 0 then ((n : Nat) : Int) else if y = 1 then (eh_ob cb (n - 2)) else if y = 2 then ((if ys 0 = -1 then 0 else 1) + (if ys 1 = -1 then 0 else 1)) else if y = 3 then (if ys 2 = -1 then 0 else 1) else (eh_ph (eh_kc n ra ln cb ys yp) 30)) else 0) := by
                    rw [if_pos rfl, hy0, hy1, hy2]
                    repeat' split
                    all_goals omega
                  rw [hres]
                  subst hQ
                  exact W.iret hx hb hrt (fun t9 ht hW => ⟨⟨0, rfl, Or.inr ⟨hbad, rfl⟩, by rw [ht]; exact hP, hD⟩, hS.F ht⟩) hS.2.2 d_M_count_203
                ·
                  refine lv_aload_n hx hb d_M_count_185 rfl (lv_at hl 3 rfl) ?_
                  refine va_get (D := D) (ci := 5) (v := .ref (md 4)) (C := R_M) (T := T_M) (N := 23) hx hb htb in_M hown hK hP 0 rfl rfl 7 (by decide) (htb _ tb_595) (fun _ h9 => h9) rfl d_M_count_186 ?_
                  refine lv_iconst (v := eI 2) hx hb d_M_count_189 rfl ?_
                  refine we_zald hx hb hK hP 4 2 rfl rfl 2 rfl (by decide) (by decide) d_M_count_190 ?_
                  refine we_if_eq (tgt := 198) hx hb (by constructor <;> omega) d_M_count_191 rfl (fun hc191 => ?_) (fun hc191 => ?_)
                  ·
                    refine lv_iconst (v := eI 0) hx hb d_M_count_198 rfl ?_
                    refine lv_goto (tgt := 203) hx hb d_M_count_199 rfl ?_
                    have hres : (0 : Int) = (if (0 : Int) = 0 then (if y = 0 then ((n : Nat) : Int) else if y = 1 then (eh_ob cb (n - 2)) else if y = 2 then ((if ys 0 = -1 then 0 else 1) + (if ys 1 = -1 then 0 else 1)) else if y = 3 then (if ys 2 = -1 then 0 else 1) else (eh_ph (eh_kc n ra ln cb ys yp) 30)) else 0) := by
                      rw [if_pos rfl, hy0, hy1, hy2]
                      repeat' split
                      all_goals omega
                    rw [hres]
                    subst hQ
                    exact W.iret hx hb hrt (fun t9 ht hW => ⟨⟨0, rfl, Or.inr ⟨hbad, rfl⟩, by rw [ht]; exact hP, hD⟩, hS.F ht⟩) hS.2.2 d_M_count_203
                  ·
                    refine lv_iconst (v := eI 1) hx hb d_M_count_194 rfl ?_
                    refine lv_goto (tgt := 203) hx hb d_M_count_195 rfl ?_
                    have hres : (1 : Int) = (if (0 : Int) = 0 then (if y = 0 then ((n : Nat) : Int) else if y = 1 then (eh_ob cb (n - 2)) else if y = 2 then ((if ys 0 = -1 then 0 else 1) + (if ys 1 = -1 then 0 else 1)) else if y = 3 then (if ys 2 = -1 then 0 else 1) else (eh_ph (eh_kc n ra ln cb ys yp) 30)) else 0) := by
                      rw [if_pos rfl, hy0, hy1, hy2]
                      repeat' split
                      all_goals omega
                    rw [hres]
                    subst hQ
                    exact W.iret hx hb hrt (fun t9 ht hW => ⟨⟨0, rfl, Or.inr ⟨hbad, rfl⟩, by rw [ht]; exact hP, hD⟩, hS.F ht⟩) hS.2.2 d_M_count_203
              ·
                refine lv_iload hx hb d_M_count_175 (lv_at hl 0 rfl) ?_
                refine lv_goto (tgt := 203) hx hb d_M_count_177 rfl ?_
                have hres : ((1 + 0) : Int) = (if (0 : Int) = 0 then (if y = 0 then ((n : Nat) : Int) else if y = 1 then (eh_ob cb (n - 2)) else if y = 2 then ((if ys 0 = -1 then 0 else 1) + (if ys 1 = -1 then 0 else 1)) else if y = 3 then (if ys 2 = -1 then 0 else 1) else (eh_ph (eh_kc n ra ln cb ys yp) 30)) else 0) := by
                  rw [if_pos rfl, hy0, hy1, hy2]
                  repeat' split
                  all_goals omega
                rw [hres]
                subst hQ
                exact W.iret hx hb hrt (fun t9 ht hW => ⟨⟨0, rfl, Or.inr ⟨hbad, rfl⟩, by rw [ht]; exact hP, hD⟩, hS.F ht⟩) hS.2.2 d_M_count_203
            ·
              refine lv_iload_n hx hb d_M_count_166 rfl (lv_at hl 2 rfl) ?_
              refine lv_goto (tgt := 203) hx hb d_M_count_167 rfl ?_
              have hres : ((eh_ob cb (n - 2)) : Int) = (if (0 : Int) = 0 then (if y = 0 then ((n : Nat) : Int) else if y = 1 then (eh_ob cb (n - 2)) else if y = 2 then ((if ys 0 = -1 then 0 else 1) + (if ys 1 = -1 then 0 else 1)) else if y = 3 then (if ys 2 = -1 then 0 else 1) else (eh_ph (eh_kc n ra ln cb ys yp) 30)) else 0) := by
                rw [if_pos rfl, hy0, hy1, hy2]
                repeat' split
                all_goals omega
              rw [hres]
              subst hQ
              exact W.iret hx hb hrt (fun t9 ht hW => ⟨⟨0, rfl, Or.inr ⟨hbad, rfl⟩, by rw [ht]; exact hP, hD⟩, hS.F ht⟩) hS.2.2 d_M_count_203
          ·
            refine lv_aload_n hx hb d_M_count_154 rfl (lv_at hl 3 rfl) ?_
            refine va_get (D := D) (ci := 5) (v := .int (eI ((n : Nat) : Int))) (C := R_M) (T := T_M) (N := 23) hx hb htb in_M hown hK hP 0 rfl rfl 1 (by decide) (htb _ tb_589) (fun _ h9 => h9) rfl d_M_count_155 ?_
            refine lv_goto (tgt := 203) hx hb d_M_count_158 rfl ?_
            have hres : (((n : Nat) : Int) : Int) = (if (0 : Int) = 0 then (if y = 0 then ((n : Nat) : Int) else if y = 1 then (eh_ob cb (n - 2)) else if y = 2 then ((if ys 0 = -1 then 0 else 1) + (if ys 1 = -1 then 0 else 1)) else if y = 3 then (if ys 2 = -1 then 0 else 1) else (eh_ph (eh_kc n ra ln cb ys yp) 30)) else 0) := by
              rw [if_pos rfl, hy0, hy1, hy2]
              repeat' split
              all_goals omega
            rw [hres]
            subst hQ
            exact W.iret hx hb hrt (fun t9 ht hW => ⟨⟨0, rfl, Or.inr ⟨hbad, rfl⟩, by rw [ht]; exact hP, hD⟩, hS.F ht⟩) hS.2.2 d_M_count_203
        ·
          refine lv_iconst (v := eI 1) hx hb d_M_count_142 rfl ?_
          refine lv_goto (tgt := 147) hx hb d_M_count_143 rfl ?_
          refine we_iadd hx hb d_M_count_147 ?_
          refine lv_istore hx hb d_M_count_148 hl (by decide) rfl (fun ls hl => ?_)
          have hl : lv_has ls 6 [(4, .int (eI (1 + 1))), (3, .int (eI (eh_ph (eh_kc n ra ln cb ys yp) 30))), (2, .int (eI (eh_ob cb (n - 2)))), (0, .ref (md 0)), (1, .int (eI y))] := hl
          refine lv_iload_n hx hb d_M_count_150 rfl (lv_at hl 4 rfl) ?_
          refine we_if_ne (tgt := 161) hx hb (by constructor <;> omega) d_M_count_151 rfl (fun hc151 => ?_) (fun hc151 => ?_)
          ·
            refine lv_iload_n hx hb d_M_count_161 rfl (lv_at hl 4 rfl) ?_
            refine lv_iconst (v := eI 1) hx hb d_M_count_162 rfl ?_
            refine we_icmp_ne (tgt := 170) hx hb (by constructor <;> omega) (by constructor <;> omega) d_M_count_163 rfl (fun hc163 => ?_) (fun hc163 => ?_)
            ·
              refine lv_iload_n hx hb d_M_count_170 rfl (lv_at hl 4 rfl) ?_
              refine lv_iconst (v := eI 2) hx hb d_M_count_171 rfl ?_
              refine we_icmp_ne (tgt := 180) hx hb (by constructor <;> omega) (by constructor <;> omega) d_M_count_172 rfl (fun hc172 => ?_) (fun hc172 => ?_)
              ·
                refine lv_iload_n hx hb d_M_count_180 rfl (lv_at hl 4 rfl) ?_
                refine lv_iconst (v := eI 3) hx hb d_M_count_181 rfl ?_
                refine we_icmp_ne (tgt := 202) hx hb (by constructor <;> omega) (by constructor <;> omega) d_M_count_182 rfl (fun hc182 => ?_) (fun hc182 => ?_)
                ·
                  refine lv_iload_n hx hb d_M_count_202 rfl (lv_at hl 1 rfl) ?_
                  have hres : ((eh_ph (eh_kc n ra ln cb ys yp) 30) : Int) = (if (0 : Int) = 0 then (if y = 0 then ((n : Nat) : Int) else if y = 1 then (eh_ob cb (n - 2)) else if y = 2 then ((if ys 0 = -1 then 0 else 1) + (if ys 1 = -1 then 0 else 1)) else if y = 3 then (if ys 2 = -1 then 0 else 1) else (eh_ph (eh_kc n ra ln cb ys yp) 30)) else 0) := by
                    rw [if_pos rfl, hy0, hy1, hy2]
                    repeat' split
                    all_goals omega
                  rw [hres]
                  subst hQ
                  exact W.iret hx hb hrt (fun t9 ht hW => ⟨⟨0, rfl, Or.inr ⟨hbad, rfl⟩, by rw [ht]; exact hP, hD⟩, hS.F ht⟩) hS.2.2 d_M_count_203
                ·
                  refine lv_aload_n hx hb d_M_count_185 rfl (lv_at hl 3 rfl) ?_
                  refine va_get (D := D) (ci := 5) (v := .ref (md 4)) (C := R_M) (T := T_M) (N := 23) hx hb htb in_M hown hK hP 0 rfl rfl 7 (by decide) (htb _ tb_595) (fun _ h9 => h9) rfl d_M_count_186 ?_
                  refine lv_iconst (v := eI 2) hx hb d_M_count_189 rfl ?_
                  refine we_zald hx hb hK hP 4 2 rfl rfl 2 rfl (by decide) (by decide) d_M_count_190 ?_
                  refine we_if_eq (tgt := 198) hx hb (by constructor <;> omega) d_M_count_191 rfl (fun hc191 => ?_) (fun hc191 => ?_)
                  ·
                    refine lv_iconst (v := eI 0) hx hb d_M_count_198 rfl ?_
                    refine lv_goto (tgt := 203) hx hb d_M_count_199 rfl ?_
                    have hres : (0 : Int) = (if (0 : Int) = 0 then (if y = 0 then ((n : Nat) : Int) else if y = 1 then (eh_ob cb (n - 2)) else if y = 2 then ((if ys 0 = -1 then 0 else 1) + (if ys 1 = -1 then 0 else 1)) else if y = 3 then (if ys 2 = -1 then 0 else 1) else (eh_ph (eh_kc n ra ln cb ys yp) 30)) else 0) := by
                      rw [if_pos rfl, hy0, hy1, hy2]
                      repeat' split
                      all_goals omega
                    rw [hres]
                    subst hQ
                    exact W.iret hx hb hrt (fun t9 ht hW => ⟨⟨0, rfl, Or.inr ⟨hbad, rfl⟩, by rw [ht]; exact hP, hD⟩, hS.F ht⟩) hS.2.2 d_M_count_203
                  ·
                    refine lv_iconst (v := eI 1) hx hb d_M_count_194 rfl ?_
                    refine lv_goto (tgt := 203) hx hb d_M_count_195 rfl ?_
                    have hres : (1 : Int) = (if (0 : Int) = 0 then (if y = 0 then ((n : Nat) : Int) else if y = 1 then (eh_ob cb (n - 2)) else if y = 2 then ((if ys 0 = -1 then 0 else 1) + (if ys 1 = -1 then 0 else 1)) else if y = 3 then (if ys 2 = -1 then 0 else 1) else (eh_ph (eh_kc n ra ln cb ys yp) 30)) else 0) := by
                      rw [if_pos rfl, hy0, hy1, hy2]
                      repeat' split
                      all_goals omega
                    rw [hres]
                    subst hQ
                    exact W.iret hx hb hrt (fun t9 ht hW => ⟨⟨0, rfl, Or.inr ⟨hbad, rfl⟩, by rw [ht]; exact hP, hD⟩, hS.F ht⟩) hS.2.2 d_M_count_203
              ·
                refine lv_iload hx hb d_M_count_175 (lv_at hl 0 rfl) ?_
                refine lv_goto (tgt := 203) hx hb d_M_count_177 rfl ?_
                have hres : ((1 + 1) : Int) = (if (0 : Int) = 0 then (if y = 0 then ((n : Nat) : Int) else if y = 1 then (eh_ob cb (n - 2)) else if y = 2 then ((if ys 0 = -1 then 0 else 1) + (if ys 1 = -1 then 0 else 1)) else if y = 3 then (if ys 2 = -1 then 0 else 1) else (eh_ph (eh_kc n ra ln cb ys yp) 30)) else 0) := by
                  rw [if_pos rfl, hy0, hy1, hy2]
                  repeat' split
                  all_goals omega
                rw [hres]
                subst hQ
                exact W.iret hx hb hrt (fun t9 ht hW => ⟨⟨0, rfl, Or.inr ⟨hbad, rfl⟩, by rw [ht]; exact hP, hD⟩, hS.F ht⟩) hS.2.2 d_M_count_203
            ·
              refine lv_iload_n hx hb d_M_count_166 rfl (lv_at hl 2 rfl) ?_
              refine lv_goto (tgt := 203) hx hb d_M_count_167 rfl ?_
              have hres : ((eh_ob cb (n - 2)) : Int) = (if (0 : Int) = 0 then (if y = 0 then ((n : Nat) : Int) else if y = 1 then (eh_ob cb (n - 2)) else if y = 2 then ((if ys 0 = -1 then 0 else 1) + (if ys 1 = -1 then 0 else 1)) else if y = 3 then (if ys 2 = -1 then 0 else 1) else (eh_ph (eh_kc n ra ln cb ys yp) 30)) else 0) := by
                rw [if_pos rfl, hy0, hy1, hy2]
                repeat' split
                all_goals omega
              rw [hres]
              subst hQ
              exact W.iret hx hb hrt (fun t9 ht hW => ⟨⟨0, rfl, Or.inr ⟨hbad, rfl⟩, by rw [ht]; exact hP, hD⟩, hS.F ht⟩) hS.2.2 d_M_count_203
          ·
            refine lv_aload_n hx hb d_M_count_154 rfl (lv_at hl 3 rfl) ?_
            refine va_get (D := D) (ci := 5) (v := .int (eI ((n : Nat) : Int))) (C := R_M) (T := T_M) (N := 23) hx hb htb in_M hown hK hP 0 rfl rfl 1 (by decide) (htb _ tb_589) (fun _ h9 => h9) rfl d_M_count_155 ?_
            refine lv_goto (tgt := 203) hx hb d_M_count_158 rfl ?_
            have hres : (((n : Nat) : Int) : Int) = (if (0 : Int) = 0 then (if y = 0 then ((n : Nat) : Int) else if y = 1 then (eh_ob cb (n - 2)) else if y = 2 then ((if ys 0 = -1 then 0 else 1) + (if ys 1 = -1 then 0 else 1)) else if y = 3 then (if ys 2 = -1 then 0 else 1) else (eh_ph (eh_kc n ra ln cb ys yp) 30)) else 0) := by
              rw [if_pos rfl, hy0, hy1, hy2]
              repeat' split
              all_goals omega
            rw [hres]
            subst hQ
            exact W.iret hx hb hrt (fun t9 ht hW => ⟨⟨0, rfl, Or.inr ⟨hbad, rfl⟩, by rw [ht]; exact hP, hD⟩, hS.F ht⟩) hS.2.2 d_M_count_203
    have rows : ∀ (q y9 : Nat) (ls : Array Slot), 6 - y9 = q → y9 ≤ 6 → lv_has ls 6 [(4, .int (eI ((y9 : Nat) : Int))), (3, .int (eI (eh_ph (eh_kc n ra ln cb ys yp) (5 * y9)))), (2, .int (eI (eh_ob cb (n - 2)))), (0, .ref (md 0)), (1, .int (eI y))] → W p l e R s m args below meth c H locs 0 0 Q (F0 m 72 ls []) := by
      intro q
      induction q with
      | zero =>
        intro y9 ls hq hy9 hl
        have hy6 : y9 = 6 := by omega
        subst hy6
        refine lv_iload hx hb d_M_count_72 (lv_at hl 0 rfl) ?_
        refine lv_bipush (v := eI 6) hx hb d_M_count_74 (by decide) ?_
        refine we_icmp_ge (tgt := 119) hx hb (by constructor <;> omega) (by constructor <;> omega) d_M_count_76 rfl (fun hc76 => ?_) (fun hc76 => absurd hc76 (by omega))
        exact fin ls (lv_sub hl [1, 2, 3, 4] rfl)
      | succ q ih =>
        intro y9 ls hq hy9 hl
        refine lv_iload hx hb d_M_count_72 (lv_at hl 0 rfl) ?_
        refine lv_bipush (v := eI 6) hx hb d_M_count_74 (by decide) ?_
        refine we_icmp_ge (tgt := 119) hx hb (by constructor <;> omega) (by constructor <;> omega) d_M_count_76 rfl (fun hc76 => absurd hc76 (by omega)) (fun hc76 => ?_)
        refine lv_iconst (v := eI 0) hx hb d_M_count_79 rfl ?_
        refine lv_istore hx hb d_M_count_80 hl (by decide) rfl (fun ls hl => ?_)
        have hl : lv_has ls 6 [(5, .int (eI 0)), (4, .int (eI ((y9 : Nat) : Int))), (3, .int (eI (eh_ph (eh_kc n ra ln cb ys yp) (5 * y9)))), (2, .int (eI (eh_ob cb (n - 2)))), (0, .ref (md 0)), (1, .int (eI y))] := hl
        have cols : ∀ (q2 z : Nat) (ls : Array Slot), 5 - z = q2 → z ≤ 5 → lv_has ls 6 [(5, .int (eI ((z : Nat) : Int))), (4, .int (eI ((y9 : Nat) : Int))), (3, .int (eI (eh_ph (eh_kc n ra ln cb ys yp) (5 * y9 + z)))), (2, .int (eI (eh_ob cb (n - 2)))), (0, .ref (md 0)), (1, .int (eI y))] → W p l e R s m args below meth c H locs 0 0 Q (F0 m 82 ls []) := by
          intro q2
          induction q2 with
          | zero =>
            intro z ls hq2 hz hl
            have hz5 : z = 5 := by omega
            subst hz5
            refine lv_iload hx hb d_M_count_82 (lv_at hl 0 rfl) ?_
            refine lv_iconst (v := eI 5) hx hb d_M_count_84 rfl ?_
            refine we_icmp_ge (tgt := 113) hx hb (by constructor <;> omega) (by constructor <;> omega) d_M_count_85 rfl (fun hc85 => ?_) (fun hc85 => absurd hc85 (by omega))
            refine lv_iinc (v := eI (((y9 : Nat) : Int) + 1)) hx hb d_M_count_113 hl (k := 1) rfl (eI_add _ _) (by decide) rfl (fun ls hl => ?_)
            have hl : lv_has ls 6 [(4, .int (eI (((y9 : Nat) : Int) + 1))), (5, .int (eI ((5 : Nat) : Int))), (3, .int (eI (eh_ph (eh_kc n ra ln cb ys yp) (5 * y9 + 5)))), (2, .int (eI (eh_ob cb (n - 2)))), (0, .ref (md 0)), (1, .int (eI y))] := hl
            refine lv_goto (tgt := 72) hx hb d_M_count_116 rfl ?_
            exact ih (y9 + 1) ls (by omega) (by omega) (by rw [show 5 * (y9 + 1) = 5 * y9 + 5 by omega]; exact lv_sub hl [0, 2, 3, 4, 5] rfl)
          | succ q2 ih2 =>
            intro z ls hq2 hz hl
            have hkb := eh_ku_b hM.1 (s := y9) (t := z) (by omega) (by omega)
            have hkc := eh_kc_at n ra ln cb ys yp (a := y9) (b := z) (by omega)
            refine lv_iload hx hb d_M_count_82 (lv_at hl 0 rfl) ?_
            refine lv_iconst (v := eI 5) hx hb d_M_count_84 rfl ?_
            refine we_icmp_ge (tgt := 113) hx hb (by constructor <;> omega) (by constructor <;> omega) d_M_count_85 rfl (fun hc85 => absurd hc85 (by omega)) (fun hc85 => ?_)
            refine lv_aload_n hx hb d_M_count_88 rfl (lv_at hl 4 rfl) ?_
            refine lv_iload hx hb d_M_count_89 (lv_at hl 1 rfl) ?_
            refine lv_iload hx hb d_M_count_91 (lv_at hl 0 rfl) ?_
            refine eh_cRV (As := [.int (eI ((y9 : Nat) : Int)), .int (eI ((z : Nat) : Int))]) (rest := []) (v := .int (eI (eh_ku n ra ln cb ys yp y9 z))) (q := (R_M, T_M, 23)) hx hb hml hown htb hN (r_M_costOf l D cI cL cZ md 0 n sh ra up lw kn fo sc ln cb th pl lo pr la cu cl fu fl ys yl yp y9 z (by omega) (by omega) hM) 2 ⟨tb_741, tb_743, ts_34, tb_7, kin_M_costOf⟩ dv_M_costOf ⟨by rw [hR1]; decide, by rw [hR2]; decide⟩ hK hP 0 rfl rfl [0, 1, 2, 3, 4, 5, 6, 7, 8] rfl [0, 1, 2] rfl rfl rfl hl.1 (Nat.le_of_ble_eq_true rfl) d_M_count_93 ⟨Nat.zero_le _, Nat.zero_le _⟩ ?_
            refine we_if_ge (tgt := 103) hx hb (by constructor <;> omega) d_M_count_96 rfl (fun hc96 => ?_) (fun hc96 => ?_)
            ·
              refine lv_iload_n hx hb d_M_count_103 rfl (lv_at hl 2 rfl) ?_
              refine lv_iconst (v := eI 1) hx hb d_M_count_104 rfl ?_
              refine we_iadd hx hb d_M_count_105 ?_
              refine lv_istore_n hx hb d_M_count_106 rfl hl (by decide) rfl (fun ls hl => ?_)
              have hl : lv_has ls 6 [(3, .int (eI ((eh_ph (eh_kc n ra ln cb ys yp) (5 * y9 + z)) + 1))), (5, .int (eI ((z : Nat) : Int))), (4, .int (eI ((y9 : Nat) : Int))), (2, .int (eI (eh_ob cb (n - 2)))), (0, .ref (md 0)), (1, .int (eI y))] := hl
              refine lv_iinc (v := eI (((z : Nat) : Int) + 1)) hx hb d_M_count_107 hl (k := 1) rfl (eI_add _ _) (by decide) rfl (fun ls hl => ?_)
              have hl : lv_has ls 6 [(5, .int (eI (((z : Nat) : Int) + 1))), (3, .int (eI ((eh_ph (eh_kc n ra ln cb ys yp) (5 * y9 + z)) + 1))), (4, .int (eI ((y9 : Nat) : Int))), (2, .int (eI (eh_ob cb (n - 2)))), (0, .ref (md 0)), (1, .int (eI y))] := hl
              refine lv_goto (tgt := 82) hx hb d_M_count_110 rfl ?_
              have hs9 : ((eh_ph (eh_kc n ra ln cb ys yp) (5 * y9 + z)) + 1) = (eh_ph (eh_kc n ra ln cb ys yp) (5 * y9 + (z + 1))) := by
                show _ = eh_ph (eh_kc n ra ln cb ys yp) (5 * y9 + z) + (if (eh_kc n ra ln cb ys yp) (5 * y9 + z) = -1 then 0 else 1)
                rw [hkc, if_neg (by omega)]
              rw [hs9] at hl
              exact ih2 (z + 1) ls (by omega) (by omega) (lv_sub hl [0, 2, 1, 3, 4, 5] rfl)
            ·
              refine lv_iload_n hx hb d_M_count_99 rfl (lv_at hl 2 rfl) ?_
              refine lv_goto (tgt := 106) hx hb d_M_count_100 rfl ?_
              refine lv_istore_n hx hb d_M_count_106 rfl hl (by decide) rfl (fun ls hl => ?_)
              have hl : lv_has ls 6 [(3, .int (eI (eh_ph (eh_kc n ra ln cb ys yp) (5 * y9 + z)))), (5, .int (eI ((z : Nat) : Int))), (4, .int (eI ((y9 : Nat) : Int))), (2, .int (eI (eh_ob cb (n - 2)))), (0, .ref (md 0)), (1, .int (eI y))] := hl
              refine lv_iinc (v := eI (((z : Nat) : Int) + 1)) hx hb d_M_count_107 hl (k := 1) rfl (eI_add _ _) (by decide) rfl (fun ls hl => ?_)
              have hl : lv_has ls 6 [(5, .int (eI (((z : Nat) : Int) + 1))), (3, .int (eI (eh_ph (eh_kc n ra ln cb ys yp) (5 * y9 + z)))), (4, .int (eI ((y9 : Nat) : Int))), (2, .int (eI (eh_ob cb (n - 2)))), (0, .ref (md 0)), (1, .int (eI y))] := hl
              refine lv_goto (tgt := 82) hx hb d_M_count_110 rfl ?_
              have hs9 : (eh_ph (eh_kc n ra ln cb ys yp) (5 * y9 + z)) = (eh_ph (eh_kc n ra ln cb ys yp) (5 * y9 + (z + 1))) := by
                show _ = eh_ph (eh_kc n ra ln cb ys yp) (5 * y9 + z) + (if (eh_kc n ra ln cb ys yp) (5 * y9 + z) = -1 then 0 else 1)
                rw [hkc, if_pos (by omega), Int.add_zero]
              rw [hs9] at hl
              exact ih2 (z + 1) ls (by omega) (by omega) (lv_sub hl [0, 2, 1, 3, 4, 5] rfl)
        exact cols 5 0 ls (by omega) (by omega) (lv_sub hl [0, 1, 2, 3, 4, 5] rfl)
    have loop : ∀ (q k : Nat) (ls : Array Slot), n - 2 - k = q → k ≤ n - 2 → lv_has ls 6 [(4, .int (eI ((k : Nat) : Int))), (3, .int (eI 0)), (2, .int (eI (eh_ob cb k))), (0, .ref (md 0)), (1, .int (eI y))] → W p l e R s m args below meth c H locs 0 0 Q (F0 m 34 ls []) := by
      intro q
      induction q with
      | zero =>
        intro k ls hq hk hl
        have hkn : k = n - 2 := by omega
        refine lv_iload hx hb d_M_count_34 (lv_at hl 0 rfl) ?_
        refine lv_iconst (v := eI 2) hx hb d_M_count_36 rfl ?_
        refine we_iadd hx hb d_M_count_37 ?_
        refine lv_aload_n hx hb d_M_count_38 rfl (lv_at hl 3 rfl) ?_
        refine va_get (D := D) (ci := 5) (v := .int (eI ((n : Nat) : Int))) (C := R_M) (T := T_M) (N := 23) hx hb htb in_M hown hK hP 0 rfl rfl 1 (by decide) (htb _ tb_589) (fun _ h9 => h9) rfl d_M_count_39 ?_
        refine we_icmp_ge (tgt := 69) hx hb (by constructor <;> omega) (by constructor <;> omega) d_M_count_42 rfl (fun hc42 => ?_) (fun hc42 => absurd hc42 (by omega))
        refine lv_iconst (v := eI 0) hx hb d_M_count_69 rfl ?_
        refine lv_istore hx hb d_M_count_70 hl (by decide) rfl (fun ls hl => ?_)
        have hl : lv_has ls 6 [(4, .int (eI 0)), (3, .int (eI 0)), (2, .int (eI (eh_ob cb k))), (0, .ref (md 0)), (1, .int (eI y))] := hl
        rw [hkn] at hl
        exact rows 6 0 ls (by omega) (by omega) (lv_sub hl [0, 1, 2, 3, 4] rfl)
      | succ q ih =>
        intro k ls hq hk hl
        have hcb := hM.1.2.2.2.2.1 k (by omega)
        refine lv_iload hx hb d_M_count_34 (lv_at hl 0 rfl) ?_
        refine lv_iconst (v := eI 2) hx hb d_M_count_36 rfl ?_
        refine we_iadd hx hb d_M_count_37 ?_
        refine lv_aload_n hx hb d_M_count_38 rfl (lv_at hl 3 rfl) ?_
        refine va_get (D := D) (ci := 5) (v := .int (eI ((n : Nat) : Int))) (C := R_M) (T := T_M) (N := 23) hx hb htb in_M hown hK hP 0 rfl rfl 1 (by decide) (htb _ tb_589) (fun _ h9 => h9) rfl d_M_count_39 ?_
        refine we_icmp_ge (tgt := 69) hx hb (by constructor <;> omega) (by constructor <;> omega) d_M_count_42 rfl (fun hc42 => absurd hc42 (by omega)) (fun hc42 => ?_)
        refine lv_aload_n hx hb d_M_count_45 rfl (lv_at hl 3 rfl) ?_
        refine va_get (D := D) (ci := 5) (v := .ref (md 3)) (C := R_M) (T := T_M) (N := 23) hx hb htb in_M hown hK hP 0 rfl rfl 4 (by decide) (htb _ tb_592) (fun _ h9 => h9) rfl d_M_count_46 ?_
        refine lv_iload hx hb d_M_count_49 (lv_at hl 0 rfl) ?_
        refine we_zald hx hb hK hP 3 2 rfl rfl k rfl (by omega) (by decide) d_M_count_51 ?_
        refine we_if_eq (tgt := 59) hx hb (by constructor <;> omega) d_M_count_52 rfl (fun hc52 => ?_) (fun hc52 => ?_)
        ·
          refine lv_iload_n hx hb d_M_count_59 rfl (lv_at hl 2 rfl) ?_
          refine lv_iconst (v := eI 1) hx hb d_M_count_60 rfl ?_
          refine we_iadd hx hb d_M_count_61 ?_
          refine lv_istore_n hx hb d_M_count_62 rfl hl (by decide) rfl (fun ls hl => ?_)
          have hl : lv_has ls 6 [(2, .int (eI ((eh_ob cb k) + 1))), (4, .int (eI ((k : Nat) : Int))), (3, .int (eI 0)), (0, .ref (md 0)), (1, .int (eI y))] := hl
          refine lv_iinc (v := eI (((k : Nat) : Int) + 1)) hx hb d_M_count_63 hl (k := 1) rfl (eI_add _ _) (by decide) rfl (fun ls hl => ?_)
          have hl : lv_has ls 6 [(4, .int (eI (((k : Nat) : Int) + 1))), (2, .int (eI ((eh_ob cb k) + 1))), (3, .int (eI 0)), (0, .ref (md 0)), (1, .int (eI y))] := hl
          refine lv_goto (tgt := 34) hx hb d_M_count_66 rfl ?_
          have hs9 : ((eh_ob cb k) + 1) = eh_ob cb (k + 1) := by
            show _ = eh_ob cb k + (if cb k = 0 then 1 else 0)
            rw [if_pos (by omega)]
          rw [hs9] at hl
          exact ih (k + 1) ls (by omega) (by omega) (lv_sub hl [0, 2, 1, 3, 4] rfl)
        ·
          refine lv_iload_n hx hb d_M_count_55 rfl (lv_at hl 2 rfl) ?_
          refine lv_goto (tgt := 62) hx hb d_M_count_56 rfl ?_
          refine lv_istore_n hx hb d_M_count_62 rfl hl (by decide) rfl (fun ls hl => ?_)
          have hl : lv_has ls 6 [(2, .int (eI (eh_ob cb k))), (4, .int (eI ((k : Nat) : Int))), (3, .int (eI 0)), (0, .ref (md 0)), (1, .int (eI y))] := hl
          refine lv_iinc (v := eI (((k : Nat) : Int) + 1)) hx hb d_M_count_63 hl (k := 1) rfl (eI_add _ _) (by decide) rfl (fun ls hl => ?_)
          have hl : lv_has ls 6 [(4, .int (eI (((k : Nat) : Int) + 1))), (2, .int (eI (eh_ob cb k))), (3, .int (eI 0)), (0, .ref (md 0)), (1, .int (eI y))] := hl
          refine lv_goto (tgt := 34) hx hb d_M_count_66 rfl ?_
          have hs9 : (eh_ob cb k) = eh_ob cb (k + 1) := by
            show _ = eh_ob cb k + (if cb k = 0 then 1 else 0)
            rw [if_neg (by omega)]; omega
          rw [hs9] at hl
          exact ih (k + 1) ls (by omega) (by omega) (lv_sub hl [0, 2, 1, 3, 4] rfl)
    exact loop (n - 2) 0 ls (by omega) (by omega) (lv_sub hl [0, 1, 2, 3, 4] rfl)
