abbrev c_M_fault : ByteArray := prog_7_method_43_code
def y_M_fault : MethodName := ⟨"EarthHaulsModel", "fault", "()I"⟩
abbrev k_M_fault : Cond := .code y_M_fault c_M_fault 5 (some .int)
theorem kin_M_fault : k_M_fault ∈ ew_t := tb_831
theorem dv_M_fault : eh_dV y_M_fault "EarthHaulsModel" 0 := ⟨rfl, by decide, by decide, by decide +kernel⟩
theorem d_M_fault_0 : decode c_M_fault 0 = .ok (.iconst 0, 1) := by decide +kernel
theorem d_M_fault_1 : decode c_M_fault 1 = .ok (.istore_n 1, 1) := by decide +kernel
theorem d_M_fault_2 : decode c_M_fault 2 = .ok (.iload_n 1, 1) := by decide +kernel
theorem d_M_fault_3 : decode c_M_fault 3 = .ok (.bipush 6, 2) := by decide +kernel
theorem d_M_fault_5 : decode c_M_fault 5 = .ok (.if_icmp .ge 70, 3) := by decide +kernel
theorem d_M_fault_8 : decode c_M_fault 8 = .ok (.lconst 0, 1) := by decide +kernel
theorem d_M_fault_9 : decode c_M_fault 9 = .ok (.lstore_n 2, 1) := by decide +kernel
theorem d_M_fault_10 : decode c_M_fault 10 = .ok (.iconst 0, 1) := by decide +kernel
theorem d_M_fault_11 : decode c_M_fault 11 = .ok (.istore 4, 2) := by decide +kernel
theorem d_M_fault_13 : decode c_M_fault 13 = .ok (.iload 4, 2) := by decide +kernel
theorem d_M_fault_15 : decode c_M_fault 15 = .ok (.iconst 5, 1) := by decide +kernel
theorem d_M_fault_16 : decode c_M_fault 16 = .ok (.if_icmp .ge 24, 3) := by decide +kernel
theorem d_M_fault_19 : decode c_M_fault 19 = .ok (.lload_n 2, 1) := by decide +kernel
theorem d_M_fault_20 : decode c_M_fault 20 = .ok (.aload_n 0, 1) := by decide +kernel
theorem d_M_fault_21 : decode c_M_fault 21 = .ok (.getfield 39, 3) := by decide +kernel
theorem d_M_fault_24 : decode c_M_fault 24 = .ok (.iconst 5, 1) := by decide +kernel
theorem d_M_fault_25 : decode c_M_fault 25 = .ok (.iload_n 1, 1) := by decide +kernel
theorem d_M_fault_26 : decode c_M_fault 26 = .ok (.imul, 1) := by decide +kernel
theorem d_M_fault_27 : decode c_M_fault 27 = .ok (.iload 4, 2) := by decide +kernel
theorem d_M_fault_29 : decode c_M_fault 29 = .ok (.iadd, 1) := by decide +kernel
theorem d_M_fault_30 : decode c_M_fault 30 = .ok (.iaload, 1) := by decide +kernel
theorem d_M_fault_31 : decode c_M_fault 31 = .ok (.i2l, 1) := by decide +kernel
theorem d_M_fault_32 : decode c_M_fault 32 = .ok (.ladd, 1) := by decide +kernel
theorem d_M_fault_33 : decode c_M_fault 33 = .ok (.lstore_n 2, 1) := by decide +kernel
theorem d_M_fault_34 : decode c_M_fault 34 = .ok (.iinc 4 1, 3) := by decide +kernel
theorem d_M_fault_37 : decode c_M_fault 37 = .ok (.goto (-24), 3) := by decide +kernel
theorem d_M_fault_40 : decode c_M_fault 40 = .ok (.lload_n 2, 1) := by decide +kernel
theorem d_M_fault_41 : decode c_M_fault 41 = .ok (.aload_n 0, 1) := by decide +kernel
theorem d_M_fault_42 : decode c_M_fault 42 = .ok (.iload_n 1, 1) := by decide +kernel
theorem d_M_fault_43 : decode c_M_fault 43 = .ok (.invokevirtual 137, 3) := by decide +kernel
theorem d_M_fault_46 : decode c_M_fault 46 = .ok (.i2l, 1) := by decide +kernel
theorem d_M_fault_47 : decode c_M_fault 47 = .ok (.lcmp, 1) := by decide +kernel
theorem d_M_fault_48 : decode c_M_fault 48 = .ok (.ifCond .gt 19, 3) := by decide +kernel
theorem d_M_fault_51 : decode c_M_fault 51 = .ok (.iload_n 1, 1) := by decide +kernel
theorem d_M_fault_52 : decode c_M_fault 52 = .ok (.iconst 4, 1) := by decide +kernel
theorem d_M_fault_53 : decode c_M_fault 53 = .ok (.if_icmp .ge 16, 3) := by decide +kernel
theorem d_M_fault_56 : decode c_M_fault 56 = .ok (.lload_n 2, 1) := by decide +kernel
theorem d_M_fault_57 : decode c_M_fault 57 = .ok (.aload_n 0, 1) := by decide +kernel
theorem d_M_fault_58 : decode c_M_fault 58 = .ok (.iload_n 1, 1) := by decide +kernel
theorem d_M_fault_59 : decode c_M_fault 59 = .ok (.invokevirtual 137, 3) := by decide +kernel
theorem d_M_fault_62 : decode c_M_fault 62 = .ok (.i2l, 1) := by decide +kernel
theorem d_M_fault_63 : decode c_M_fault 63 = .ok (.lcmp, 1) := by decide +kernel
theorem d_M_fault_64 : decode c_M_fault 64 = .ok (.ifCond .ge 5, 3) := by decide +kernel
theorem d_M_fault_67 : decode c_M_fault 67 = .ok (.iload_n 1, 1) := by decide +kernel
theorem d_M_fault_68 : decode c_M_fault 68 = .ok (.ireturn, 1) := by decide +kernel
theorem d_M_fault_69 : decode c_M_fault 69 = .ok (.iinc 1 1, 3) := by decide +kernel
theorem d_M_fault_72 : decode c_M_fault 72 = .ok (.goto (-70), 3) := by decide +kernel
theorem d_M_fault_75 : decode c_M_fault 75 = .ok (.iconst 0, 1) := by decide +kernel
theorem d_M_fault_76 : decode c_M_fault 76 = .ok (.istore_n 1, 1) := by decide +kernel
theorem d_M_fault_77 : decode c_M_fault 77 = .ok (.iload_n 1, 1) := by decide +kernel
theorem d_M_fault_78 : decode c_M_fault 78 = .ok (.iconst 5, 1) := by decide +kernel
theorem d_M_fault_79 : decode c_M_fault 79 = .ok (.if_icmp .ge 74, 3) := by decide +kernel
theorem d_M_fault_82 : decode c_M_fault 82 = .ok (.lconst 0, 1) := by decide +kernel
theorem d_M_fault_83 : decode c_M_fault 83 = .ok (.lstore_n 2, 1) := by decide +kernel
theorem d_M_fault_84 : decode c_M_fault 84 = .ok (.iconst 0, 1) := by decide +kernel
theorem d_M_fault_85 : decode c_M_fault 85 = .ok (.istore 4, 2) := by decide +kernel
theorem d_M_fault_87 : decode c_M_fault 87 = .ok (.iload 4, 2) := by decide +kernel
theorem d_M_fault_89 : decode c_M_fault 89 = .ok (.bipush 6, 2) := by decide +kernel
theorem d_M_fault_91 : decode c_M_fault 91 = .ok (.if_icmp .ge 24, 3) := by decide +kernel
theorem d_M_fault_94 : decode c_M_fault 94 = .ok (.lload_n 2, 1) := by decide +kernel
theorem d_M_fault_95 : decode c_M_fault 95 = .ok (.aload_n 0, 1) := by decide +kernel
theorem d_M_fault_96 : decode c_M_fault 96 = .ok (.getfield 39, 3) := by decide +kernel
theorem d_M_fault_99 : decode c_M_fault 99 = .ok (.iconst 5, 1) := by decide +kernel
theorem d_M_fault_100 : decode c_M_fault 100 = .ok (.iload 4, 2) := by decide +kernel
theorem d_M_fault_102 : decode c_M_fault 102 = .ok (.imul, 1) := by decide +kernel
theorem d_M_fault_103 : decode c_M_fault 103 = .ok (.iload_n 1, 1) := by decide +kernel
theorem d_M_fault_104 : decode c_M_fault 104 = .ok (.iadd, 1) := by decide +kernel
theorem d_M_fault_105 : decode c_M_fault 105 = .ok (.iaload, 1) := by decide +kernel
theorem d_M_fault_106 : decode c_M_fault 106 = .ok (.i2l, 1) := by decide +kernel
theorem d_M_fault_107 : decode c_M_fault 107 = .ok (.ladd, 1) := by decide +kernel
theorem d_M_fault_108 : decode c_M_fault 108 = .ok (.lstore_n 2, 1) := by decide +kernel
theorem d_M_fault_109 : decode c_M_fault 109 = .ok (.iinc 4 1, 3) := by decide +kernel
theorem d_M_fault_112 : decode c_M_fault 112 = .ok (.goto (-25), 3) := by decide +kernel
theorem d_M_fault_115 : decode c_M_fault 115 = .ok (.lload_n 2, 1) := by decide +kernel
theorem d_M_fault_116 : decode c_M_fault 116 = .ok (.aload_n 0, 1) := by decide +kernel
theorem d_M_fault_117 : decode c_M_fault 117 = .ok (.iload_n 1, 1) := by decide +kernel
theorem d_M_fault_118 : decode c_M_fault 118 = .ok (.invokevirtual 140, 3) := by decide +kernel
theorem d_M_fault_121 : decode c_M_fault 121 = .ok (.i2l, 1) := by decide +kernel
theorem d_M_fault_122 : decode c_M_fault 122 = .ok (.lcmp, 1) := by decide +kernel
theorem d_M_fault_123 : decode c_M_fault 123 = .ok (.ifCond .gt 19, 3) := by decide +kernel
theorem d_M_fault_126 : decode c_M_fault 126 = .ok (.iload_n 1, 1) := by decide +kernel
theorem d_M_fault_127 : decode c_M_fault 127 = .ok (.iconst 4, 1) := by decide +kernel
theorem d_M_fault_128 : decode c_M_fault 128 = .ok (.if_icmp .ge 19, 3) := by decide +kernel
theorem d_M_fault_131 : decode c_M_fault 131 = .ok (.lload_n 2, 1) := by decide +kernel
theorem d_M_fault_132 : decode c_M_fault 132 = .ok (.aload_n 0, 1) := by decide +kernel
theorem d_M_fault_133 : decode c_M_fault 133 = .ok (.iload_n 1, 1) := by decide +kernel
theorem d_M_fault_134 : decode c_M_fault 134 = .ok (.invokevirtual 140, 3) := by decide +kernel
theorem d_M_fault_137 : decode c_M_fault 137 = .ok (.i2l, 1) := by decide +kernel
theorem d_M_fault_138 : decode c_M_fault 138 = .ok (.lcmp, 1) := by decide +kernel
theorem d_M_fault_139 : decode c_M_fault 139 = .ok (.ifCond .ge 8, 3) := by decide +kernel
theorem d_M_fault_142 : decode c_M_fault 142 = .ok (.bipush 6, 2) := by decide +kernel
theorem d_M_fault_144 : decode c_M_fault 144 = .ok (.iload_n 1, 1) := by decide +kernel
theorem d_M_fault_145 : decode c_M_fault 145 = .ok (.iadd, 1) := by decide +kernel
theorem d_M_fault_146 : decode c_M_fault 146 = .ok (.ireturn, 1) := by decide +kernel
theorem d_M_fault_147 : decode c_M_fault 147 = .ok (.iinc 1 1, 3) := by decide +kernel
theorem d_M_fault_150 : decode c_M_fault 150 = .ok (.goto (-73), 3) := by decide +kernel
theorem d_M_fault_153 : decode c_M_fault 153 = .ok (.iconst 0, 1) := by decide +kernel
theorem d_M_fault_154 : decode c_M_fault 154 = .ok (.istore_n 1, 1) := by decide +kernel
theorem d_M_fault_155 : decode c_M_fault 155 = .ok (.iload_n 1, 1) := by decide +kernel
theorem d_M_fault_156 : decode c_M_fault 156 = .ok (.bipush 6, 2) := by decide +kernel
theorem d_M_fault_158 : decode c_M_fault 158 = .ok (.if_icmp .ge 53, 3) := by decide +kernel
theorem d_M_fault_161 : decode c_M_fault 161 = .ok (.iconst 0, 1) := by decide +kernel
theorem d_M_fault_162 : decode c_M_fault 162 = .ok (.istore_n 2, 1) := by decide +kernel
theorem d_M_fault_163 : decode c_M_fault 163 = .ok (.iload_n 2, 1) := by decide +kernel
theorem d_M_fault_164 : decode c_M_fault 164 = .ok (.iconst 5, 1) := by decide +kernel
theorem d_M_fault_165 : decode c_M_fault 165 = .ok (.if_icmp .ge 40, 3) := by decide +kernel
theorem d_M_fault_168 : decode c_M_fault 168 = .ok (.aload_n 0, 1) := by decide +kernel
theorem d_M_fault_169 : decode c_M_fault 169 = .ok (.getfield 39, 3) := by decide +kernel
theorem d_M_fault_172 : decode c_M_fault 172 = .ok (.iconst 5, 1) := by decide +kernel
theorem d_M_fault_173 : decode c_M_fault 173 = .ok (.iload_n 1, 1) := by decide +kernel
theorem d_M_fault_174 : decode c_M_fault 174 = .ok (.imul, 1) := by decide +kernel
theorem d_M_fault_175 : decode c_M_fault 175 = .ok (.iload_n 2, 1) := by decide +kernel
theorem d_M_fault_176 : decode c_M_fault 176 = .ok (.iadd, 1) := by decide +kernel
theorem d_M_fault_177 : decode c_M_fault 177 = .ok (.iaload, 1) := by decide +kernel
theorem d_M_fault_178 : decode c_M_fault 178 = .ok (.ifCond .le 21, 3) := by decide +kernel
theorem d_M_fault_181 : decode c_M_fault 181 = .ok (.aload_n 0, 1) := by decide +kernel
theorem d_M_fault_182 : decode c_M_fault 182 = .ok (.iload_n 1, 1) := by decide +kernel
theorem d_M_fault_183 : decode c_M_fault 183 = .ok (.iload_n 2, 1) := by decide +kernel
theorem d_M_fault_184 : decode c_M_fault 184 = .ok (.invokevirtual 133, 3) := by decide +kernel
theorem d_M_fault_187 : decode c_M_fault 187 = .ok (.ifCond .ge 12, 3) := by decide +kernel
theorem d_M_fault_190 : decode c_M_fault 190 = .ok (.bipush 100, 2) := by decide +kernel
theorem d_M_fault_192 : decode c_M_fault 192 = .ok (.iconst 5, 1) := by decide +kernel
theorem d_M_fault_193 : decode c_M_fault 193 = .ok (.iload_n 1, 1) := by decide +kernel
theorem d_M_fault_194 : decode c_M_fault 194 = .ok (.imul, 1) := by decide +kernel
theorem d_M_fault_195 : decode c_M_fault 195 = .ok (.iadd, 1) := by decide +kernel
theorem d_M_fault_196 : decode c_M_fault 196 = .ok (.iload_n 2, 1) := by decide +kernel
theorem d_M_fault_197 : decode c_M_fault 197 = .ok (.iadd, 1) := by decide +kernel
theorem d_M_fault_198 : decode c_M_fault 198 = .ok (.ireturn, 1) := by decide +kernel
theorem d_M_fault_199 : decode c_M_fault 199 = .ok (.iinc 2 1, 3) := by decide +kernel
theorem d_M_fault_202 : decode c_M_fault 202 = .ok (.goto (-39), 3) := by decide +kernel
theorem d_M_fault_205 : decode c_M_fault 205 = .ok (.iinc 1 1, 3) := by decide +kernel
theorem d_M_fault_208 : decode c_M_fault 208 = .ok (.goto (-53), 3) := by decide +kernel
theorem d_M_fault_211 : decode c_M_fault 211 = .ok (.iconst (-1), 1) := by decide +kernel
theorem d_M_fault_212 : decode c_M_fault 212 = .ok (.ireturn, 1) := by decide +kernel
set_option maxHeartbeats 1000000 in
set_option maxRecDepth 100000 in
theorem m_M_fault (l : Launch) (D : va_G) (cI cL cZ : ClassId) (md : Nat → Nat) (co : Int) (n : Nat) (sh ra up lw kn fo : Int) (sc ln cb th pl lo pr la : Nat → Int) (cu cl fu fl : Nat → Nat) (ys yl yp : Nat → Int) (hM : eh_MS n sh ra sc ln cb th pl lo pr la cu cl fu fl ys yl yp) : eh_M (S := Int × Int) l y_M_fault k_M_fault 5 135 D classes [(cI, .int), (cL, .long), (cZ, .boolean)] [.ref (md 0)] [((md 0), .inr (5, [.int (eI co), .int (eI ((n : Nat) : Int)), .ref (md 1), .ref (md 2), .ref (md 3), .int (eI sh), .int (eI ra), .ref (md 4), .ref (md 5), .ref (md 6), .ref (md 7), .ref (md 8), .long (eL up), .long (eL lw), .ref (md 9), .ref (md 10), .ref (md 11), .ref (md 12), .ref (md 13), .ref (md 14), .ref (md 15), .int (eI kn), .int (eI fo)])), ((md 1), aI cI 25 sc), ((md 2), aI cI 4 ln), ((md 3), aI cZ 4 cb), ((md 4), aI cZ 3 th), ((md 5), aI cI 3 pl), ((md 6), aI cI 3 lo), ((md 7), aI cI 3 pr), ((md 8), aI cI 30 la)] (fun _ => True) (fun _ => some (.int (eI (eh_jg n sh ra ln cb la cu cl fu fl ys yl yp)))) (fun u => [((md 0), .inr (5, [.int (eI co), .int (eI ((n : Nat) : Int)), .ref (md 1), .ref (md 2), .ref (md 3), .int (eI sh), .int (eI ra), .ref (md 4), .ref (md 5), .ref (md 6), .ref (md 7), .ref (md 8), .long (eL u.1), .long (eL u.2), .ref (md 9), .ref (md 10), .ref (md 11), .ref (md 12), .ref (md 13), .ref (md 14), .ref (md 15), .int (eI kn), .int (eI fo)])), ((md 1), aI cI 25 sc), ((md 2), aI cI 4 ln), ((md 3), aI cZ 4 cb), ((md 4), aI cZ 3 th), ((md 5), aI cI 3 pl), ((md 6), aI cI 3 lo), ((md 7), aI cI 3 pr), ((md 8), aI cI 30 la)]) := by
  intro sz
  refine Met.ofW (cc := c_M_fault) (maxL := 5) (ret := (some .int)) (by decide) rfl ?_
  intro p e s m args below meth c s₁ B hml hv
  obtain ⟨hargs, hsz, hP, hK, hD0, hN⟩ := hv
  have hx := B.exec
  have hb := B.bytes
  have hrt := B.returns
  have hts := atoms_spec (ws := k_M_fault :: ew_t) B.pre
  have htb : ∀ w ∈ ew_t, w.before args s = true := fun w h => hts w (List.mem_cons_of_mem _ h)
  have hown : s.vm.findClass "EarthHaulsModel" = some m.cls := findClass_of_methodNamed B.named
  have hlocks := B.notSynchronized
  have hE : entryFrame m args 5 = entryFrame m ([.ref (md 0)] : List Value).toArray 5 := by rw [hargs]
  rw [hE]
  clear hE hts B hargs
  generalize hRe : (headSpec _ _).room = R
  have hR1 : R.frames = 5 := by rw [← hRe]; rfl
  have hR2 : R.locals = 135 := by rw [← hRe]; rfl
  clear hRe
  generalize hQ : MQ below _ _ s 0 0 _ = Q
  subst hsz
  have hD := hD0.self (sz := s.heap.size)
  generalize hAe : va_A [((md 0), .inr (5, [.int (eI co), .int (eI ((n : Nat) : Int)), .ref (md 1), .ref (md 2), .ref (md 3), .int (eI sh), .int (eI ra), .ref (md 4), .ref (md 5), .ref (md 6), .ref (md 7), .ref (md 8), .long (eL up), .long (eL lw), .ref (md 9), .ref (md 10), .ref (md 11), .ref (md 12), .ref (md 13), .ref (md 14), .ref (md 15), .int (eI kn), .int (eI fo)])), ((md 1), aI cI 25 sc), ((md 2), aI cI 4 ln), ((md 3), aI cZ 4 cb), ((md 4), aI cZ 3 th), ((md 5), aI cI 3 pl), ((md 6), aI cI 3 lo), ((md 7), aI cI 3 pr), ((md 8), aI cI 30 la)] s.heap.size = A at hD hQ
  have hA : ∀ q : Nat, s.heap.size ≤ q → A q := fun q h => by rw [← hAe]; exact Or.inr h
  have hS : va_S A s.heap s.heap [] := va_S.rf
  have hP : va_P D classes [((md 0), .inr (5, [.int (eI co), .int (eI ((n : Nat) : Int)), .ref (md 1), .ref (md 2), .ref (md 3), .int (eI sh), .int (eI ra), .ref (md 4), .ref (md 5), .ref (md 6), .ref (md 7), .ref (md 8), .long (eL up), .long (eL lw), .ref (md 9), .ref (md 10), .ref (md 11), .ref (md 12), .ref (md 13), .ref (md 14), .ref (md 15), .int (eI kn), .int (eI fo)])), ((md 1), aI cI 25 sc), ((md 2), aI cI 4 ln), ((md 3), aI cZ 4 cb), ((md 4), aI cZ 3 th), ((md 5), aI cI 3 pl), ((md 6), aI cI 3 lo), ((md 7), aI cI 3 pr), ((md 8), aI cI 30 la)] s.heap := hP
  have hl := lv_entry ([.ref (md 0)]) (n := 5) (Nat.le_of_ble_eq_true rfl)
  rw [lg_entry_eq]
  generalize (lg_sl ([.ref (md 0)]) ++ List.replicate (5 - (lg_sl ([.ref (md 0)])).length) Slot.unset).toArray = ls at hl ⊢
  have hl : lv_has ls 5 [(0, .ref (md 0))] := hl
  have hE := hM.1
  have hla := hM.1.2.2.2.2.2.1
  have l3 : eh_first (eh_sb n sh ln la cu cl yl) 6 = none → eh_first (eh_tb n ln la fu fl yl) 5 = none → ∀ (up9 lw9 : Int) (H : Heap) (locs : List Loc), va_P D classes [((md 0), .inr (5, [.int (eI co), .int (eI ((n : Nat) : Int)), .ref (md 1), .ref (md 2), .ref (md 3), .int (eI sh), .int (eI ra), .ref (md 4), .ref (md 5), .ref (md 6), .ref (md 7), .ref (md 8), .long (eL up9), .long (eL lw9), .ref (md 9), .ref (md 10), .ref (md 11), .ref (md 12), .ref (md 13), .ref (md 14), .ref (md 15), .int (eI kn), .int (eI fo)])), ((md 1), aI cI 25 sc), ((md 2), aI cI 4 ln), ((md 3), aI cZ 4 cb), ((md 4), aI cZ 3 th), ((md 5), aI cI 3 pl), ((md 6), aI cI 3 lo), ((md 7), aI cI 3 pr), ((md 8), aI cI 30 la)] H → va_D A [((md 0), .inr (5, [.int (eI co), .int (eI ((n : Nat) : Int)), .ref (md 1), .ref (md 2), .ref (md 3), .int (eI sh), .int (eI ra), .ref (md 4), .ref (md 5), .ref (md 6), .ref (md 7), .ref (md 8), .long (eL up9), .long (eL lw9), .ref (md 9), .ref (md 10), .ref (md 11), .ref (md 12), .ref (md 13), .ref (md 14), .ref (md 15), .int (eI kn), .int (eI fo)])), ((md 1), aI cI 25 sc), ((md 2), aI cI 4 ln), ((md 3), aI cZ 4 cb), ((md 4), aI cZ 3 th), ((md 5), aI cI 3 pl), ((md 6), aI cI 3 lo), ((md 7), aI cI 3 pr), ((md 8), aI cI 30 la)] → va_S A s.heap H locs → ∀ (q y : Nat) (ls : Array Slot), 6 - y = q → y ≤ 6 → eh_first (eh_ib (eh_kc n ra ln cb ys yp) la) (5 * y) = none → lv_has ls 5 [(1, .int (eI ((y : Nat) : Int))), (0, .ref (md 0))] → W p l e R s m args below meth c H locs 0 0 Q (F0 m 155 ls []) := by
    intro hs6 ht5 up9 lw9 H locs hP hD hS q
    induction q with
    | zero =>
      intro y ls hq hy hfi hl
      have hy6 : y = 6 := by omega
      subst hy6
      refine lv_iload_n hx hb d_M_fault_155 rfl (lv_at hl 0 rfl) ?_
      refine lv_bipush (v := eI 6) hx hb d_M_fault_156 (by decide) ?_
      refine we_icmp_ge (tgt := 211) hx hb (by constructor <;> omega) (by constructor <;> omega) d_M_fault_158 rfl (fun hc158 => ?_) (fun hc158 => absurd hc158 (by omega))
      refine lv_iconst (v := eI (-1)) hx hb d_M_fault_211 rfl ?_
      have hres : ((-1) : Int) = (eh_jg n sh ra ln cb la cu cl fu fl ys yl yp) := by
        unfold eh_jg
        rw [hs6, ht5, show eh_first (eh_ib (eh_kc n ra ln cb ys yp) la) 30 = none from hfi]
        rfl
      rw [hres]
      subst hQ
      exact W.iret hx hb hrt (fun t9 ht hW => ⟨⟨(up9, lw9), rfl, trivial, by rw [ht]; exact hP, hD⟩, hS.F ht⟩) hS.2.2 d_M_fault_212
    | succ q ih =>
      intro y ls hq hy hfi hl
      refine lv_iload_n hx hb d_M_fault_155 rfl (lv_at hl 0 rfl) ?_
      refine lv_bipush (v := eI 6) hx hb d_M_fault_156 (by decide) ?_
      refine we_icmp_ge (tgt := 211) hx hb (by constructor <;> omega) (by constructor <;> omega) d_M_fault_158 rfl (fun hc158 => absurd hc158 (by omega)) (fun hc158 => ?_)
      refine lv_iconst (v := eI 0) hx hb d_M_fault_161 rfl ?_
      refine lv_istore_n hx hb d_M_fault_162 rfl hl (by decide) rfl (fun ls hl => ?_)
      have hl : lv_has ls 5 [(2, .int (eI 0)), (1, .int (eI ((y : Nat) : Int))), (0, .ref (md 0))] := hl
      have cols : ∀ (q2 z : Nat) (ls : Array Slot), 5 - z = q2 → z ≤ 5 → eh_first (eh_ib (eh_kc n ra ln cb ys yp) la) (5 * y + z) = none → lv_has ls 5 [(2, .int (eI ((z : Nat) : Int))), (1, .int (eI ((y : Nat) : Int))), (0, .ref (md 0))] → W p l e R s m args below meth c H locs 0 0 Q (F0 m 163 ls []) := by
        intro q2
        induction q2 with
        | zero =>
          intro z ls hq2 hz hfi hl
          have hz5 : z = 5 := by omega
          subst hz5
          refine lv_iload_n hx hb d_M_fault_163 rfl (lv_at hl 0 rfl) ?_
          refine lv_iconst (v := eI 5) hx hb d_M_fault_164 rfl ?_
          refine we_icmp_ge (tgt := 205) hx hb (by constructor <;> omega) (by constructor <;> omega) d_M_fault_165 rfl (fun hc165 => ?_) (fun hc165 => absurd hc165 (by omega))
          refine lv_iinc (v := eI (((y : Nat) : Int) + 1)) hx hb d_M_fault_205 hl (k := 1) rfl (eI_add _ _) (by decide) rfl (fun ls hl => ?_)
          have hl : lv_has ls 5 [(1, .int (eI (((y : Nat) : Int) + 1))), (2, .int (eI ((5 : Nat) : Int))), (0, .ref (md 0))] := hl
          refine lv_goto (tgt := 155) hx hb d_M_fault_208 rfl ?_
          exact ih (y + 1) ls (by omega) (by omega) (by rw [show 5 * (y + 1) = 5 * y + 5 by omega]; exact hfi) (lv_sub hl [0, 2] rfl)
        | succ q2 ih2 =>
          intro z ls hq2 hz hfi hl
          have hkb := eh_ku_b hE (s := y) (t := z) (by omega) (by omega)
          have hkc := eh_kc_at n ra ln cb ys yp (a := y) (b := z) (by omega)
          have hlk := hla (5 * y + z) (by omega)
          refine lv_iload_n hx hb d_M_fault_163 rfl (lv_at hl 0 rfl) ?_
          refine lv_iconst (v := eI 5) hx hb d_M_fault_164 rfl ?_
          refine we_icmp_ge (tgt := 205) hx hb (by constructor <;> omega) (by constructor <;> omega) d_M_fault_165 rfl (fun hc165 => absurd hc165 (by omega)) (fun hc165 => ?_)
          refine lv_aload_n hx hb d_M_fault_168 rfl (lv_at hl 2 rfl) ?_
          refine va_get (D := D) (ci := 5) (v := .ref (md 8)) (C := R_M) (T := T_M) (N := 23) hx hb htb in_M hown hK hP 0 rfl rfl 11 (by decide) (htb _ tb_599) (fun _ h9 => h9) rfl d_M_fault_169 ?_
          refine lv_iconst (v := eI 5) hx hb d_M_fault_172 rfl ?_
          refine lv_iload_n hx hb d_M_fault_173 rfl (lv_at hl 1 rfl) ?_
          refine we_imul hx hb d_M_fault_174 ?_
          refine lv_iload_n hx hb d_M_fault_175 rfl (lv_at hl 0 rfl) ?_
          refine we_iadd hx hb d_M_fault_176 ?_
          refine we_iald hx hb hK hP 8 0 rfl rfl (5 * y + z) (by omega) (by omega) (by decide) d_M_fault_177 ?_
          refine we_if_le (tgt := 199) hx hb (by constructor <;> omega) d_M_fault_178 rfl (fun hc178 => ?_) (fun hc178 => ?_)
          ·
            refine lv_iinc (v := eI (((z : Nat) : Int) + 1)) hx hb d_M_fault_199 hl (k := 0) rfl (eI_add _ _) (by decide) rfl (fun ls hl => ?_)
            have hl : lv_has ls 5 [(2, .int (eI (((z : Nat) : Int) + 1))), (1, .int (eI ((y : Nat) : Int))), (0, .ref (md 0))] := hl
            refine lv_goto (tgt := 163) hx hb d_M_fault_202 rfl ?_
            have hib : (eh_ib (eh_kc n ra ln cb ys yp) la) (5 * y + z) = false := by
              unfold eh_ib
              exact decide_eq_false (fun w => by omega)
            exact ih2 (z + 1) ls (by omega) (by omega) (eh_first_s hfi hib) (lv_sub hl [0, 1, 2] rfl)
          ·
            refine lv_aload_n hx hb d_M_fault_181 rfl (lv_at hl 2 rfl) ?_
            refine lv_iload_n hx hb d_M_fault_182 rfl (lv_at hl 1 rfl) ?_
            refine lv_iload_n hx hb d_M_fault_183 rfl (lv_at hl 0 rfl) ?_
            refine eh_cRV (As := [.int (eI ((y : Nat) : Int)), .int (eI ((z : Nat) : Int))]) (rest := []) (v := .int (eI (eh_ku n ra ln cb ys yp y z))) (q := (R_M, T_M, 23)) hx hb hml hown htb hN (r_M_costOf l D cI cL cZ md co n sh ra up9 lw9 kn fo sc ln cb th pl lo pr la cu cl fu fl ys yl yp y z (by omega) (by omega) hM) 2 ⟨tb_741, tb_743, ts_34, tb_7, kin_M_costOf⟩ dv_M_costOf ⟨by rw [hR1]; decide, by rw [hR2]; decide⟩ hK hP 0 rfl rfl [0, 1, 2, 3, 4, 5, 6, 7, 8] rfl [0, 1, 2] rfl rfl rfl hl.1 (Nat.le_of_ble_eq_true rfl) d_M_fault_184 ⟨Nat.zero_le _, Nat.zero_le _⟩ ?_
            refine we_if_ge (tgt := 199) hx hb (by constructor <;> omega) d_M_fault_187 rfl (fun hc187 => ?_) (fun hc187 => ?_)
            ·
              refine lv_iinc (v := eI (((z : Nat) : Int) + 1)) hx hb d_M_fault_199 hl (k := 0) rfl (eI_add _ _) (by decide) rfl (fun ls hl => ?_)
              have hl : lv_has ls 5 [(2, .int (eI (((z : Nat) : Int) + 1))), (1, .int (eI ((y : Nat) : Int))), (0, .ref (md 0))] := hl
              refine lv_goto (tgt := 163) hx hb d_M_fault_202 rfl ?_
              have hib : (eh_ib (eh_kc n ra ln cb ys yp) la) (5 * y + z) = false := by
                unfold eh_ib
                exact decide_eq_false (fun w => by omega)
              exact ih2 (z + 1) ls (by omega) (by omega) (eh_first_s hfi hib) (lv_sub hl [0, 1, 2] rfl)
            ·
              refine lv_bipush (v := eI 100) hx hb d_M_fault_190 (by decide) ?_
              refine lv_iconst (v := eI 5) hx hb d_M_fault_192 rfl ?_
              refine lv_iload_n hx hb d_M_fault_193 rfl (lv_at hl 1 rfl) ?_
              refine we_imul hx hb d_M_fault_194 ?_
              refine we_iadd hx hb d_M_fault_195 ?_
              refine lv_iload_n hx hb d_M_fault_196 rfl (lv_at hl 0 rfl) ?_
              refine we_iadd hx hb d_M_fault_197 ?_
              have hres : (((100 + (5 * ((y : Nat) : Int))) + ((z : Nat) : Int)) : Int) = (eh_jg n sh ra ln cb la cu cl fu fl ys yl yp) := by
                have hib : (eh_ib (eh_kc n ra ln cb ys yp) la) (5 * y + z) = true := by
                  unfold eh_ib
                  exact decide_eq_true ⟨by omega, by omega⟩
                unfold eh_jg
                rw [hs6, ht5, eh_first_at hfi hib 30 (by omega)]
                show _ = (100 : Int) + ((5 * y + z : Nat) : Int)
                omega
              rw [hres]
              subst hQ
              exact W.iret hx hb hrt (fun t9 ht hW => ⟨⟨(up9, lw9), rfl, trivial, by rw [ht]; exact hP, hD⟩, hS.F ht⟩) hS.2.2 d_M_fault_198
      exact cols 5 0 ls (by omega) (by omega) hfi (lv_sub hl [0, 1, 2] rfl)
  have l2 : eh_first (eh_sb n sh ln la cu cl yl) 6 = none → ∀ (q i : Nat) (up9 lw9 : Int) (H : Heap) (locs : List Loc) (ls : Array Slot), 5 - i = q → i ≤ 5 → eh_first (eh_tb n ln la fu fl yl) i = none → lv_has ls 5 [(1, .int (eI ((i : Nat) : Int))), (0, .ref (md 0))] → va_P D classes [((md 0), .inr (5, [.int (eI co), .int (eI ((n : Nat) : Int)), .ref (md 1), .ref (md 2), .ref (md 3), .int (eI sh), .int (eI ra), .ref (md 4), .ref (md 5), .ref (md 6), .ref (md 7), .ref (md 8), .long (eL up9), .long (eL lw9), .ref (md 9), .ref (md 10), .ref (md 11), .ref (md 12), .ref (md 13), .ref (md 14), .ref (md 15), .int (eI kn), .int (eI fo)])), ((md 1), aI cI 25 sc), ((md 2), aI cI 4 ln), ((md 3), aI cZ 4 cb), ((md 4), aI cZ 3 th), ((md 5), aI cI 3 pl), ((md 6), aI cI 3 lo), ((md 7), aI cI 3 pr), ((md 8), aI cI 30 la)] H → va_D A [((md 0), .inr (5, [.int (eI co), .int (eI ((n : Nat) : Int)), .ref (md 1), .ref (md 2), .ref (md 3), .int (eI sh), .int (eI ra), .ref (md 4), .ref (md 5), .ref (md 6), .ref (md 7), .ref (md 8), .long (eL up9), .long (eL lw9), .ref (md 9), .ref (md 10), .ref (md 11), .ref (md 12), .ref (md 13), .ref (md 14), .ref (md 15), .int (eI kn), .int (eI fo)])), ((md 1), aI cI 25 sc), ((md 2), aI cI 4 ln), ((md 3), aI cZ 4 cb), ((md 4), aI cZ 3 th), ((md 5), aI cI 3 pl), ((md 6), aI cI 3 lo), ((md 7), aI cI 3 pr), ((md 8), aI cI 30 la)] → va_S A s.heap H locs → W p l e R s m args below meth c H locs 0 0 Q (F0 m 77 ls []) := by
    intro hs6 q
    induction q with
    | zero =>
      intro i up9 lw9 H locs ls hq hi hfi hl hP hD hS
      have hiN : i = 5 := by omega
      subst hiN
      refine lv_iload_n hx hb d_M_fault_77 rfl (lv_at hl 0 rfl) ?_
      refine lv_iconst (v := eI 5) hx hb d_M_fault_78 rfl ?_
      refine we_icmp_ge (tgt := 153) hx hb (by constructor <;> omega) (by constructor <;> omega) d_M_fault_79 rfl (fun hc79 => ?_) (fun hc79 => absurd hc79 (by omega))
      refine lv_iconst (v := eI 0) hx hb d_M_fault_153 rfl ?_
      refine lv_istore_n hx hb d_M_fault_154 rfl hl (by decide) rfl (fun ls hl => ?_)
      have hl : lv_has ls 5 [(1, .int (eI 0)), (0, .ref (md 0))] := hl
      exact l3 hs6 hfi up9 lw9 H locs hP hD hS 6 0 ls (by omega) (by omega) rfl (lv_sub hl [0, 1] rfl)
    | succ q ih =>
      intro i up9 lw9 H locs ls hq hi hfi hl hP hD hS
      have hgb := eh_wn_b hE (show i < 5 by omega)
      have hrow : eh_col la i = (eh_sm (fun d => la (5 * d + i)) 6) := rfl
      have hsmb : ∀ j, j ≤ 6 → 0 ≤ (eh_sm (fun d => la (5 * d + i)) j) ∧ (eh_sm (fun d => la (5 * d + i)) j) ≤ 100000000 * (j : Int) := fun j hj => eh_sm_bd (fun d hd => hla _ (by omega))
      refine lv_iload_n hx hb d_M_fault_77 rfl (lv_at hl 0 rfl) ?_
      refine lv_iconst (v := eI 5) hx hb d_M_fault_78 rfl ?_
      refine we_icmp_ge (tgt := 153) hx hb (by constructor <;> omega) (by constructor <;> omega) d_M_fault_79 rfl (fun hc79 => absurd hc79 (by omega)) (fun hc79 => ?_)
      refine lv_lconst (v := eL 0) hx hb d_M_fault_82 (by decide) ?_
      refine lv_lstore_n hx hb d_M_fault_83 rfl hl (by decide) rfl (fun ls hl => ?_)
      have hl : lv_has ls 5 [(2, .long (eL 0)), (1, .int (eI ((i : Nat) : Int))), (0, .ref (md 0))] := hl
      refine lv_iconst (v := eI 0) hx hb d_M_fault_84 rfl ?_
      refine lv_istore hx hb d_M_fault_85 hl (by decide) rfl (fun ls hl => ?_)
      have hl : lv_has ls 5 [(4, .int (eI 0)), (2, .long (eL 0)), (1, .int (eI ((i : Nat) : Int))), (0, .ref (md 0))] := hl
      have inner : ∀ (q2 j : Nat) (ls : Array Slot), 6 - j = q2 → j ≤ 6 → lv_has ls 5 [(4, .int (eI ((j : Nat) : Int))), (2, .long (eL (eh_sm (fun d => la (5 * d + i)) j))), (1, .int (eI ((i : Nat) : Int))), (0, .ref (md 0))] → W p l e R s m args below meth c H locs 0 0 Q (F0 m 87 ls []) := by
        intro q2
        induction q2 with
        | zero =>
          intro j ls hq2 hj hl
          have hjM : j = 6 := by omega
          subst hjM
          have hsm9 := hsmb 6 (by omega)
          refine lv_iload hx hb d_M_fault_87 (lv_at hl 0 rfl) ?_
          refine lv_bipush (v := eI 6) hx hb d_M_fault_89 (by decide) ?_
          refine we_icmp_ge (tgt := 115) hx hb (by constructor <;> omega) (by constructor <;> omega) d_M_fault_91 rfl (fun hc91 => ?_) (fun hc91 => absurd hc91 (by omega))
          refine lv_lload_n hx hb d_M_fault_115 rfl (lv_at hl 1 rfl) ?_
          refine lv_aload_n hx hb d_M_fault_116 rfl (lv_at hl 3 rfl) ?_
          refine lv_iload_n hx hb d_M_fault_117 rfl (lv_at hl 2 rfl) ?_
          refine eh_cMV (As := [.int (eI ((i : Nat) : Int))]) (rest := [.long (eL (eh_sm (fun d => la (5 * d + i)) 6))]) (q := (R_M, T_M, 23)) (wr := []) hx hb hml hown htb hN (m_M_wanted l D cI cL cZ md co n sh ra up9 lw9 kn fo sc ln cb th pl lo pr la cu cl fu fl ys yl yp i (by omega) hM) 1 ⟨tb_773, tb_775, ts_41, tb_7, kin_M_wanted⟩ dv_M_wanted ⟨by rw [hR1]; decide, by rw [hR2]; decide⟩ hK hP hD hS hA 0 rfl rfl [0, 1, 2, 3, 4, 5, 6, 7, 8] [] rfl rfl (by decide) rfl (by decide) (by decide) [0, 1, 2] rfl rfl rfl hl.1 (Nat.le_of_ble_eq_true rfl) d_M_fault_118 ⟨Nat.zero_le _, Nat.zero_le _⟩ (fun u H locs hu hP hD hS => ?_)
          obtain ⟨up1, lw1⟩ := u
          have hP := hP.sub (ws' := [((md 0), .inr (5, [.int (eI co), .int (eI ((n : Nat) : Int)), .ref (md 1), .ref (md 2), .ref (md 3), .int (eI sh), .int (eI ra), .ref (md 4), .ref (md 5), .ref (md 6), .ref (md 7), .ref (md 8), .long (eL up1), .long (eL lw1), .ref (md 9), .ref (md 10), .ref (md 11), .ref (md 12), .ref (md 13), .ref (md 14), .ref (md 15), .int (eI kn), .int (eI fo)])), ((md 1), aI cI 25 sc), ((md 2), aI cI 4 ln), ((md 3), aI cZ 4 cb), ((md 4), aI cZ 3 th), ((md 5), aI cI 3 pl), ((md 6), aI cI 3 lo), ((md 7), aI cI 3 pr), ((md 8), aI cI 30 la)]) [0, 1, 2, 3, 4, 5, 6, 7, 8] rfl
          have hD := hD.sub (ws' := [((md 0), .inr (5, [.int (eI co), .int (eI ((n : Nat) : Int)), .ref (md 1), .ref (md 2), .ref (md 3), .int (eI sh), .int (eI ra), .ref (md 4), .ref (md 5), .ref (md 6), .ref (md 7), .ref (md 8), .long (eL up1), .long (eL lw1), .ref (md 9), .ref (md 10), .ref (md 11), .ref (md 12), .ref (md 13), .ref (md 14), .ref (md 15), .int (eI kn), .int (eI fo)])), ((md 1), aI cI 25 sc), ((md 2), aI cI 4 ln), ((md 3), aI cZ 4 cb), ((md 4), aI cZ 3 th), ((md 5), aI cI 3 pl), ((md 6), aI cI 3 lo), ((md 7), aI cI 3 pr), ((md 8), aI cI 30 la)]) [0, 1, 2, 3, 4, 5, 6, 7, 8] (by decide) rfl
          refine we_i2l hx hb (by constructor <;> omega) d_M_fault_121 ?_
          refine we_lcmp_gt (pc2 := 123) (tgt := 142) hx hb (by constructor <;> omega) (by constructor <;> omega) d_M_fault_122 rfl d_M_fault_123 rfl (fun hc122 => ?_) (fun hc122 => ?_)
          ·
            refine lv_bipush (v := eI 6) hx hb d_M_fault_142 (by decide) ?_
            refine lv_iload_n hx hb d_M_fault_144 rfl (lv_at hl 2 rfl) ?_
            refine we_iadd hx hb d_M_fault_145 ?_
            have hres : ((6 + ((i : Nat) : Int)) : Int) = (eh_jg n sh ra ln cb la cu cl fu fl ys yl yp) := by
              have hsb : (eh_tb n ln la fu fl yl) i = true := by
                unfold eh_tb
                by_cases w : i < 4
                · rw [if_pos w]; exact decide_eq_true (by omega)
                · rw [if_neg w]; exact decide_eq_true (by omega)
              unfold eh_jg
              rw [hs6, eh_first_at hfi hsb 5 (by omega)]
              show _ = (6 : Int) + (i : Int)
              omega
            rw [hres]
            subst hQ
            exact W.iret hx hb hrt (fun t9 ht hW => ⟨⟨(up1, lw1), rfl, trivial, by rw [ht]; exact hP, hD⟩, hS.F ht⟩) hS.2.2 d_M_fault_146
          ·
            refine lv_iload_n hx hb d_M_fault_126 rfl (lv_at hl 2 rfl) ?_
            refine lv_iconst (v := eI 4) hx hb d_M_fault_127 rfl ?_
            refine we_icmp_ge (tgt := 147) hx hb (by constructor <;> omega) (by constructor <;> omega) d_M_fault_128 rfl (fun hc128 => ?_) (fun hc128 => ?_)
            ·
              refine lv_iinc (v := eI (((i : Nat) : Int) + 1)) hx hb d_M_fault_147 hl (k := 2) rfl (eI_add _ _) (by decide) rfl (fun ls hl => ?_)
              have hl : lv_has ls 5 [(1, .int (eI (((i : Nat) : Int) + 1))), (4, .int (eI ((6 : Nat) : Int))), (2, .long (eL (eh_sm (fun d => la (5 * d + i)) 6))), (0, .ref (md 0))] := hl
              refine lv_goto (tgt := 77) hx hb d_M_fault_150 rfl ?_
              have hsb : (eh_tb n ln la fu fl yl) i = false := by
                unfold eh_tb
                by_cases w : i < 4
                · rw [if_pos w]; exact decide_eq_false (by omega)
                · rw [if_neg w]; exact decide_eq_false (by omega)
              exact ih (i + 1) up1 lw1 H locs ls (by omega) (by omega) (eh_first_s hfi hsb) (lv_sub hl [0, 3] rfl) hP hD hS
            ·
              refine lv_lload_n hx hb d_M_fault_131 rfl (lv_at hl 1 rfl) ?_
              refine lv_aload_n hx hb d_M_fault_132 rfl (lv_at hl 3 rfl) ?_
              refine lv_iload_n hx hb d_M_fault_133 rfl (lv_at hl 2 rfl) ?_
              refine eh_cMV (As := [.int (eI ((i : Nat) : Int))]) (rest := [.long (eL (eh_sm (fun d => la (5 * d + i)) 6))]) (q := (R_M, T_M, 23)) (wr := []) hx hb hml hown htb hN (m_M_wanted l D cI cL cZ md co n sh ra up1 lw1 kn fo sc ln cb th pl lo pr la cu cl fu fl ys yl yp i (by omega) hM) 1 ⟨tb_773, tb_775, ts_41, tb_7, kin_M_wanted⟩ dv_M_wanted ⟨by rw [hR1]; decide, by rw [hR2]; decide⟩ hK hP hD hS hA 0 rfl rfl [0, 1, 2, 3, 4, 5, 6, 7, 8] [] rfl rfl (by decide) rfl (by decide) (by decide) [0, 1, 2] rfl rfl rfl hl.1 (Nat.le_of_ble_eq_true rfl) d_M_fault_134 ⟨Nat.zero_le _, Nat.zero_le _⟩ (fun u H locs hu hP hD hS => ?_)
              obtain ⟨up2, lw2⟩ := u
              have hP := hP.sub (ws' := [((md 0), .inr (5, [.int (eI co), .int (eI ((n : Nat) : Int)), .ref (md 1), .ref (md 2), .ref (md 3), .int (eI sh), .int (eI ra), .ref (md 4), .ref (md 5), .ref (md 6), .ref (md 7), .ref (md 8), .long (eL up2), .long (eL lw2), .ref (md 9), .ref (md 10), .ref (md 11), .ref (md 12), .ref (md 13), .ref (md 14), .ref (md 15), .int (eI kn), .int (eI fo)])), ((md 1), aI cI 25 sc), ((md 2), aI cI 4 ln), ((md 3), aI cZ 4 cb), ((md 4), aI cZ 3 th), ((md 5), aI cI 3 pl), ((md 6), aI cI 3 lo), ((md 7), aI cI 3 pr), ((md 8), aI cI 30 la)]) [0, 1, 2, 3, 4, 5, 6, 7, 8] rfl
              have hD := hD.sub (ws' := [((md 0), .inr (5, [.int (eI co), .int (eI ((n : Nat) : Int)), .ref (md 1), .ref (md 2), .ref (md 3), .int (eI sh), .int (eI ra), .ref (md 4), .ref (md 5), .ref (md 6), .ref (md 7), .ref (md 8), .long (eL up2), .long (eL lw2), .ref (md 9), .ref (md 10), .ref (md 11), .ref (md 12), .ref (md 13), .ref (md 14), .ref (md 15), .int (eI kn), .int (eI fo)])), ((md 1), aI cI 25 sc), ((md 2), aI cI 4 ln), ((md 3), aI cZ 4 cb), ((md 4), aI cZ 3 th), ((md 5), aI cI 3 pl), ((md 6), aI cI 3 lo), ((md 7), aI cI 3 pr), ((md 8), aI cI 30 la)]) [0, 1, 2, 3, 4, 5, 6, 7, 8] (by decide) rfl
              refine we_i2l hx hb (by constructor <;> omega) d_M_fault_137 ?_
              refine we_lcmp_ge (pc2 := 139) (tgt := 147) hx hb (by constructor <;> omega) (by constructor <;> omega) d_M_fault_138 rfl d_M_fault_139 rfl (fun hc138 => ?_) (fun hc138 => ?_)
              ·
                refine lv_iinc (v := eI (((i : Nat) : Int) + 1)) hx hb d_M_fault_147 hl (k := 2) rfl (eI_add _ _) (by decide) rfl (fun ls hl => ?_)
                have hl : lv_has ls 5 [(1, .int (eI (((i : Nat) : Int) + 1))), (4, .int (eI ((6 : Nat) : Int))), (2, .long (eL (eh_sm (fun d => la (5 * d + i)) 6))), (0, .ref (md 0))] := hl
                refine lv_goto (tgt := 77) hx hb d_M_fault_150 rfl ?_
                have hsb : (eh_tb n ln la fu fl yl) i = false := by
                  unfold eh_tb
                  by_cases w : i < 4
                  · rw [if_pos w]; exact decide_eq_false (by omega)
                  · rw [if_neg w]; exact decide_eq_false (by omega)
                exact ih (i + 1) up2 lw2 H locs ls (by omega) (by omega) (eh_first_s hfi hsb) (lv_sub hl [0, 3] rfl) hP hD hS
              ·
                refine lv_bipush (v := eI 6) hx hb d_M_fault_142 (by decide) ?_
                refine lv_iload_n hx hb d_M_fault_144 rfl (lv_at hl 2 rfl) ?_
                refine we_iadd hx hb d_M_fault_145 ?_
                have hres : ((6 + ((i : Nat) : Int)) : Int) = (eh_jg n sh ra ln cb la cu cl fu fl ys yl yp) := by
                  have hsb : (eh_tb n ln la fu fl yl) i = true := by
                    unfold eh_tb
                    by_cases w : i < 4
                    · rw [if_pos w]; exact decide_eq_true (by omega)
                    · rw [if_neg w]; exact decide_eq_true (by omega)
                  unfold eh_jg
                  rw [hs6, eh_first_at hfi hsb 5 (by omega)]
                  show _ = (6 : Int) + (i : Int)
                  omega
                rw [hres]
                subst hQ
                exact W.iret hx hb hrt (fun t9 ht hW => ⟨⟨(up2, lw2), rfl, trivial, by rw [ht]; exact hP, hD⟩, hS.F ht⟩) hS.2.2 d_M_fault_146
        | succ q2 ih2 =>
          intro j ls hq2 hj hl
          have hlk := hla (5 * j + i) (by omega)
          have hsm9 := hsmb j (by omega)
          refine lv_iload hx hb d_M_fault_87 (lv_at hl 0 rfl) ?_
          refine lv_bipush (v := eI 6) hx hb d_M_fault_89 (by decide) ?_
          refine we_icmp_ge (tgt := 115) hx hb (by constructor <;> omega) (by constructor <;> omega) d_M_fault_91 rfl (fun hc91 => absurd hc91 (by omega)) (fun hc91 => ?_)
          refine lv_lload_n hx hb d_M_fault_94 rfl (lv_at hl 1 rfl) ?_
          refine lv_aload_n hx hb d_M_fault_95 rfl (lv_at hl 3 rfl) ?_
          refine va_get (D := D) (ci := 5) (v := .ref (md 8)) (C := R_M) (T := T_M) (N := 23) hx hb htb in_M hown hK hP 0 rfl rfl 11 (by decide) (htb _ tb_599) (fun _ h9 => h9) rfl d_M_fault_96 ?_
          refine lv_iconst (v := eI 5) hx hb d_M_fault_99 rfl ?_
          refine lv_iload hx hb d_M_fault_100 (lv_at hl 0 rfl) ?_
          refine we_imul hx hb d_M_fault_102 ?_
          refine lv_iload_n hx hb d_M_fault_103 rfl (lv_at hl 2 rfl) ?_
          refine we_iadd hx hb d_M_fault_104 ?_
          refine we_iald hx hb hK hP 8 0 rfl rfl (5 * j + i) (by omega) (by omega) (by decide) d_M_fault_105 ?_
          refine we_i2l hx hb (by constructor <;> omega) d_M_fault_106 ?_
          refine we_ladd hx hb d_M_fault_107 ?_
          refine lv_lstore_n hx hb d_M_fault_108 rfl hl (by decide) rfl (fun ls hl => ?_)
          have hl : lv_has ls 5 [(2, .long (eL ((eh_sm (fun d => la (5 * d + i)) j) + (la (5 * j + i))))), (4, .int (eI ((j : Nat) : Int))), (1, .int (eI ((i : Nat) : Int))), (0, .ref (md 0))] := hl
          refine lv_iinc (v := eI (((j : Nat) : Int) + 1)) hx hb d_M_fault_109 hl (k := 1) rfl (eI_add _ _) (by decide) rfl (fun ls hl => ?_)
          have hl : lv_has ls 5 [(4, .int (eI (((j : Nat) : Int) + 1))), (2, .long (eL ((eh_sm (fun d => la (5 * d + i)) j) + (la (5 * j + i))))), (1, .int (eI ((i : Nat) : Int))), (0, .ref (md 0))] := hl
          refine lv_goto (tgt := 87) hx hb d_M_fault_112 rfl ?_
          exact ih2 (j + 1) ls (by omega) (by omega) (lv_sub hl [0, 1, 2, 3] rfl)
      exact inner 6 0 ls (by omega) (by omega) (lv_sub hl [0, 1, 2, 3] rfl)
  have l1 : ∀ (q i : Nat) (up9 lw9 : Int) (H : Heap) (locs : List Loc) (ls : Array Slot), 6 - i = q → i ≤ 6 → eh_first (eh_sb n sh ln la cu cl yl) i = none → lv_has ls 5 [(1, .int (eI ((i : Nat) : Int))), (0, .ref (md 0))] → va_P D classes [((md 0), .inr (5, [.int (eI co), .int (eI ((n : Nat) : Int)), .ref (md 1), .ref (md 2), .ref (md 3), .int (eI sh), .int (eI ra), .ref (md 4), .ref (md 5), .ref (md 6), .ref (md 7), .ref (md 8), .long (eL up9), .long (eL lw9), .ref (md 9), .ref (md 10), .ref (md 11), .ref (md 12), .ref (md 13), .ref (md 14), .ref (md 15), .int (eI kn), .int (eI fo)])), ((md 1), aI cI 25 sc), ((md 2), aI cI 4 ln), ((md 3), aI cZ 4 cb), ((md 4), aI cZ 3 th), ((md 5), aI cI 3 pl), ((md 6), aI cI 3 lo), ((md 7), aI cI 3 pr), ((md 8), aI cI 30 la)] H → va_D A [((md 0), .inr (5, [.int (eI co), .int (eI ((n : Nat) : Int)), .ref (md 1), .ref (md 2), .ref (md 3), .int (eI sh), .int (eI ra), .ref (md 4), .ref (md 5), .ref (md 6), .ref (md 7), .ref (md 8), .long (eL up9), .long (eL lw9), .ref (md 9), .ref (md 10), .ref (md 11), .ref (md 12), .ref (md 13), .ref (md 14), .ref (md 15), .int (eI kn), .int (eI fo)])), ((md 1), aI cI 25 sc), ((md 2), aI cI 4 ln), ((md 3), aI cZ 4 cb), ((md 4), aI cZ 3 th), ((md 5), aI cI 3 pl), ((md 6), aI cI 3 lo), ((md 7), aI cI 3 pr), ((md 8), aI cI 30 la)] → va_S A s.heap H locs → W p l e R s m args below meth c H locs 0 0 Q (F0 m 2 ls []) := by
    intro q
    induction q with
    | zero =>
      intro i up9 lw9 H locs ls hq hi hfi hl hP hD hS
      have hiN : i = 6 := by omega
      subst hiN
      refine lv_iload_n hx hb d_M_fault_2 rfl (lv_at hl 0 rfl) ?_
      refine lv_bipush (v := eI 6) hx hb d_M_fault_3 (by decide) ?_
      refine we_icmp_ge (tgt := 75) hx hb (by constructor <;> omega) (by constructor <;> omega) d_M_fault_5 rfl (fun hc5 => ?_) (fun hc5 => absurd hc5 (by omega))
      refine lv_iconst (v := eI 0) hx hb d_M_fault_75 rfl ?_
      refine lv_istore_n hx hb d_M_fault_76 rfl hl (by decide) rfl (fun ls hl => ?_)
      have hl : lv_has ls 5 [(1, .int (eI 0)), (0, .ref (md 0))] := hl
      exact l2 hfi 5 0 up9 lw9 H locs ls (by omega) (by omega) rfl (lv_sub hl [0, 1] rfl) hP hD hS
    | succ q ih =>
      intro i up9 lw9 H locs ls hq hi hfi hl hP hD hS
      have hgb := eh_gv_b hE (show i < 6 by omega)
      have hrow : eh_row la i = (eh_sm (fun d => la (5 * i + d)) 5) := rfl
      have hsmb : ∀ j, j ≤ 5 → 0 ≤ (eh_sm (fun d => la (5 * i + d)) j) ∧ (eh_sm (fun d => la (5 * i + d)) j) ≤ 100000000 * (j : Int) := fun j hj => eh_sm_bd (fun d hd => hla _ (by omega))
      refine lv_iload_n hx hb d_M_fault_2 rfl (lv_at hl 0 rfl) ?_
      refine lv_bipush (v := eI 6) hx hb d_M_fault_3 (by decide) ?_
      refine we_icmp_ge (tgt := 75) hx hb (by constructor <;> omega) (by constructor <;> omega) d_M_fault_5 rfl (fun hc5 => absurd hc5 (by omega)) (fun hc5 => ?_)
      refine lv_lconst (v := eL 0) hx hb d_M_fault_8 (by decide) ?_
      refine lv_lstore_n hx hb d_M_fault_9 rfl hl (by decide) rfl (fun ls hl => ?_)
      have hl : lv_has ls 5 [(2, .long (eL 0)), (1, .int (eI ((i : Nat) : Int))), (0, .ref (md 0))] := hl
      refine lv_iconst (v := eI 0) hx hb d_M_fault_10 rfl ?_
      refine lv_istore hx hb d_M_fault_11 hl (by decide) rfl (fun ls hl => ?_)
      have hl : lv_has ls 5 [(4, .int (eI 0)), (2, .long (eL 0)), (1, .int (eI ((i : Nat) : Int))), (0, .ref (md 0))] := hl
      have inner : ∀ (q2 j : Nat) (ls : Array Slot), 5 - j = q2 → j ≤ 5 → lv_has ls 5 [(4, .int (eI ((j : Nat) : Int))), (2, .long (eL (eh_sm (fun d => la (5 * i + d)) j))), (1, .int (eI ((i : Nat) : Int))), (0, .ref (md 0))] → W p l e R s m args below meth c H locs 0 0 Q (F0 m 13 ls []) := by
        intro q2
        induction q2 with
        | zero =>
          intro j ls hq2 hj hl
          have hjM : j = 5 := by omega
          subst hjM
          have hsm9 := hsmb 5 (by omega)
          refine lv_iload hx hb d_M_fault_13 (lv_at hl 0 rfl) ?_
          refine lv_iconst (v := eI 5) hx hb d_M_fault_15 rfl ?_
          refine we_icmp_ge (tgt := 40) hx hb (by constructor <;> omega) (by constructor <;> omega) d_M_fault_16 rfl (fun hc16 => ?_) (fun hc16 => absurd hc16 (by omega))
          refine lv_lload_n hx hb d_M_fault_40 rfl (lv_at hl 1 rfl) ?_
          refine lv_aload_n hx hb d_M_fault_41 rfl (lv_at hl 3 rfl) ?_
          refine lv_iload_n hx hb d_M_fault_42 rfl (lv_at hl 2 rfl) ?_
          refine eh_cMV (As := [.int (eI ((i : Nat) : Int))]) (rest := [.long (eL (eh_sm (fun d => la (5 * i + d)) 5))]) (q := (R_M, T_M, 23)) (wr := []) hx hb hml hown htb hN (m_M_given l D cI cL cZ md co n sh ra up9 lw9 kn fo sc ln cb th pl lo pr la cu cl fu fl ys yl yp i (by omega) hM) 1 ⟨tb_769, tb_771, ts_40, tb_7, kin_M_given⟩ dv_M_given ⟨by rw [hR1]; decide, by rw [hR2]; decide⟩ hK hP hD hS hA 0 rfl rfl [0, 1, 2, 3, 4, 5, 6, 7, 8] [] rfl rfl (by decide) rfl (by decide) (by decide) [0, 1, 2] rfl rfl rfl hl.1 (Nat.le_of_ble_eq_true rfl) d_M_fault_43 ⟨Nat.zero_le _, Nat.zero_le _⟩ (fun u H locs hu hP hD hS => ?_)
          obtain ⟨up3, lw3⟩ := u
          have hP := hP.sub (ws' := [((md 0), .inr (5, [.int (eI co), .int (eI ((n : Nat) : Int)), .ref (md 1), .ref (md 2), .ref (md 3), .int (eI sh), .int (eI ra), .ref (md 4), .ref (md 5), .ref (md 6), .ref (md 7), .ref (md 8), .long (eL up3), .long (eL lw3), .ref (md 9), .ref (md 10), .ref (md 11), .ref (md 12), .ref (md 13), .ref (md 14), .ref (md 15), .int (eI kn), .int (eI fo)])), ((md 1), aI cI 25 sc), ((md 2), aI cI 4 ln), ((md 3), aI cZ 4 cb), ((md 4), aI cZ 3 th), ((md 5), aI cI 3 pl), ((md 6), aI cI 3 lo), ((md 7), aI cI 3 pr), ((md 8), aI cI 30 la)]) [0, 1, 2, 3, 4, 5, 6, 7, 8] rfl
          have hD := hD.sub (ws' := [((md 0), .inr (5, [.int (eI co), .int (eI ((n : Nat) : Int)), .ref (md 1), .ref (md 2), .ref (md 3), .int (eI sh), .int (eI ra), .ref (md 4), .ref (md 5), .ref (md 6), .ref (md 7), .ref (md 8), .long (eL up3), .long (eL lw3), .ref (md 9), .ref (md 10), .ref (md 11), .ref (md 12), .ref (md 13), .ref (md 14), .ref (md 15), .int (eI kn), .int (eI fo)])), ((md 1), aI cI 25 sc), ((md 2), aI cI 4 ln), ((md 3), aI cZ 4 cb), ((md 4), aI cZ 3 th), ((md 5), aI cI 3 pl), ((md 6), aI cI 3 lo), ((md 7), aI cI 3 pr), ((md 8), aI cI 30 la)]) [0, 1, 2, 3, 4, 5, 6, 7, 8] (by decide) rfl
          refine we_i2l hx hb (by constructor <;> omega) d_M_fault_46 ?_
          refine we_lcmp_gt (pc2 := 48) (tgt := 67) hx hb (by constructor <;> omega) (by constructor <;> omega) d_M_fault_47 rfl d_M_fault_48 rfl (fun hc47 => ?_) (fun hc47 => ?_)
          ·
            refine lv_iload_n hx hb d_M_fault_67 rfl (lv_at hl 2 rfl) ?_
            have hres : (((i : Nat) : Int) : Int) = (eh_jg n sh ra ln cb la cu cl fu fl ys yl yp) := by
              have hsb : (eh_sb n sh ln la cu cl yl) i = true := by
                unfold eh_sb
                by_cases w : i < 4
                · rw [if_pos w]; exact decide_eq_true (by omega)
                · rw [if_neg w]; exact decide_eq_true (by omega)
              unfold eh_jg
              rw [eh_first_at hfi hsb 6 (by omega)]
              show _ = (0 : Int) + (i : Int)
              omega
            rw [hres]
            subst hQ
            exact W.iret hx hb hrt (fun t9 ht hW => ⟨⟨(up3, lw3), rfl, trivial, by rw [ht]; exact hP, hD⟩, hS.F ht⟩) hS.2.2 d_M_fault_68
          ·
            refine lv_iload_n hx hb d_M_fault_51 rfl (lv_at hl 2 rfl) ?_
            refine lv_iconst (v := eI 4) hx hb d_M_fault_52 rfl ?_
            refine we_icmp_ge (tgt := 69) hx hb (by constructor <;> omega) (by constructor <;> omega) d_M_fault_53 rfl (fun hc53 => ?_) (fun hc53 => ?_)
            ·
              refine lv_iinc (v := eI (((i : Nat) : Int) + 1)) hx hb d_M_fault_69 hl (k := 2) rfl (eI_add _ _) (by decide) rfl (fun ls hl => ?_)
              have hl : lv_has ls 5 [(1, .int (eI (((i : Nat) : Int) + 1))), (4, .int (eI ((5 : Nat) : Int))), (2, .long (eL (eh_sm (fun d => la (5 * i + d)) 5))), (0, .ref (md 0))] := hl
              refine lv_goto (tgt := 2) hx hb d_M_fault_72 rfl ?_
              have hsb : (eh_sb n sh ln la cu cl yl) i = false := by
                unfold eh_sb
                by_cases w : i < 4
                · rw [if_pos w]; exact decide_eq_false (by omega)
                · rw [if_neg w]; exact decide_eq_false (by omega)
              exact ih (i + 1) up3 lw3 H locs ls (by omega) (by omega) (eh_first_s hfi hsb) (lv_sub hl [0, 3] rfl) hP hD hS
            ·
              refine lv_lload_n hx hb d_M_fault_56 rfl (lv_at hl 1 rfl) ?_
              refine lv_aload_n hx hb d_M_fault_57 rfl (lv_at hl 3 rfl) ?_
              refine lv_iload_n hx hb d_M_fault_58 rfl (lv_at hl 2 rfl) ?_
              refine eh_cMV (As := [.int (eI ((i : Nat) : Int))]) (rest := [.long (eL (eh_sm (fun d => la (5 * i + d)) 5))]) (q := (R_M, T_M, 23)) (wr := []) hx hb hml hown htb hN (m_M_given l D cI cL cZ md co n sh ra up3 lw3 kn fo sc ln cb th pl lo pr la cu cl fu fl ys yl yp i (by omega) hM) 1 ⟨tb_769, tb_771, ts_40, tb_7, kin_M_given⟩ dv_M_given ⟨by rw [hR1]; decide, by rw [hR2]; decide⟩ hK hP hD hS hA 0 rfl rfl [0, 1, 2, 3, 4, 5, 6, 7, 8] [] rfl rfl (by decide) rfl (by decide) (by decide) [0, 1, 2] rfl rfl rfl hl.1 (Nat.le_of_ble_eq_true rfl) d_M_fault_59 ⟨Nat.zero_le _, Nat.zero_le _⟩ (fun u H locs hu hP hD hS => ?_)
              obtain ⟨up4, lw4⟩ := u
              have hP := hP.sub (ws' := [((md 0), .inr (5, [.int (eI co), .int (eI ((n : Nat) : Int)), .ref (md 1), .ref (md 2), .ref (md 3), .int (eI sh), .int (eI ra), .ref (md 4), .ref (md 5), .ref (md 6), .ref (md 7), .ref (md 8), .long (eL up4), .long (eL lw4), .ref (md 9), .ref (md 10), .ref (md 11), .ref (md 12), .ref (md 13), .ref (md 14), .ref (md 15), .int (eI kn), .int (eI fo)])), ((md 1), aI cI 25 sc), ((md 2), aI cI 4 ln), ((md 3), aI cZ 4 cb), ((md 4), aI cZ 3 th), ((md 5), aI cI 3 pl), ((md 6), aI cI 3 lo), ((md 7), aI cI 3 pr), ((md 8), aI cI 30 la)]) [0, 1, 2, 3, 4, 5, 6, 7, 8] rfl
              have hD := hD.sub (ws' := [((md 0), .inr (5, [.int (eI co), .int (eI ((n : Nat) : Int)), .ref (md 1), .ref (md 2), .ref (md 3), .int (eI sh), .int (eI ra), .ref (md 4), .ref (md 5), .ref (md 6), .ref (md 7), .ref (md 8), .long (eL up4), .long (eL lw4), .ref (md 9), .ref (md 10), .ref (md 11), .ref (md 12), .ref (md 13), .ref (md 14), .ref (md 15), .int (eI kn), .int (eI fo)])), ((md 1), aI cI 25 sc), ((md 2), aI cI 4 ln), ((md 3), aI cZ 4 cb), ((md 4), aI cZ 3 th), ((md 5), aI cI 3 pl), ((md 6), aI cI 3 lo), ((md 7), aI cI 3 pr), ((md 8), aI cI 30 la)]) [0, 1, 2, 3, 4, 5, 6, 7, 8] (by decide) rfl
              refine we_i2l hx hb (by constructor <;> omega) d_M_fault_62 ?_
              refine we_lcmp_ge (pc2 := 64) (tgt := 69) hx hb (by constructor <;> omega) (by constructor <;> omega) d_M_fault_63 rfl d_M_fault_64 rfl (fun hc63 => ?_) (fun hc63 => ?_)
              ·
                refine lv_iinc (v := eI (((i : Nat) : Int) + 1)) hx hb d_M_fault_69 hl (k := 2) rfl (eI_add _ _) (by decide) rfl (fun ls hl => ?_)
                have hl : lv_has ls 5 [(1, .int (eI (((i : Nat) : Int) + 1))), (4, .int (eI ((5 : Nat) : Int))), (2, .long (eL (eh_sm (fun d => la (5 * i + d)) 5))), (0, .ref (md 0))] := hl
                refine lv_goto (tgt := 2) hx hb d_M_fault_72 rfl ?_
                have hsb : (eh_sb n sh ln la cu cl yl) i = false := by
                  unfold eh_sb
                  by_cases w : i < 4
                  · rw [if_pos w]; exact decide_eq_false (by omega)
                  · rw [if_neg w]; exact decide_eq_false (by omega)
                exact ih (i + 1) up4 lw4 H locs ls (by omega) (by omega) (eh_first_s hfi hsb) (lv_sub hl [0, 3] rfl) hP hD hS
              ·
                refine lv_iload_n hx hb d_M_fault_67 rfl (lv_at hl 2 rfl) ?_
                have hres : (((i : Nat) : Int) : Int) = (eh_jg n sh ra ln cb la cu cl fu fl ys yl yp) := by
                  have hsb : (eh_sb n sh ln la cu cl yl) i = true := by
                    unfold eh_sb
                    by_cases w : i < 4
                    · rw [if_pos w]; exact decide_eq_true (by omega)
                    · rw [if_neg w]; exact decide_eq_true (by omega)
                  unfold eh_jg
                  rw [eh_first_at hfi hsb 6 (by omega)]
                  show _ = (0 : Int) + (i : Int)
                  omega
                rw [hres]
                subst hQ
                exact W.iret hx hb hrt (fun t9 ht hW => ⟨⟨(up4, lw4), rfl, trivial, by rw [ht]; exact hP, hD⟩, hS.F ht⟩) hS.2.2 d_M_fault_68
        | succ q2 ih2 =>
          intro j ls hq2 hj hl
          have hlk := hla (5 * i + j) (by omega)
          have hsm9 := hsmb j (by omega)
          refine lv_iload hx hb d_M_fault_13 (lv_at hl 0 rfl) ?_
          refine lv_iconst (v := eI 5) hx hb d_M_fault_15 rfl ?_
          refine we_icmp_ge (tgt := 40) hx hb (by constructor <;> omega) (by constructor <;> omega) d_M_fault_16 rfl (fun hc16 => absurd hc16 (by omega)) (fun hc16 => ?_)
          refine lv_lload_n hx hb d_M_fault_19 rfl (lv_at hl 1 rfl) ?_
          refine lv_aload_n hx hb d_M_fault_20 rfl (lv_at hl 3 rfl) ?_
          refine va_get (D := D) (ci := 5) (v := .ref (md 8)) (C := R_M) (T := T_M) (N := 23) hx hb htb in_M hown hK hP 0 rfl rfl 11 (by decide) (htb _ tb_599) (fun _ h9 => h9) rfl d_M_fault_21 ?_
          refine lv_iconst (v := eI 5) hx hb d_M_fault_24 rfl ?_
          refine lv_iload_n hx hb d_M_fault_25 rfl (lv_at hl 2 rfl) ?_
          refine we_imul hx hb d_M_fault_26 ?_
          refine lv_iload hx hb d_M_fault_27 (lv_at hl 0 rfl) ?_
          refine we_iadd hx hb d_M_fault_29 ?_
          refine we_iald hx hb hK hP 8 0 rfl rfl (5 * i + j) (by omega) (by omega) (by decide) d_M_fault_30 ?_
          refine we_i2l hx hb (by constructor <;> omega) d_M_fault_31 ?_
          refine we_ladd hx hb d_M_fault_32 ?_
          refine lv_lstore_n hx hb d_M_fault_33 rfl hl (by decide) rfl (fun ls hl => ?_)
          have hl : lv_has ls 5 [(2, .long (eL ((eh_sm (fun d => la (5 * i + d)) j) + (la (5 * i + j))))), (4, .int (eI ((j : Nat) : Int))), (1, .int (eI ((i : Nat) : Int))), (0, .ref (md 0))] := hl
          refine lv_iinc (v := eI (((j : Nat) : Int) + 1)) hx hb d_M_fault_34 hl (k := 1) rfl (eI_add _ _) (by decide) rfl (fun ls hl => ?_)
          have hl : lv_has ls 5 [(4, .int (eI (((j : Nat) : Int) + 1))), (2, .long (eL ((eh_sm (fun d => la (5 * i + d)) j) + (la (5 * i + j))))), (1, .int (eI ((i : Nat) : Int))), (0, .ref (md 0))] := hl
          refine lv_goto (tgt := 13) hx hb d_M_fault_37 rfl ?_
          exact ih2 (j + 1) ls (by omega) (by omega) (lv_sub hl [0, 1, 2, 3] rfl)
      exact inner 5 0 ls (by omega) (by omega) (lv_sub hl [0, 1, 2, 3] rfl)
  refine lv_iconst (v := eI 0) hx hb d_M_fault_0 rfl ?_
  refine lv_istore_n hx hb d_M_fault_1 rfl hl (by decide) rfl (fun ls hl => ?_)
  have hl : lv_has ls 5 [(1, .int (eI 0)), (0, .ref (md 0))] := hl
  exact l1 6 0 up lw s.heap [] ls (by omega) (by omega) rfl (lv_sub hl [0, 1] rfl) hP hD hS
abbrev c_M_judge : ByteArray := prog_7_method_44_code
def y_M_judge : MethodName := ⟨"EarthHaulsModel", "judge", "()I"⟩
abbrev k_M_judge : Cond := .code y_M_judge c_M_judge 1 (some .int)
theorem kin_M_judge : k_M_judge ∈ ew_t := tb_827
theorem dv_M_judge : eh_dV y_M_judge "EarthHaulsModel" 0 := ⟨rfl, by decide, by decide, by decide +kernel⟩
theorem d_M_judge_0 : decode c_M_judge 0 = .ok (.aload_n 0, 1) := by decide +kernel
theorem d_M_judge_1 : decode c_M_judge 1 = .ok (.iconst 0, 1) := by decide +kernel
theorem d_M_judge_2 : decode c_M_judge 2 = .ok (.putfield 64, 3) := by decide +kernel
theorem d_M_judge_5 : decode c_M_judge 5 = .ok (.aload_n 0, 1) := by decide +kernel
theorem d_M_judge_6 : decode c_M_judge 6 = .ok (.invokevirtual 191, 3) := by decide +kernel
theorem d_M_judge_9 : decode c_M_judge 9 = .ok (.ireturn, 1) := by decide +kernel
set_option maxHeartbeats 1000000 in
set_option maxRecDepth 100000 in
theorem m_M_judge (l : Launch) (D : va_G) (cI cL cZ : ClassId) (md : Nat → Nat) (co : Int) (n : Nat) (sh ra up lw kn fo : Int) (sc ln cb th pl lo pr la : Nat → Int) (cu cl fu fl : Nat → Nat) (ys yl yp : Nat → Int) (hM : eh_MS n sh ra sc ln cb th pl lo pr la cu cl fu fl ys yl yp) : eh_M (S := Int × Int) l y_M_judge k_M_judge 6 159 D classes [(cI, .int), (cL, .long), (cZ, .boolean)] [.ref (md 0)] [((md 0), .inr (5, [.int (eI co), .int (eI ((n : Nat) : Int)), .ref (md 1), .ref (md 2), .ref (md 3), .int (eI sh), .int (eI ra), .ref (md 4), .ref (md 5), .ref (md 6), .ref (md 7), .ref (md 8), .long (eL up), .long (eL lw), .ref (md 9), .ref (md 10), .ref (md 11), .ref (md 12), .ref (md 13), .ref (md 14), .ref (md 15), .int (eI kn), .int (eI fo)])), ((md 1), aI cI 25 sc), ((md 2), aI cI 4 ln), ((md 3), aI cZ 4 cb), ((md 4), aI cZ 3 th), ((md 5), aI cI 3 pl), ((md 6), aI cI 3 lo), ((md 7), aI cI 3 pr), ((md 8), aI cI 30 la)] (fun _ => True) (fun _ => some (.int (eI (eh_jg n sh ra ln cb la cu cl fu fl ys yl yp)))) (fun u => [((md 0), .inr (5, [.int (eI 0), .int (eI ((n : Nat) : Int)), .ref (md 1), .ref (md 2), .ref (md 3), .int (eI sh), .int (eI ra), .ref (md 4), .ref (md 5), .ref (md 6), .ref (md 7), .ref (md 8), .long (eL u.1), .long (eL u.2), .ref (md 9), .ref (md 10), .ref (md 11), .ref (md 12), .ref (md 13), .ref (md 14), .ref (md 15), .int (eI kn), .int (eI fo)])), ((md 1), aI cI 25 sc), ((md 2), aI cI 4 ln), ((md 3), aI cZ 4 cb), ((md 4), aI cZ 3 th), ((md 5), aI cI 3 pl), ((md 6), aI cI 3 lo), ((md 7), aI cI 3 pr), ((md 8), aI cI 30 la)]) := by
  intro sz
  refine Met.ofW (cc := c_M_judge) (maxL := 1) (ret := (some .int)) (by decide) rfl ?_
  intro p e s m args below meth c s₁ B hml hv
  obtain ⟨hargs, hsz, hP, hK, hD0, hN⟩ := hv
  have hx := B.exec
  have hb := B.bytes
  have hrt := B.returns
  have hts := atoms_spec (ws := k_M_judge :: ew_t) B.pre
  have htb : ∀ w ∈ ew_t, w.before args s = true := fun w h => hts w (List.mem_cons_of_mem _ h)
  have hown : s.vm.findClass "EarthHaulsModel" = some m.cls := findClass_of_methodNamed B.named
  have hlocks := B.notSynchronized
  have hE : entryFrame m args 1 = entryFrame m ([.ref (md 0)] : List Value).toArray 1 := by rw [hargs]
  rw [hE]
  clear hE hts B hargs
  generalize hRe : (headSpec _ _).room = R
  have hR1 : R.frames = 6 := by rw [← hRe]; rfl
  have hR2 : R.locals = 159 := by rw [← hRe]; rfl
  clear hRe
  generalize hQ : MQ below _ _ s 0 0 _ = Q
  subst hsz
  have hD := hD0.self (sz := s.heap.size)
  generalize hAe : va_A [((md 0), .inr (5, [.int (eI co), .int (eI ((n : Nat) : Int)), .ref (md 1), .ref (md 2), .ref (md 3), .int (eI sh), .int (eI ra), .ref (md 4), .ref (md 5), .ref (md 6), .ref (md 7), .ref (md 8), .long (eL up), .long (eL lw), .ref (md 9), .ref (md 10), .ref (md 11), .ref (md 12), .ref (md 13), .ref (md 14), .ref (md 15), .int (eI kn), .int (eI fo)])), ((md 1), aI cI 25 sc), ((md 2), aI cI 4 ln), ((md 3), aI cZ 4 cb), ((md 4), aI cZ 3 th), ((md 5), aI cI 3 pl), ((md 6), aI cI 3 lo), ((md 7), aI cI 3 pr), ((md 8), aI cI 30 la)] s.heap.size = A at hD hQ
  have hA : ∀ q : Nat, s.heap.size ≤ q → A q := fun q h => by rw [← hAe]; exact Or.inr h
  have hS : va_S A s.heap s.heap [] := va_S.rf
  have hP : va_P D classes [((md 0), .inr (5, [.int (eI co), .int (eI ((n : Nat) : Int)), .ref (md 1), .ref (md 2), .ref (md 3), .int (eI sh), .int (eI ra), .ref (md 4), .ref (md 5), .ref (md 6), .ref (md 7), .ref (md 8), .long (eL up), .long (eL lw), .ref (md 9), .ref (md 10), .ref (md 11), .ref (md 12), .ref (md 13), .ref (md 14), .ref (md 15), .int (eI kn), .int (eI fo)])), ((md 1), aI cI 25 sc), ((md 2), aI cI 4 ln), ((md 3), aI cZ 4 cb), ((md 4), aI cZ 3 th), ((md 5), aI cI 3 pl), ((md 6), aI cI 3 lo), ((md 7), aI cI 3 pr), ((md 8), aI cI 30 la)] s.heap := hP
  have hl := lv_entry ([.ref (md 0)]) (n := 1) (Nat.le_of_ble_eq_true rfl)
  rw [lg_entry_eq]
  generalize (lg_sl ([.ref (md 0)]) ++ List.replicate (1 - (lg_sl ([.ref (md 0)])).length) Slot.unset).toArray = ls at hl ⊢
  have hl : lv_has ls 1 [(0, .ref (md 0))] := hl
  refine lv_aload_n hx hb d_M_judge_0 rfl (lv_at hl 0 rfl) ?_
  refine lv_iconst (v := eI 0) hx hb d_M_judge_1 rfl ?_
  refine va_put (D := D) (ci := 5) (v := .int (eI 0)) (ty := .int) (C := R_M) (T := T_M) (N := 23) hx hb htb in_M t_M t_M_ok n_M hown hK hP hD hS 0 rfl rfl 0 (by decide) (htb _ tb_588) (fun _ h9 => h9) rfl (by decide +kernel) rfl rfl (Nat.le_of_ble_eq_true rfl) d_M_judge_2 (fun H locs hP hD hS => ?_)
  have hP : va_P D classes [((md 0), .inr (5, [.int (eI 0), .int (eI ((n : Nat) : Int)), .ref (md 1), .ref (md 2), .ref (md 3), .int (eI sh), .int (eI ra), .ref (md 4), .ref (md 5), .ref (md 6), .ref (md 7), .ref (md 8), .long (eL up), .long (eL lw), .ref (md 9), .ref (md 10), .ref (md 11), .ref (md 12), .ref (md 13), .ref (md 14), .ref (md 15), .int (eI kn), .int (eI fo)])), ((md 1), aI cI 25 sc), ((md 2), aI cI 4 ln), ((md 3), aI cZ 4 cb), ((md 4), aI cZ 3 th), ((md 5), aI cI 3 pl), ((md 6), aI cI 3 lo), ((md 7), aI cI 3 pr), ((md 8), aI cI 30 la)] H := hP
  have hD : va_D A [((md 0), .inr (5, [.int (eI 0), .int (eI ((n : Nat) : Int)), .ref (md 1), .ref (md 2), .ref (md 3), .int (eI sh), .int (eI ra), .ref (md 4), .ref (md 5), .ref (md 6), .ref (md 7), .ref (md 8), .long (eL up), .long (eL lw), .ref (md 9), .ref (md 10), .ref (md 11), .ref (md 12), .ref (md 13), .ref (md 14), .ref (md 15), .int (eI kn), .int (eI fo)])), ((md 1), aI cI 25 sc), ((md 2), aI cI 4 ln), ((md 3), aI cZ 4 cb), ((md 4), aI cZ 3 th), ((md 5), aI cI 3 pl), ((md 6), aI cI 3 lo), ((md 7), aI cI 3 pr), ((md 8), aI cI 30 la)] := hD
  refine lv_aload_n hx hb d_M_judge_5 rfl (lv_at hl 0 rfl) ?_
  refine eh_cMV (As := []) (rest := []) (q := (R_M, T_M, 23)) (wr := []) hx hb hml hown htb hN (m_M_fault l D cI cL cZ md 0 n sh ra up lw kn fo sc ln cb th pl lo pr la cu cl fu fl ys yl yp hM) 0 ⟨tb_828, tb_830, ts_50, tb_7, kin_M_fault⟩ dv_M_fault ⟨by rw [hR1]; decide, by rw [hR2]; decide⟩ hK hP hD hS hA 0 rfl rfl [0, 1, 2, 3, 4, 5, 6, 7, 8] [] rfl rfl (by decide) rfl (by decide) (by decide) [0, 1, 2] rfl rfl rfl hl.1 (Nat.le_of_ble_eq_true rfl) d_M_judge_6 ⟨Nat.zero_le _, Nat.zero_le _⟩ (fun u H locs hu hP hD hS => ?_)
  obtain ⟨up9, lw9⟩ := u
  have hP := hP.sub (ws' := [((md 0), .inr (5, [.int (eI 0), .int (eI ((n : Nat) : Int)), .ref (md 1), .ref (md 2), .ref (md 3), .int (eI sh), .int (eI ra), .ref (md 4), .ref (md 5), .ref (md 6), .ref (md 7), .ref (md 8), .long (eL up9), .long (eL lw9), .ref (md 9), .ref (md 10), .ref (md 11), .ref (md 12), .ref (md 13), .ref (md 14), .ref (md 15), .int (eI kn), .int (eI fo)])), ((md 1), aI cI 25 sc), ((md 2), aI cI 4 ln), ((md 3), aI cZ 4 cb), ((md 4), aI cZ 3 th), ((md 5), aI cI 3 pl), ((md 6), aI cI 3 lo), ((md 7), aI cI 3 pr), ((md 8), aI cI 30 la)]) [0, 1, 2, 3, 4, 5, 6, 7, 8] rfl
  have hD := hD.sub (ws' := [((md 0), .inr (5, [.int (eI 0), .int (eI ((n : Nat) : Int)), .ref (md 1), .ref (md 2), .ref (md 3), .int (eI sh), .int (eI ra), .ref (md 4), .ref (md 5), .ref (md 6), .ref (md 7), .ref (md 8), .long (eL up9), .long (eL lw9), .ref (md 9), .ref (md 10), .ref (md 11), .ref (md 12), .ref (md 13), .ref (md 14), .ref (md 15), .int (eI kn), .int (eI fo)])), ((md 1), aI cI 25 sc), ((md 2), aI cI 4 ln), ((md 3), aI cZ 4 cb), ((md 4), aI cZ 3 th), ((md 5), aI cI 3 pl), ((md 6), aI cI 3 lo), ((md 7), aI cI 3 pr), ((md 8), aI cI 30 la)]) [0, 1, 2, 3, 4, 5, 6, 7, 8] (by decide) rfl
  subst hQ
  exact W.iret hx hb hrt (fun t9 ht hW => ⟨⟨(up9, lw9), rfl, trivial, by rw [ht]; exact hP, hD⟩, hS.F ht⟩) hS.2.2 d_M_judge_9
