abbrev c_M_prepare : ByteArray := prog_7_method_30_code
def y_M_prepare : MethodName := ⟨"EarthHaulsModel", "prepare", "(II)V"⟩
abbrev k_M_prepare : Cond := .code y_M_prepare c_M_prepare 10 none
theorem kin_M_prepare : k_M_prepare ∈ ew_t := tb_768
theorem dv_M_prepare : eh_dV y_M_prepare "EarthHaulsModel" 2 := ⟨rfl, by decide, by decide, by decide +kernel⟩
theorem d_M_prepare_0 : decode c_M_prepare 0 = .ok (.lconst 0, 1) := by decide +kernel
theorem d_M_prepare_1 : decode c_M_prepare 1 = .ok (.lstore_n 3, 1) := by decide +kernel
theorem d_M_prepare_2 : decode c_M_prepare 2 = .ok (.iconst 0, 1) := by decide +kernel
theorem d_M_prepare_3 : decode c_M_prepare 3 = .ok (.istore 5, 2) := by decide +kernel
theorem d_M_prepare_5 : decode c_M_prepare 5 = .ok (.iload 5, 2) := by decide +kernel
theorem d_M_prepare_7 : decode c_M_prepare 7 = .ok (.bipush 6, 2) := by decide +kernel
theorem d_M_prepare_9 : decode c_M_prepare 9 = .ok (.if_icmp .ge 45, 3) := by decide +kernel
theorem d_M_prepare_12 : decode c_M_prepare 12 = .ok (.aload_n 0, 1) := by decide +kernel
theorem d_M_prepare_13 : decode c_M_prepare 13 = .ok (.getfield 42, 3) := by decide +kernel
theorem d_M_prepare_16 : decode c_M_prepare 16 = .ok (.iload 5, 2) := by decide +kernel
theorem d_M_prepare_18 : decode c_M_prepare 18 = .ok (.aload_n 0, 1) := by decide +kernel
theorem d_M_prepare_19 : decode c_M_prepare 19 = .ok (.iload 5, 2) := by decide +kernel
theorem d_M_prepare_21 : decode c_M_prepare 21 = .ok (.invokevirtual 137, 3) := by decide +kernel
theorem d_M_prepare_24 : decode c_M_prepare 24 = .ok (.iload 5, 2) := by decide +kernel
theorem d_M_prepare_26 : decode c_M_prepare 26 = .ok (.iload_n 1, 1) := by decide +kernel
theorem d_M_prepare_27 : decode c_M_prepare 27 = .ok (.if_icmp .ne 7, 3) := by decide +kernel
theorem d_M_prepare_30 : decode c_M_prepare 30 = .ok (.iconst 1, 1) := by decide +kernel
theorem d_M_prepare_31 : decode c_M_prepare 31 = .ok (.goto 4, 3) := by decide +kernel
theorem d_M_prepare_34 : decode c_M_prepare 34 = .ok (.iconst 0, 1) := by decide +kernel
theorem d_M_prepare_35 : decode c_M_prepare 35 = .ok (.iadd, 1) := by decide +kernel
theorem d_M_prepare_36 : decode c_M_prepare 36 = .ok (.i2l, 1) := by decide +kernel
theorem d_M_prepare_37 : decode c_M_prepare 37 = .ok (.lastore, 1) := by decide +kernel
theorem d_M_prepare_38 : decode c_M_prepare 38 = .ok (.lload_n 3, 1) := by decide +kernel
theorem d_M_prepare_39 : decode c_M_prepare 39 = .ok (.aload_n 0, 1) := by decide +kernel
theorem d_M_prepare_40 : decode c_M_prepare 40 = .ok (.getfield 42, 3) := by decide +kernel
theorem d_M_prepare_43 : decode c_M_prepare 43 = .ok (.iload 5, 2) := by decide +kernel
theorem d_M_prepare_45 : decode c_M_prepare 45 = .ok (.laload, 1) := by decide +kernel
theorem d_M_prepare_46 : decode c_M_prepare 46 = .ok (.ladd, 1) := by decide +kernel
theorem d_M_prepare_47 : decode c_M_prepare 47 = .ok (.lstore_n 3, 1) := by decide +kernel
theorem d_M_prepare_48 : decode c_M_prepare 48 = .ok (.iinc 5 1, 3) := by decide +kernel
theorem d_M_prepare_51 : decode c_M_prepare 51 = .ok (.goto (-46), 3) := by decide +kernel
theorem d_M_prepare_54 : decode c_M_prepare 54 = .ok (.iconst 0, 1) := by decide +kernel
theorem d_M_prepare_55 : decode c_M_prepare 55 = .ok (.istore 5, 2) := by decide +kernel
theorem d_M_prepare_57 : decode c_M_prepare 57 = .ok (.iload 5, 2) := by decide +kernel
theorem d_M_prepare_59 : decode c_M_prepare 59 = .ok (.iconst 5, 1) := by decide +kernel
theorem d_M_prepare_60 : decode c_M_prepare 60 = .ok (.if_icmp .ge 45, 3) := by decide +kernel
theorem d_M_prepare_63 : decode c_M_prepare 63 = .ok (.aload_n 0, 1) := by decide +kernel
theorem d_M_prepare_64 : decode c_M_prepare 64 = .ok (.getfield 46, 3) := by decide +kernel
theorem d_M_prepare_67 : decode c_M_prepare 67 = .ok (.iload 5, 2) := by decide +kernel
theorem d_M_prepare_69 : decode c_M_prepare 69 = .ok (.aload_n 0, 1) := by decide +kernel
theorem d_M_prepare_70 : decode c_M_prepare 70 = .ok (.iload 5, 2) := by decide +kernel
theorem d_M_prepare_72 : decode c_M_prepare 72 = .ok (.invokevirtual 140, 3) := by decide +kernel
theorem d_M_prepare_75 : decode c_M_prepare 75 = .ok (.iload 5, 2) := by decide +kernel
theorem d_M_prepare_77 : decode c_M_prepare 77 = .ok (.iload_n 2, 1) := by decide +kernel
theorem d_M_prepare_78 : decode c_M_prepare 78 = .ok (.if_icmp .ne 7, 3) := by decide +kernel
theorem d_M_prepare_81 : decode c_M_prepare 81 = .ok (.iconst 1, 1) := by decide +kernel
theorem d_M_prepare_82 : decode c_M_prepare 82 = .ok (.goto 4, 3) := by decide +kernel
theorem d_M_prepare_85 : decode c_M_prepare 85 = .ok (.iconst 0, 1) := by decide +kernel
theorem d_M_prepare_86 : decode c_M_prepare 86 = .ok (.iadd, 1) := by decide +kernel
theorem d_M_prepare_87 : decode c_M_prepare 87 = .ok (.i2l, 1) := by decide +kernel
theorem d_M_prepare_88 : decode c_M_prepare 88 = .ok (.lastore, 1) := by decide +kernel
theorem d_M_prepare_89 : decode c_M_prepare 89 = .ok (.lload_n 3, 1) := by decide +kernel
theorem d_M_prepare_90 : decode c_M_prepare 90 = .ok (.aload_n 0, 1) := by decide +kernel
theorem d_M_prepare_91 : decode c_M_prepare 91 = .ok (.getfield 46, 3) := by decide +kernel
theorem d_M_prepare_94 : decode c_M_prepare 94 = .ok (.iload 5, 2) := by decide +kernel
theorem d_M_prepare_96 : decode c_M_prepare 96 = .ok (.laload, 1) := by decide +kernel
theorem d_M_prepare_97 : decode c_M_prepare 97 = .ok (.lsub, 1) := by decide +kernel
theorem d_M_prepare_98 : decode c_M_prepare 98 = .ok (.lstore_n 3, 1) := by decide +kernel
theorem d_M_prepare_99 : decode c_M_prepare 99 = .ok (.iinc 5 1, 3) := by decide +kernel
theorem d_M_prepare_102 : decode c_M_prepare 102 = .ok (.goto (-45), 3) := by decide +kernel
theorem d_M_prepare_105 : decode c_M_prepare 105 = .ok (.ldc2_w 143, 3) := by decide +kernel
theorem d_M_prepare_108 : decode c_M_prepare 108 = .ok (.lstore 5, 2) := by decide +kernel
theorem d_M_prepare_110 : decode c_M_prepare 110 = .ok (.aload_n 0, 1) := by decide +kernel
theorem d_M_prepare_111 : decode c_M_prepare 111 = .ok (.getfield 42, 3) := by decide +kernel
theorem d_M_prepare_114 : decode c_M_prepare 114 = .ok (.bipush 6, 2) := by decide +kernel
theorem d_M_prepare_116 : decode c_M_prepare 116 = .ok (.lload_n 3, 1) := by decide +kernel
theorem d_M_prepare_117 : decode c_M_prepare 117 = .ok (.lconst 0, 1) := by decide +kernel
theorem d_M_prepare_118 : decode c_M_prepare 118 = .ok (.lcmp, 1) := by decide +kernel
theorem d_M_prepare_119 : decode c_M_prepare 119 = .ok (.ifCond .ge 10, 3) := by decide +kernel
theorem d_M_prepare_122 : decode c_M_prepare 122 = .ok (.lload 5, 2) := by decide +kernel
theorem d_M_prepare_124 : decode c_M_prepare 124 = .ok (.lload_n 3, 1) := by decide +kernel
theorem d_M_prepare_125 : decode c_M_prepare 125 = .ok (.lsub, 1) := by decide +kernel
theorem d_M_prepare_126 : decode c_M_prepare 126 = .ok (.goto 5, 3) := by decide +kernel
theorem d_M_prepare_129 : decode c_M_prepare 129 = .ok (.lload 5, 2) := by decide +kernel
theorem d_M_prepare_131 : decode c_M_prepare 131 = .ok (.lastore, 1) := by decide +kernel
theorem d_M_prepare_132 : decode c_M_prepare 132 = .ok (.aload_n 0, 1) := by decide +kernel
theorem d_M_prepare_133 : decode c_M_prepare 133 = .ok (.getfield 46, 3) := by decide +kernel
theorem d_M_prepare_136 : decode c_M_prepare 136 = .ok (.iconst 5, 1) := by decide +kernel
theorem d_M_prepare_137 : decode c_M_prepare 137 = .ok (.lload_n 3, 1) := by decide +kernel
theorem d_M_prepare_138 : decode c_M_prepare 138 = .ok (.lconst 0, 1) := by decide +kernel
theorem d_M_prepare_139 : decode c_M_prepare 139 = .ok (.lcmp, 1) := by decide +kernel
theorem d_M_prepare_140 : decode c_M_prepare 140 = .ok (.ifCond .ge 8, 3) := by decide +kernel
theorem d_M_prepare_143 : decode c_M_prepare 143 = .ok (.lload 5, 2) := by decide +kernel
theorem d_M_prepare_145 : decode c_M_prepare 145 = .ok (.goto 7, 3) := by decide +kernel
theorem d_M_prepare_148 : decode c_M_prepare 148 = .ok (.lload 5, 2) := by decide +kernel
theorem d_M_prepare_150 : decode c_M_prepare 150 = .ok (.lload_n 3, 1) := by decide +kernel
theorem d_M_prepare_151 : decode c_M_prepare 151 = .ok (.ladd, 1) := by decide +kernel
theorem d_M_prepare_152 : decode c_M_prepare 152 = .ok (.lastore, 1) := by decide +kernel
theorem d_M_prepare_153 : decode c_M_prepare 153 = .ok (.iconst 0, 1) := by decide +kernel
theorem d_M_prepare_154 : decode c_M_prepare 154 = .ok (.istore 7, 2) := by decide +kernel
theorem d_M_prepare_156 : decode c_M_prepare 156 = .ok (.iload 7, 2) := by decide +kernel
theorem d_M_prepare_158 : decode c_M_prepare 158 = .ok (.bipush 7, 2) := by decide +kernel
theorem d_M_prepare_160 : decode c_M_prepare 160 = .ok (.if_icmp .ge 125, 3) := by decide +kernel
theorem d_M_prepare_163 : decode c_M_prepare 163 = .ok (.iconst 0, 1) := by decide +kernel
theorem d_M_prepare_164 : decode c_M_prepare 164 = .ok (.istore 8, 2) := by decide +kernel
theorem d_M_prepare_166 : decode c_M_prepare 166 = .ok (.iload 8, 2) := by decide +kernel
theorem d_M_prepare_168 : decode c_M_prepare 168 = .ok (.bipush 6, 2) := by decide +kernel
theorem d_M_prepare_170 : decode c_M_prepare 170 = .ok (.if_icmp .ge 109, 3) := by decide +kernel
theorem d_M_prepare_173 : decode c_M_prepare 173 = .ok (.aload_n 0, 1) := by decide +kernel
theorem d_M_prepare_174 : decode c_M_prepare 174 = .ok (.getfield 49, 3) := by decide +kernel
theorem d_M_prepare_177 : decode c_M_prepare 177 = .ok (.bipush 6, 2) := by decide +kernel
theorem d_M_prepare_179 : decode c_M_prepare 179 = .ok (.iload 7, 2) := by decide +kernel
theorem d_M_prepare_181 : decode c_M_prepare 181 = .ok (.imul, 1) := by decide +kernel
theorem d_M_prepare_182 : decode c_M_prepare 182 = .ok (.iload 8, 2) := by decide +kernel
theorem d_M_prepare_184 : decode c_M_prepare 184 = .ok (.iadd, 1) := by decide +kernel
theorem d_M_prepare_185 : decode c_M_prepare 185 = .ok (.lconst 0, 1) := by decide +kernel
theorem d_M_prepare_186 : decode c_M_prepare 186 = .ok (.lastore, 1) := by decide +kernel
theorem d_M_prepare_187 : decode c_M_prepare 187 = .ok (.iload 7, 2) := by decide +kernel
theorem d_M_prepare_189 : decode c_M_prepare 189 = .ok (.iconst 3, 1) := by decide +kernel
theorem d_M_prepare_190 : decode c_M_prepare 190 = .ok (.if_icmp .le 16, 3) := by decide +kernel
theorem d_M_prepare_193 : decode c_M_prepare 193 = .ok (.iload 7, 2) := by decide +kernel
theorem d_M_prepare_195 : decode c_M_prepare 195 = .ok (.bipush 6, 2) := by decide +kernel
theorem d_M_prepare_197 : decode c_M_prepare 197 = .ok (.if_icmp .ge 9, 3) := by decide +kernel
theorem d_M_prepare_200 : decode c_M_prepare 200 = .ok (.iload 8, 2) := by decide +kernel
theorem d_M_prepare_202 : decode c_M_prepare 202 = .ok (.iconst 5, 1) := by decide +kernel
theorem d_M_prepare_203 : decode c_M_prepare 203 = .ok (.if_icmp .eq 16, 3) := by decide +kernel
theorem d_M_prepare_206 : decode c_M_prepare 206 = .ok (.iload 7, 2) := by decide +kernel
theorem d_M_prepare_208 : decode c_M_prepare 208 = .ok (.bipush 6, 2) := by decide +kernel
theorem d_M_prepare_210 : decode c_M_prepare 210 = .ok (.if_icmp .ne 13, 3) := by decide +kernel
theorem d_M_prepare_213 : decode c_M_prepare 213 = .ok (.iload 8, 2) := by decide +kernel
theorem d_M_prepare_215 : decode c_M_prepare 215 = .ok (.iconst 3, 1) := by decide +kernel
theorem d_M_prepare_216 : decode c_M_prepare 216 = .ok (.if_icmp .le 7, 3) := by decide +kernel
theorem d_M_prepare_219 : decode c_M_prepare 219 = .ok (.iconst 1, 1) := by decide +kernel
theorem d_M_prepare_220 : decode c_M_prepare 220 = .ok (.goto 4, 3) := by decide +kernel
theorem d_M_prepare_223 : decode c_M_prepare 223 = .ok (.iconst 0, 1) := by decide +kernel
theorem d_M_prepare_224 : decode c_M_prepare 224 = .ok (.istore 9, 2) := by decide +kernel
theorem d_M_prepare_226 : decode c_M_prepare 226 = .ok (.aload_n 0, 1) := by decide +kernel
theorem d_M_prepare_227 : decode c_M_prepare 227 = .ok (.getfield 52, 3) := by decide +kernel
theorem d_M_prepare_230 : decode c_M_prepare 230 = .ok (.bipush 6, 2) := by decide +kernel
theorem d_M_prepare_232 : decode c_M_prepare 232 = .ok (.iload 7, 2) := by decide +kernel
theorem d_M_prepare_234 : decode c_M_prepare 234 = .ok (.imul, 1) := by decide +kernel
theorem d_M_prepare_235 : decode c_M_prepare 235 = .ok (.iload 8, 2) := by decide +kernel
theorem d_M_prepare_237 : decode c_M_prepare 237 = .ok (.iadd, 1) := by decide +kernel
theorem d_M_prepare_238 : decode c_M_prepare 238 = .ok (.iload 7, 2) := by decide +kernel
theorem d_M_prepare_240 : decode c_M_prepare 240 = .ok (.bipush 6, 2) := by decide +kernel
theorem d_M_prepare_242 : decode c_M_prepare 242 = .ok (.if_icmp .ge 20, 3) := by decide +kernel
theorem d_M_prepare_245 : decode c_M_prepare 245 = .ok (.iload 8, 2) := by decide +kernel
theorem d_M_prepare_247 : decode c_M_prepare 247 = .ok (.iconst 5, 1) := by decide +kernel
theorem d_M_prepare_248 : decode c_M_prepare 248 = .ok (.if_icmp .ge 14, 3) := by decide +kernel
theorem d_M_prepare_251 : decode c_M_prepare 251 = .ok (.aload_n 0, 1) := by decide +kernel
theorem d_M_prepare_252 : decode c_M_prepare 252 = .ok (.iload 7, 2) := by decide +kernel
theorem d_M_prepare_254 : decode c_M_prepare 254 = .ok (.iload 8, 2) := by decide +kernel
theorem d_M_prepare_256 : decode c_M_prepare 256 = .ok (.invokevirtual 133, 3) := by decide +kernel
theorem d_M_prepare_259 : decode c_M_prepare 259 = .ok (.goto 13, 3) := by decide +kernel
theorem d_M_prepare_262 : decode c_M_prepare 262 = .ok (.iload 9, 2) := by decide +kernel
theorem d_M_prepare_264 : decode c_M_prepare 264 = .ok (.ifCond .eq 7, 3) := by decide +kernel
theorem d_M_prepare_267 : decode c_M_prepare 267 = .ok (.iconst 0, 1) := by decide +kernel
theorem d_M_prepare_268 : decode c_M_prepare 268 = .ok (.goto 4, 3) := by decide +kernel
theorem d_M_prepare_271 : decode c_M_prepare 271 = .ok (.iconst (-1), 1) := by decide +kernel
theorem d_M_prepare_272 : decode c_M_prepare 272 = .ok (.iastore, 1) := by decide +kernel
theorem d_M_prepare_273 : decode c_M_prepare 273 = .ok (.iinc 8 1, 3) := by decide +kernel
theorem d_M_prepare_276 : decode c_M_prepare 276 = .ok (.goto (-110), 3) := by decide +kernel
theorem d_M_prepare_279 : decode c_M_prepare 279 = .ok (.iinc 7 1, 3) := by decide +kernel
theorem d_M_prepare_282 : decode c_M_prepare 282 = .ok (.goto (-126), 3) := by decide +kernel
theorem d_M_prepare_285 : decode c_M_prepare 285 = .ok (.return_, 1) := by decide +kernel
set_option maxHeartbeats 1000000 in
set_option maxRecDepth 100000 in
theorem m_M_prepare (l : Launch) (D : va_G) (cI cL cZ : ClassId) (md : Nat → Nat) (co : Int) (n : Nat) (sh ra up lw kn fo : Int) (sc ln cb th pl lo pr la : Nat → Int) (cu cl fu fl : Nat → Nat) (ys yl yp : Nat → Int) (so si : Int) (hso : -1 ≤ so ∧ so ≤ 3) (hsi : -1 ≤ si ∧ si ≤ 3) (su0 de0 fw0 cs0 : Nat → Int) (hM : eh_MS n sh ra sc ln cb th pl lo pr la cu cl fu fl ys yl yp) : eh_M (S := Int × Int × (Nat → Int) × (Nat → Int) × (Nat → Int) × (Nat → Int)) l y_M_prepare k_M_prepare 5 135 D classes [(cI, .int), (cL, .long), (cZ, .boolean)] [.ref (md 0), .int (eI so), .int (eI si)] [((md 0), .inr (5, [.int (eI co), .int (eI ((n : Nat) : Int)), .ref (md 1), .ref (md 2), .ref (md 3), .int (eI sh), .int (eI ra), .ref (md 4), .ref (md 5), .ref (md 6), .ref (md 7), .ref (md 8), .long (eL up), .long (eL lw), .ref (md 9), .ref (md 10), .ref (md 11), .ref (md 12), .ref (md 13), .ref (md 14), .ref (md 15), .int (eI kn), .int (eI fo)])), ((md 1), aI cI 25 sc), ((md 2), aI cI 4 ln), ((md 3), aI cZ 4 cb), ((md 4), aI cZ 3 th), ((md 5), aI cI 3 pl), ((md 6), aI cI 3 lo), ((md 7), aI cI 3 pr), ((md 8), aI cI 30 la), ((md 9), aL cL 7 su0), ((md 10), aL cL 6 de0), ((md 11), aL cL 42 fw0), ((md 12), aI cI 42 cs0)] (fun u => eh_pr (eh_pA n sh ln cu cl yl so) (eh_pB n ln fu fl yl si) u.2.2.1 u.2.2.2.1 ∧ (∀ k, k < 42 → u.2.2.2.2.1 k = 0) ∧ (∀ y z, y < 7 → z < 6 → u.2.2.2.2.2 (6 * y + z) = eh_rc (eh_kc n ra ln cb ys yp) y z)) (fun _ => none) (fun u => [((md 0), .inr (5, [.int (eI co), .int (eI ((n : Nat) : Int)), .ref (md 1), .ref (md 2), .ref (md 3), .int (eI sh), .int (eI ra), .ref (md 4), .ref (md 5), .ref (md 6), .ref (md 7), .ref (md 8), .long (eL u.1), .long (eL u.2.1), .ref (md 9), .ref (md 10), .ref (md 11), .ref (md 12), .ref (md 13), .ref (md 14), .ref (md 15), .int (eI kn), .int (eI fo)])), ((md 1), aI cI 25 sc), ((md 2), aI cI 4 ln), ((md 3), aI cZ 4 cb), ((md 4), aI cZ 3 th), ((md 5), aI cI 3 pl), ((md 6), aI cI 3 lo), ((md 7), aI cI 3 pr), ((md 8), aI cI 30 la), ((md 9), aL cL 7 u.2.2.1), ((md 10), aL cL 6 u.2.2.2.1), ((md 11), aL cL 42 u.2.2.2.2.1), ((md 12), aI cI 42 u.2.2.2.2.2)]) := by
  intro sz
  refine Met.ofW (cc := c_M_prepare) (maxL := 10) (ret := none) (by decide) rfl ?_
  intro p e s m args below meth c s₁ B hml hv
  obtain ⟨hargs, hsz, hP, hK, hD0, hN⟩ := hv
  have hx := B.exec
  have hb := B.bytes
  have hrt := B.returns
  have hts := atoms_spec (ws := k_M_prepare :: ew_t) B.pre
  have htb : ∀ w ∈ ew_t, w.before args s = true := fun w h => hts w (List.mem_cons_of_mem _ h)
  have hown : s.vm.findClass "EarthHaulsModel" = some m.cls := findClass_of_methodNamed B.named
  have hlocks := B.notSynchronized
  have hE : entryFrame m args 10 = entryFrame m ([.ref (md 0), .int (eI so), .int (eI si)] : List Value).toArray 10 := by rw [hargs]
  rw [hE]
  clear hE hts B hargs
  generalize hRe : (headSpec _ _).room = R
  have hR1 : R.frames = 5 := by rw [← hRe]; rfl
  have hR2 : R.locals = 135 := by rw [← hRe]; rfl
  clear hRe
  generalize hQ : MQ below _ _ s 0 0 _ = Q
  subst hsz
  have hD := hD0.self (sz := s.heap.size)
  generalize hAe : va_A [((md 0), .inr (5, [.int (eI co), .int (eI ((n : Nat) : Int)), .ref (md 1), .ref (md 2), .ref (md 3), .int (eI sh), .int (eI ra), .ref (md 4), .ref (md 5), .ref (md 6), .ref (md 7), .ref (md 8), .long (eL up), .long (eL lw), .ref (md 9), .ref (md 10), .ref (md 11), .ref (md 12), .ref (md 13), .ref (md 14), .ref (md 15), .int (eI kn), .int (eI fo)])), ((md 1), aI cI 25 sc), ((md 2), aI cI 4 ln), ((md 3), aI cZ 4 cb), ((md 4), aI cZ 3 th), ((md 5), aI cI 3 pl), ((md 6), aI cI 3 lo), ((md 7), aI cI 3 pr), ((md 8), aI cI 30 la), ((md 9), aL cL 7 su0), ((md 10), aL cL 6 de0), ((md 11), aL cL 42 fw0), ((md 12), aI cI 42 cs0)] s.heap.size = A at hD hQ
  have hA : ∀ q : Nat, s.heap.size ≤ q → A q := fun q h => by rw [← hAe]; exact Or.inr h
  have hS : va_S A s.heap s.heap [] := va_S.rf
  have hP : va_P D classes [((md 0), .inr (5, [.int (eI co), .int (eI ((n : Nat) : Int)), .ref (md 1), .ref (md 2), .ref (md 3), .int (eI sh), .int (eI ra), .ref (md 4), .ref (md 5), .ref (md 6), .ref (md 7), .ref (md 8), .long (eL up), .long (eL lw), .ref (md 9), .ref (md 10), .ref (md 11), .ref (md 12), .ref (md 13), .ref (md 14), .ref (md 15), .int (eI kn), .int (eI fo)])), ((md 1), aI cI 25 sc), ((md 2), aI cI 4 ln), ((md 3), aI cZ 4 cb), ((md 4), aI cZ 3 th), ((md 5), aI cI 3 pl), ((md 6), aI cI 3 lo), ((md 7), aI cI 3 pr), ((md 8), aI cI 30 la), ((md 9), aL cL 7 su0), ((md 10), aL cL 6 de0), ((md 11), aL cL 42 fw0), ((md 12), aI cI 42 cs0)] s.heap := hP
  have hl := lv_entry ([.ref (md 0), .int (eI so), .int (eI si)]) (n := 10) (Nat.le_of_ble_eq_true rfl)
  rw [lg_entry_eq]
  generalize (lg_sl ([.ref (md 0), .int (eI so), .int (eI si)]) ++ List.replicate (10 - (lg_sl ([.ref (md 0), .int (eI so), .int (eI si)])).length) Slot.unset).toArray = ls at hl ⊢
  have hl : lv_has ls 10 [(0, .ref (md 0)), (1, .int (eI so)), (2, .int (eI si))] := hl
  have hE := hM.1
  have outer : ∀ (up9 lw9 : Int) (su de : Nat → Int), eh_pr (eh_pA n sh ln cu cl yl so) (eh_pB n ln fu fl yl si) su de → ∀ (q i : Nat) (fw cs : Nat → Int) (H : Heap) (locs : List Loc) (ls : Array Slot), 7 - i = q → i ≤ 7 → (∀ k, k < 6 * i → fw k = 0) → (∀ y z, y < i → z < 6 → cs (6 * y + z) = eh_rc (eh_kc n ra ln cb ys yp) y z) → lv_has ls 10 [(7, .int (eI ((i : Nat) : Int))), (0, .ref (md 0))] → va_P D classes [((md 0), .inr (5, [.int (eI co), .int (eI ((n : Nat) : Int)), .ref (md 1), .ref (md 2), .ref (md 3), .int (eI sh), .int (eI ra), .ref (md 4), .ref (md 5), .ref (md 6), .ref (md 7), .ref (md 8), .long (eL up9), .long (eL lw9), .ref (md 9), .ref (md 10), .ref (md 11), .ref (md 12), .ref (md 13), .ref (md 14), .ref (md 15), .int (eI kn), .int (eI fo)])), ((md 1), aI cI 25 sc), ((md 2), aI cI 4 ln), ((md 3), aI cZ 4 cb), ((md 4), aI cZ 3 th), ((md 5), aI cI 3 pl), ((md 6), aI cI 3 lo), ((md 7), aI cI 3 pr), ((md 8), aI cI 30 la), ((md 9), aL cL 7 su), ((md 10), aL cL 6 de), ((md 11), aL cL 42 fw), ((md 12), aI cI 42 cs)] H → va_D A [((md 0), .inr (5, [.int (eI co), .int (eI ((n : Nat) : Int)), .ref (md 1), .ref (md 2), .ref (md 3), .int (eI sh), .int (eI ra), .ref (md 4), .ref (md 5), .ref (md 6), .ref (md 7), .ref (md 8), .long (eL up9), .long (eL lw9), .ref (md 9), .ref (md 10), .ref (md 11), .ref (md 12), .ref (md 13), .ref (md 14), .ref (md 15), .int (eI kn), .int (eI fo)])), ((md 1), aI cI 25 sc), ((md 2), aI cI 4 ln), ((md 3), aI cZ 4 cb), ((md 4), aI cZ 3 th), ((md 5), aI cI 3 pl), ((md 6), aI cI 3 lo), ((md 7), aI cI 3 pr), ((md 8), aI cI 30 la), ((md 9), aL cL 7 su), ((md 10), aL cL 6 de), ((md 11), aL cL 42 fw), ((md 12), aI cI 42 cs)] → va_S A s.heap H locs → W p l e R s m args below meth c H locs 0 0 Q (F0 m 156 ls []) := by
    intro up9 lw9 su de hpr q
    induction q with
    | zero =>
      intro i fw cs H locs ls hq hi hf hcs hl hP hD hS
      have hi7 : i = 7 := by omega
      subst hi7
      refine lv_iload hx hb d_M_prepare_156 (lv_at hl 0 rfl) ?_
      refine lv_bipush (v := eI 7) hx hb d_M_prepare_158 (by decide) ?_
      refine we_icmp_ge (tgt := 285) hx hb (by constructor <;> omega) (by constructor <;> omega) d_M_prepare_160 rfl (fun hc160 => ?_) (fun hc160 => absurd hc160 (by omega))
      subst hQ
      exact W.vret hx hb hrt (fun t9 ht hW => ⟨⟨(up9, lw9, su, de, fw, cs), rfl, ⟨hpr, hf, fun y z hy hz => hcs y z hy hz⟩, by rw [ht]; exact hP, hD⟩, hS.F ht⟩) hS.2.2 d_M_prepare_285
    | succ q ih =>
      intro i fw cs H locs ls hq hi hf hcs hl hP hD hS
      refine lv_iload hx hb d_M_prepare_156 (lv_at hl 0 rfl) ?_
      refine lv_bipush (v := eI 7) hx hb d_M_prepare_158 (by decide) ?_
      refine we_icmp_ge (tgt := 285) hx hb (by constructor <;> omega) (by constructor <;> omega) d_M_prepare_160 rfl (fun hc160 => absurd hc160 (by omega)) (fun hc160 => ?_)
      refine lv_iconst (v := eI 0) hx hb d_M_prepare_163 rfl ?_
      refine lv_istore hx hb d_M_prepare_164 hl (by decide) rfl (fun ls hl => ?_)
      have hl : lv_has ls 10 [(8, .int (eI 0)), (7, .int (eI ((i : Nat) : Int))), (0, .ref (md 0))] := hl
      have inner : ∀ (q2 j : Nat) (fw cs : Nat → Int) (H : Heap) (locs : List Loc) (ls : Array Slot), 6 - j = q2 → j ≤ 6 → (∀ k, k < 6 * i + j → fw k = 0) → (∀ y z, y < i → z < 6 → cs (6 * y + z) = eh_rc (eh_kc n ra ln cb ys yp) y z) → (∀ z, z < j → cs (6 * i + z) = eh_rc (eh_kc n ra ln cb ys yp) i z) → lv_has ls 10 [(8, .int (eI ((j : Nat) : Int))), (7, .int (eI ((i : Nat) : Int))), (0, .ref (md 0))] → va_P D classes [((md 0), .inr (5, [.int (eI co), .int (eI ((n : Nat) : Int)), .ref (md 1), .ref (md 2), .ref (md 3), .int (eI sh), .int (eI ra), .ref (md 4), .ref (md 5), .ref (md 6), .ref (md 7), .ref (md 8), .long (eL up9), .long (eL lw9), .ref (md 9), .ref (md 10), .ref (md 11), .ref (md 12), .ref (md 13), .ref (md 14), .ref (md 15), .int (eI kn), .int (eI fo)])), ((md 1), aI cI 25 sc), ((md 2), aI cI 4 ln), ((md 3), aI cZ 4 cb), ((md 4), aI cZ 3 th), ((md 5), aI cI 3 pl), ((md 6), aI cI 3 lo), ((md 7), aI cI 3 pr), ((md 8), aI cI 30 la), ((md 9), aL cL 7 su), ((md 10), aL cL 6 de), ((md 11), aL cL 42 fw), ((md 12), aI cI 42 cs)] H → va_D A [((md 0), .inr (5, [.int (eI co), .int (eI ((n : Nat) : Int)), .ref (md 1), .ref (md 2), .ref (md 3), .int (eI sh), .int (eI ra), .ref (md 4), .ref (md 5), .ref (md 6), .ref (md 7), .ref (md 8), .long (eL up9), .long (eL lw9), .ref (md 9), .ref (md 10), .ref (md 11), .ref (md 12), .ref (md 13), .ref (md 14), .ref (md 15), .int (eI kn), .int (eI fo)])), ((md 1), aI cI 25 sc), ((md 2), aI cI 4 ln), ((md 3), aI cZ 4 cb), ((md 4), aI cZ 3 th), ((md 5), aI cI 3 pl), ((md 6), aI cI 3 lo), ((md 7), aI cI 3 pr), ((md 8), aI cI 30 la), ((md 9), aL cL 7 su), ((md 10), aL cL 6 de), ((md 11), aL cL 42 fw), ((md 12), aI cI 42 cs)] → va_S A s.heap H locs → W p l e R s m args below meth c H locs 0 0 Q (F0 m 166 ls []) := by
        intro q2
        induction q2 with
        | zero =>
          intro j fw cs H locs ls hq2 hj hf hcs hcj hl hP hD hS
          have hj6 : j = 6 := by omega
          subst hj6
          refine lv_iload hx hb d_M_prepare_166 (lv_at hl 0 rfl) ?_
          refine lv_bipush (v := eI 6) hx hb d_M_prepare_168 (by decide) ?_
          refine we_icmp_ge (tgt := 279) hx hb (by constructor <;> omega) (by constructor <;> omega) d_M_prepare_170 rfl (fun hc170 => ?_) (fun hc170 => absurd hc170 (by omega))
          refine lv_iinc (v := eI (((i : Nat) : Int) + 1)) hx hb d_M_prepare_279 hl (k := 1) rfl (eI_add _ _) (by decide) rfl (fun ls hl => ?_)
          have hl : lv_has ls 10 [(7, .int (eI (((i : Nat) : Int) + 1))), (8, .int (eI ((6 : Nat) : Int))), (0, .ref (md 0))] := hl
          refine lv_goto (tgt := 156) hx hb d_M_prepare_282 rfl ?_
          exact ih (i + 1) fw cs H locs ls (by omega) (by omega) (fun k hk => hf k (by omega)) (fun y z hy hz => by
            by_cases w : y = i
            · subst w; exact hcj z hz
            · exact hcs y z (by omega) hz) (lv_sub hl [0, 2] rfl) hP hD hS
        | succ q2 ih2 =>
          intro j fw cs H locs ls hq2 hj hf hcs hcj hl hP hD hS
          have hij : 6 * i + j < 42 := by omega
          rcases (show i ≤ 3 ∧ j < 5 ∨ i ≤ 3 ∧ j = 5 ∨ (3 < i ∧ i < 6 ∧ j = 5) ∨ (3 < i ∧ i < 6 ∧ j < 5) ∨ (i = 6 ∧ 3 < j) ∨ (i = 6 ∧ j ≤ 3) by omega) with hcas | hcas | hcas | hcas | hcas | hcas
          ·
            refine lv_iload hx hb d_M_prepare_166 (lv_at hl 0 rfl) ?_
            refine lv_bipush (v := eI 6) hx hb d_M_prepare_168 (by decide) ?_
            refine we_icmp_ge (tgt := 279) hx hb (by constructor <;> omega) (by constructor <;> omega) d_M_prepare_170 rfl (fun hc170 => absurd hc170 (by omega)) (fun hc170 => ?_)
            refine lv_aload_n hx hb d_M_prepare_173 rfl (lv_at hl 2 rfl) ?_
            refine va_get (D := D) (ci := 5) (v := .ref (md 11)) (C := R_M) (T := T_M) (N := 23) hx hb htb in_M hown hK hP 0 rfl rfl 16 (by decide) (htb _ tb_604) (fun _ h9 => h9) rfl d_M_prepare_174 ?_
            refine lv_bipush (v := eI 6) hx hb d_M_prepare_177 (by decide) ?_
            refine lv_iload hx hb d_M_prepare_179 (lv_at hl 1 rfl) ?_
            refine we_imul hx hb d_M_prepare_181 ?_
            refine lv_iload hx hb d_M_prepare_182 (lv_at hl 0 rfl) ?_
            refine we_iadd hx hb d_M_prepare_184 ?_
            refine lv_lconst (v := eL 0) hx hb d_M_prepare_185 (by decide) ?_
            refine we_last hx hb hK hP hD hS 11 1 rfl rfl (6 * i + j) (by omega) (by omega) (by decide) d_M_prepare_186 (fun H locs hP hD hS => ?_)
            have hP : va_P D classes [((md 0), .inr (5, [.int (eI co), .int (eI ((n : Nat) : Int)), .ref (md 1), .ref (md 2), .ref (md 3), .int (eI sh), .int (eI ra), .ref (md 4), .ref (md 5), .ref (md 6), .ref (md 7), .ref (md 8), .long (eL up9), .long (eL lw9), .ref (md 9), .ref (md 10), .ref (md 11), .ref (md 12), .ref (md 13), .ref (md 14), .ref (md 15), .int (eI kn), .int (eI fo)])), ((md 1), aI cI 25 sc), ((md 2), aI cI 4 ln), ((md 3), aI cZ 4 cb), ((md 4), aI cZ 3 th), ((md 5), aI cI 3 pl), ((md 6), aI cI 3 lo), ((md 7), aI cI 3 pr), ((md 8), aI cI 30 la), ((md 9), aL cL 7 su), ((md 10), aL cL 6 de), ((md 11), aL cL 42 (eh_upd fw (6 * i + j) 0)), ((md 12), aI cI 42 cs)] H := hP
            have hD : va_D A [((md 0), .inr (5, [.int (eI co), .int (eI ((n : Nat) : Int)), .ref (md 1), .ref (md 2), .ref (md 3), .int (eI sh), .int (eI ra), .ref (md 4), .ref (md 5), .ref (md 6), .ref (md 7), .ref (md 8), .long (eL up9), .long (eL lw9), .ref (md 9), .ref (md 10), .ref (md 11), .ref (md 12), .ref (md 13), .ref (md 14), .ref (md 15), .int (eI kn), .int (eI fo)])), ((md 1), aI cI 25 sc), ((md 2), aI cI 4 ln), ((md 3), aI cZ 4 cb), ((md 4), aI cZ 3 th), ((md 5), aI cI 3 pl), ((md 6), aI cI 3 lo), ((md 7), aI cI 3 pr), ((md 8), aI cI 30 la), ((md 9), aL cL 7 su), ((md 10), aL cL 6 de), ((md 11), aL cL 42 (eh_upd fw (6 * i + j) 0)), ((md 12), aI cI 42 cs)] := hD
            refine lv_iload hx hb d_M_prepare_187 (lv_at hl 1 rfl) ?_
            refine lv_iconst (v := eI 3) hx hb d_M_prepare_189 rfl ?_
            refine we_icmp_le (tgt := 206) hx hb (by constructor <;> omega) (by constructor <;> omega) d_M_prepare_190 rfl (fun hc190 => ?_) (fun hc190 => absurd hc190 (by omega))
            refine lv_iload hx hb d_M_prepare_206 (lv_at hl 1 rfl) ?_
            refine lv_bipush (v := eI 6) hx hb d_M_prepare_208 (by decide) ?_
            refine we_icmp_ne (tgt := 223) hx hb (by constructor <;> omega) (by constructor <;> omega) d_M_prepare_210 rfl (fun hc210 => ?_) (fun hc210 => absurd hc210 (by omega))
            refine lv_iconst (v := eI 0) hx hb d_M_prepare_223 rfl ?_
            refine lv_istore hx hb d_M_prepare_224 hl (by decide) rfl (fun ls hl => ?_)
            have hl : lv_has ls 10 [(9, .int (eI 0)), (8, .int (eI ((j : Nat) : Int))), (7, .int (eI ((i : Nat) : Int))), (0, .ref (md 0))] := hl
            refine lv_aload_n hx hb d_M_prepare_226 rfl (lv_at hl 3 rfl) ?_
            refine va_get (D := D) (ci := 5) (v := .ref (md 12)) (C := R_M) (T := T_M) (N := 23) hx hb htb in_M hown hK hP 0 rfl rfl 17 (by decide) (htb _ tb_605) (fun _ h9 => h9) rfl d_M_prepare_227 ?_
            refine lv_bipush (v := eI 6) hx hb d_M_prepare_230 (by decide) ?_
            refine lv_iload hx hb d_M_prepare_232 (lv_at hl 2 rfl) ?_
            refine we_imul hx hb d_M_prepare_234 ?_
            refine lv_iload hx hb d_M_prepare_235 (lv_at hl 1 rfl) ?_
            refine we_iadd hx hb d_M_prepare_237 ?_
            refine lv_iload hx hb d_M_prepare_238 (lv_at hl 2 rfl) ?_
            refine lv_bipush (v := eI 6) hx hb d_M_prepare_240 (by decide) ?_
            refine we_icmp_ge (tgt := 262) hx hb (by constructor <;> omega) (by constructor <;> omega) d_M_prepare_242 rfl (fun hc242 => absurd hc242 (by omega)) (fun hc242 => ?_)
            refine lv_iload hx hb d_M_prepare_245 (lv_at hl 1 rfl) ?_
            refine lv_iconst (v := eI 5) hx hb d_M_prepare_247 rfl ?_
            refine we_icmp_ge (tgt := 262) hx hb (by constructor <;> omega) (by constructor <;> omega) d_M_prepare_248 rfl (fun hc248 => absurd hc248 (by omega)) (fun hc248 => ?_)
            refine lv_aload_n hx hb d_M_prepare_251 rfl (lv_at hl 3 rfl) ?_
            refine lv_iload hx hb d_M_prepare_252 (lv_at hl 2 rfl) ?_
            refine lv_iload hx hb d_M_prepare_254 (lv_at hl 1 rfl) ?_
            refine eh_cRV (As := [.int (eI ((i : Nat) : Int)), .int (eI ((j : Nat) : Int))]) (rest := [.int (eI ((6 * ((i : Nat) : Int)) + ((j : Nat) : Int))), .ref (md 12)]) (v := .int (eI (eh_ku n ra ln cb ys yp i j))) (q := (R_M, T_M, 23)) hx hb hml hown htb hN (r_M_costOf l D cI cL cZ md co n sh ra up9 lw9 kn fo sc ln cb th pl lo pr la cu cl fu fl ys yl yp i j (by omega) (by omega) hM) 2 ⟨tb_741, tb_743, ts_34, tb_7, kin_M_costOf⟩ dv_M_costOf ⟨by rw [hR1]; decide, by rw [hR2]; decide⟩ hK hP 0 rfl rfl [0, 1, 2, 3, 4, 5, 6, 7, 8] rfl [0, 1, 2] rfl rfl rfl hl.1 (Nat.le_of_ble_eq_true rfl) d_M_prepare_256 ⟨Nat.zero_le _, Nat.zero_le _⟩ ?_
            refine lv_goto (tgt := 272) hx hb d_M_prepare_259 rfl ?_
            refine we_iast hx hb hK hP hD hS 12 0 rfl rfl (6 * i + j) (by omega) (by omega) (by decide) d_M_prepare_272 (fun H locs hP hD hS => ?_)
            have hP : va_P D classes [((md 0), .inr (5, [.int (eI co), .int (eI ((n : Nat) : Int)), .ref (md 1), .ref (md 2), .ref (md 3), .int (eI sh), .int (eI ra), .ref (md 4), .ref (md 5), .ref (md 6), .ref (md 7), .ref (md 8), .long (eL up9), .long (eL lw9), .ref (md 9), .ref (md 10), .ref (md 11), .ref (md 12), .ref (md 13), .ref (md 14), .ref (md 15), .int (eI kn), .int (eI fo)])), ((md 1), aI cI 25 sc), ((md 2), aI cI 4 ln), ((md 3), aI cZ 4 cb), ((md 4), aI cZ 3 th), ((md 5), aI cI 3 pl), ((md 6), aI cI 3 lo), ((md 7), aI cI 3 pr), ((md 8), aI cI 30 la), ((md 9), aL cL 7 su), ((md 10), aL cL 6 de), ((md 11), aL cL 42 (eh_upd fw (6 * i + j) 0)), ((md 12), aI cI 42 (eh_upd cs (6 * i + j) (eh_ku n ra ln cb ys yp i j)))] H := hP
            have hD : va_D A [((md 0), .inr (5, [.int (eI co), .int (eI ((n : Nat) : Int)), .ref (md 1), .ref (md 2), .ref (md 3), .int (eI sh), .int (eI ra), .ref (md 4), .ref (md 5), .ref (md 6), .ref (md 7), .ref (md 8), .long (eL up9), .long (eL lw9), .ref (md 9), .ref (md 10), .ref (md 11), .ref (md 12), .ref (md 13), .ref (md 14), .ref (md 15), .int (eI kn), .int (eI fo)])), ((md 1), aI cI 25 sc), ((md 2), aI cI 4 ln), ((md 3), aI cZ 4 cb), ((md 4), aI cZ 3 th), ((md 5), aI cI 3 pl), ((md 6), aI cI 3 lo), ((md 7), aI cI 3 pr), ((md 8), aI cI 30 la), ((md 9), aL cL 7 su), ((md 10), aL cL 6 de), ((md 11), aL cL 42 (eh_upd fw (6 * i + j) 0)), ((md 12), aI cI 42 (eh_upd cs (6 * i + j) (eh_ku n ra ln cb ys yp i j)))] := hD
            refine lv_iinc (v := eI (((j : Nat) : Int) + 1)) hx hb d_M_prepare_273 hl (k := 1) rfl (eI_add _ _) (by decide) rfl (fun ls hl => ?_)
            have hl : lv_has ls 10 [(8, .int (eI (((j : Nat) : Int) + 1))), (9, .int (eI 0)), (7, .int (eI ((i : Nat) : Int))), (0, .ref (md 0))] := hl
            refine lv_goto (tgt := 166) hx hb d_M_prepare_276 rfl ?_
            exact ih2 (j + 1) (eh_upd fw (6 * i + j) 0) (eh_upd cs (6 * i + j) (eh_ku n ra ln cb ys yp i j)) H locs ls (by omega) (by omega) (fun k hk => by
              by_cases w : k = 6 * i + j
              · rw [w, eh_upd_s]
              · rw [eh_upd_n _ _ w]; exact hf k (by omega)) (fun y z hy hz => by
              rw [eh_upd_n _ _ (by omega)]; exact hcs y z hy hz) (fun z hz => by
              by_cases w : z = j
              · rw [w, eh_upd_s]; unfold eh_rc; rw [if_pos (by omega), eh_kc_at n ra ln cb ys yp (by omega)]
              · rw [eh_upd_n _ _ (by omega)]; exact hcj z (by omega)) (lv_sub hl [0, 2, 3] rfl) hP hD hS
          ·
            refine lv_iload hx hb d_M_prepare_166 (lv_at hl 0 rfl) ?_
            refine lv_bipush (v := eI 6) hx hb d_M_prepare_168 (by decide) ?_
            refine we_icmp_ge (tgt := 279) hx hb (by constructor <;> omega) (by constructor <;> omega) d_M_prepare_170 rfl (fun hc170 => absurd hc170 (by omega)) (fun hc170 => ?_)
            refine lv_aload_n hx hb d_M_prepare_173 rfl (lv_at hl 2 rfl) ?_
            refine va_get (D := D) (ci := 5) (v := .ref (md 11)) (C := R_M) (T := T_M) (N := 23) hx hb htb in_M hown hK hP 0 rfl rfl 16 (by decide) (htb _ tb_604) (fun _ h9 => h9) rfl d_M_prepare_174 ?_
            refine lv_bipush (v := eI 6) hx hb d_M_prepare_177 (by decide) ?_
            refine lv_iload hx hb d_M_prepare_179 (lv_at hl 1 rfl) ?_
            refine we_imul hx hb d_M_prepare_181 ?_
            refine lv_iload hx hb d_M_prepare_182 (lv_at hl 0 rfl) ?_
            refine we_iadd hx hb d_M_prepare_184 ?_
            refine lv_lconst (v := eL 0) hx hb d_M_prepare_185 (by decide) ?_
            refine we_last hx hb hK hP hD hS 11 1 rfl rfl (6 * i + j) (by omega) (by omega) (by decide) d_M_prepare_186 (fun H locs hP hD hS => ?_)
            have hP : va_P D classes [((md 0), .inr (5, [.int (eI co), .int (eI ((n : Nat) : Int)), .ref (md 1), .ref (md 2), .ref (md 3), .int (eI sh), .int (eI ra), .ref (md 4), .ref (md 5), .ref (md 6), .ref (md 7), .ref (md 8), .long (eL up9), .long (eL lw9), .ref (md 9), .ref (md 10), .ref (md 11), .ref (md 12), .ref (md 13), .ref (md 14), .ref (md 15), .int (eI kn), .int (eI fo)])), ((md 1), aI cI 25 sc), ((md 2), aI cI 4 ln), ((md 3), aI cZ 4 cb), ((md 4), aI cZ 3 th), ((md 5), aI cI 3 pl), ((md 6), aI cI 3 lo), ((md 7), aI cI 3 pr), ((md 8), aI cI 30 la), ((md 9), aL cL 7 su), ((md 10), aL cL 6 de), ((md 11), aL cL 42 (eh_upd fw (6 * i + j) 0)), ((md 12), aI cI 42 cs)] H := hP
            have hD : va_D A [((md 0), .inr (5, [.int (eI co), .int (eI ((n : Nat) : Int)), .ref (md 1), .ref (md 2), .ref (md 3), .int (eI sh), .int (eI ra), .ref (md 4), .ref (md 5), .ref (md 6), .ref (md 7), .ref (md 8), .long (eL up9), .long (eL lw9), .ref (md 9), .ref (md 10), .ref (md 11), .ref (md 12), .ref (md 13), .ref (md 14), .ref (md 15), .int (eI kn), .int (eI fo)])), ((md 1), aI cI 25 sc), ((md 2), aI cI 4 ln), ((md 3), aI cZ 4 cb), ((md 4), aI cZ 3 th), ((md 5), aI cI 3 pl), ((md 6), aI cI 3 lo), ((md 7), aI cI 3 pr), ((md 8), aI cI 30 la), ((md 9), aL cL 7 su), ((md 10), aL cL 6 de), ((md 11), aL cL 42 (eh_upd fw (6 * i + j) 0)), ((md 12), aI cI 42 cs)] := hD
            refine lv_iload hx hb d_M_prepare_187 (lv_at hl 1 rfl) ?_
            refine lv_iconst (v := eI 3) hx hb d_M_prepare_189 rfl ?_
            refine we_icmp_le (tgt := 206) hx hb (by constructor <;> omega) (by constructor <;> omega) d_M_prepare_190 rfl (fun hc190 => ?_) (fun hc190 => absurd hc190 (by omega))
            refine lv_iload hx hb d_M_prepare_206 (lv_at hl 1 rfl) ?_
            refine lv_bipush (v := eI 6) hx hb d_M_prepare_208 (by decide) ?_
            refine we_icmp_ne (tgt := 223) hx hb (by constructor <;> omega) (by constructor <;> omega) d_M_prepare_210 rfl (fun hc210 => ?_) (fun hc210 => absurd hc210 (by omega))
            refine lv_iconst (v := eI 0) hx hb d_M_prepare_223 rfl ?_
            refine lv_istore hx hb d_M_prepare_224 hl (by decide) rfl (fun ls hl => ?_)
            have hl : lv_has ls 10 [(9, .int (eI 0)), (8, .int (eI ((j : Nat) : Int))), (7, .int (eI ((i : Nat) : Int))), (0, .ref (md 0))] := hl
            refine lv_aload_n hx hb d_M_prepare_226 rfl (lv_at hl 3 rfl) ?_
            refine va_get (D := D) (ci := 5) (v := .ref (md 12)) (C := R_M) (T := T_M) (N := 23) hx hb htb in_M hown hK hP 0 rfl rfl 17 (by decide) (htb _ tb_605) (fun _ h9 => h9) rfl d_M_prepare_227 ?_
            refine lv_bipush (v := eI 6) hx hb d_M_prepare_230 (by decide) ?_
            refine lv_iload hx hb d_M_prepare_232 (lv_at hl 2 rfl) ?_
            refine we_imul hx hb d_M_prepare_234 ?_
            refine lv_iload hx hb d_M_prepare_235 (lv_at hl 1 rfl) ?_
            refine we_iadd hx hb d_M_prepare_237 ?_
            refine lv_iload hx hb d_M_prepare_238 (lv_at hl 2 rfl) ?_
            refine lv_bipush (v := eI 6) hx hb d_M_prepare_240 (by decide) ?_
            refine we_icmp_ge (tgt := 262) hx hb (by constructor <;> omega) (by constructor <;> omega) d_M_prepare_242 rfl (fun hc242 => absurd hc242 (by omega)) (fun hc242 => ?_)
            refine lv_iload hx hb d_M_prepare_245 (lv_at hl 1 rfl) ?_
            refine lv_iconst (v := eI 5) hx hb d_M_prepare_247 rfl ?_
            refine we_icmp_ge (tgt := 262) hx hb (by constructor <;> omega) (by constructor <;> omega) d_M_prepare_248 rfl (fun hc248 => ?_) (fun hc248 => absurd hc248 (by omega))
            refine lv_iload hx hb d_M_prepare_262 (lv_at hl 0 rfl) ?_
            refine we_if_eq (tgt := 271) hx hb (by constructor <;> omega) d_M_prepare_264 rfl (fun hc264 => ?_) (fun hc264 => absurd hc264 (by omega))
            refine lv_iconst (v := eI (-1)) hx hb d_M_prepare_271 rfl ?_
            refine we_iast hx hb hK hP hD hS 12 0 rfl rfl (6 * i + j) (by omega) (by omega) (by decide) d_M_prepare_272 (fun H locs hP hD hS => ?_)
            have hP : va_P D classes [((md 0), .inr (5, [.int (eI co), .int (eI ((n : Nat) : Int)), .ref (md 1), .ref (md 2), .ref (md 3), .int (eI sh), .int (eI ra), .ref (md 4), .ref (md 5), .ref (md 6), .ref (md 7), .ref (md 8), .long (eL up9), .long (eL lw9), .ref (md 9), .ref (md 10), .ref (md 11), .ref (md 12), .ref (md 13), .ref (md 14), .ref (md 15), .int (eI kn), .int (eI fo)])), ((md 1), aI cI 25 sc), ((md 2), aI cI 4 ln), ((md 3), aI cZ 4 cb), ((md 4), aI cZ 3 th), ((md 5), aI cI 3 pl), ((md 6), aI cI 3 lo), ((md 7), aI cI 3 pr), ((md 8), aI cI 30 la), ((md 9), aL cL 7 su), ((md 10), aL cL 6 de), ((md 11), aL cL 42 (eh_upd fw (6 * i + j) 0)), ((md 12), aI cI 42 (eh_upd cs (6 * i + j) (-1)))] H := hP
            have hD : va_D A [((md 0), .inr (5, [.int (eI co), .int (eI ((n : Nat) : Int)), .ref (md 1), .ref (md 2), .ref (md 3), .int (eI sh), .int (eI ra), .ref (md 4), .ref (md 5), .ref (md 6), .ref (md 7), .ref (md 8), .long (eL up9), .long (eL lw9), .ref (md 9), .ref (md 10), .ref (md 11), .ref (md 12), .ref (md 13), .ref (md 14), .ref (md 15), .int (eI kn), .int (eI fo)])), ((md 1), aI cI 25 sc), ((md 2), aI cI 4 ln), ((md 3), aI cZ 4 cb), ((md 4), aI cZ 3 th), ((md 5), aI cI 3 pl), ((md 6), aI cI 3 lo), ((md 7), aI cI 3 pr), ((md 8), aI cI 30 la), ((md 9), aL cL 7 su), ((md 10), aL cL 6 de), ((md 11), aL cL 42 (eh_upd fw (6 * i + j) 0)), ((md 12), aI cI 42 (eh_upd cs (6 * i + j) (-1)))] := hD
            refine lv_iinc (v := eI (((j : Nat) : Int) + 1)) hx hb d_M_prepare_273 hl (k := 1) rfl (eI_add _ _) (by decide) rfl (fun ls hl => ?_)
            have hl : lv_has ls 10 [(8, .int (eI (((j : Nat) : Int) + 1))), (9, .int (eI 0)), (7, .int (eI ((i : Nat) : Int))), (0, .ref (md 0))] := hl
            refine lv_goto (tgt := 166) hx hb d_M_prepare_276 rfl ?_
            exact ih2 (j + 1) (eh_upd fw (6 * i + j) 0) (eh_upd cs (6 * i + j) (-1)) H locs ls (by omega) (by omega) (fun k hk => by
              by_cases w : k = 6 * i + j
              · rw [w, eh_upd_s]
              · rw [eh_upd_n _ _ w]; exact hf k (by omega)) (fun y z hy hz => by
              rw [eh_upd_n _ _ (by omega)]; exact hcs y z hy hz) (fun z hz => by
              by_cases w : z = j
              · rw [w, eh_upd_s]; unfold eh_rc; rw [if_neg (by omega), if_neg (by omega)]
              · rw [eh_upd_n _ _ (by omega)]; exact hcj z (by omega)) (lv_sub hl [0, 2, 3] rfl) hP hD hS
          ·
            refine lv_iload hx hb d_M_prepare_166 (lv_at hl 0 rfl) ?_
            refine lv_bipush (v := eI 6) hx hb d_M_prepare_168 (by decide) ?_
            refine we_icmp_ge (tgt := 279) hx hb (by constructor <;> omega) (by constructor <;> omega) d_M_prepare_170 rfl (fun hc170 => absurd hc170 (by omega)) (fun hc170 => ?_)
            refine lv_aload_n hx hb d_M_prepare_173 rfl (lv_at hl 2 rfl) ?_
            refine va_get (D := D) (ci := 5) (v := .ref (md 11)) (C := R_M) (T := T_M) (N := 23) hx hb htb in_M hown hK hP 0 rfl rfl 16 (by decide) (htb _ tb_604) (fun _ h9 => h9) rfl d_M_prepare_174 ?_
            refine lv_bipush (v := eI 6) hx hb d_M_prepare_177 (by decide) ?_
            refine lv_iload hx hb d_M_prepare_179 (lv_at hl 1 rfl) ?_
            refine we_imul hx hb d_M_prepare_181 ?_
            refine lv_iload hx hb d_M_prepare_182 (lv_at hl 0 rfl) ?_
            refine we_iadd hx hb d_M_prepare_184 ?_
            refine lv_lconst (v := eL 0) hx hb d_M_prepare_185 (by decide) ?_
            refine we_last hx hb hK hP hD hS 11 1 rfl rfl (6 * i + j) (by omega) (by omega) (by decide) d_M_prepare_186 (fun H locs hP hD hS => ?_)
            have hP : va_P D classes [((md 0), .inr (5, [.int (eI co), .int (eI ((n : Nat) : Int)), .ref (md 1), .ref (md 2), .ref (md 3), .int (eI sh), .int (eI ra), .ref (md 4), .ref (md 5), .ref (md 6), .ref (md 7), .ref (md 8), .long (eL up9), .long (eL lw9), .ref (md 9), .ref (md 10), .ref (md 11), .ref (md 12), .ref (md 13), .ref (md 14), .ref (md 15), .int (eI kn), .int (eI fo)])), ((md 1), aI cI 25 sc), ((md 2), aI cI 4 ln), ((md 3), aI cZ 4 cb), ((md 4), aI cZ 3 th), ((md 5), aI cI 3 pl), ((md 6), aI cI 3 lo), ((md 7), aI cI 3 pr), ((md 8), aI cI 30 la), ((md 9), aL cL 7 su), ((md 10), aL cL 6 de), ((md 11), aL cL 42 (eh_upd fw (6 * i + j) 0)), ((md 12), aI cI 42 cs)] H := hP
            have hD : va_D A [((md 0), .inr (5, [.int (eI co), .int (eI ((n : Nat) : Int)), .ref (md 1), .ref (md 2), .ref (md 3), .int (eI sh), .int (eI ra), .ref (md 4), .ref (md 5), .ref (md 6), .ref (md 7), .ref (md 8), .long (eL up9), .long (eL lw9), .ref (md 9), .ref (md 10), .ref (md 11), .ref (md 12), .ref (md 13), .ref (md 14), .ref (md 15), .int (eI kn), .int (eI fo)])), ((md 1), aI cI 25 sc), ((md 2), aI cI 4 ln), ((md 3), aI cZ 4 cb), ((md 4), aI cZ 3 th), ((md 5), aI cI 3 pl), ((md 6), aI cI 3 lo), ((md 7), aI cI 3 pr), ((md 8), aI cI 30 la), ((md 9), aL cL 7 su), ((md 10), aL cL 6 de), ((md 11), aL cL 42 (eh_upd fw (6 * i + j) 0)), ((md 12), aI cI 42 cs)] := hD
            refine lv_iload hx hb d_M_prepare_187 (lv_at hl 1 rfl) ?_
            refine lv_iconst (v := eI 3) hx hb d_M_prepare_189 rfl ?_
            refine we_icmp_le (tgt := 206) hx hb (by constructor <;> omega) (by constructor <;> omega) d_M_prepare_190 rfl (fun hc190 => absurd hc190 (by omega)) (fun hc190 => ?_)
            refine lv_iload hx hb d_M_prepare_193 (lv_at hl 1 rfl) ?_
            refine lv_bipush (v := eI 6) hx hb d_M_prepare_195 (by decide) ?_
            refine we_icmp_ge (tgt := 206) hx hb (by constructor <;> omega) (by constructor <;> omega) d_M_prepare_197 rfl (fun hc197 => absurd hc197 (by omega)) (fun hc197 => ?_)
            refine lv_iload hx hb d_M_prepare_200 (lv_at hl 0 rfl) ?_
            refine lv_iconst (v := eI 5) hx hb d_M_prepare_202 rfl ?_
            refine we_icmp_eq (tgt := 219) hx hb (by constructor <;> omega) (by constructor <;> omega) d_M_prepare_203 rfl (fun hc203 => ?_) (fun hc203 => absurd hc203 (by omega))
            refine lv_iconst (v := eI 1) hx hb d_M_prepare_219 rfl ?_
            refine lv_goto (tgt := 224) hx hb d_M_prepare_220 rfl ?_
            refine lv_istore hx hb d_M_prepare_224 hl (by decide) rfl (fun ls hl => ?_)
            have hl : lv_has ls 10 [(9, .int (eI 1)), (8, .int (eI ((j : Nat) : Int))), (7, .int (eI ((i : Nat) : Int))), (0, .ref (md 0))] := hl
            refine lv_aload_n hx hb d_M_prepare_226 rfl (lv_at hl 3 rfl) ?_
            refine va_get (D := D) (ci := 5) (v := .ref (md 12)) (C := R_M) (T := T_M) (N := 23) hx hb htb in_M hown hK hP 0 rfl rfl 17 (by decide) (htb _ tb_605) (fun _ h9 => h9) rfl d_M_prepare_227 ?_
            refine lv_bipush (v := eI 6) hx hb d_M_prepare_230 (by decide) ?_
            refine lv_iload hx hb d_M_prepare_232 (lv_at hl 2 rfl) ?_
            refine we_imul hx hb d_M_prepare_234 ?_
            refine lv_iload hx hb d_M_prepare_235 (lv_at hl 1 rfl) ?_
            refine we_iadd hx hb d_M_prepare_237 ?_
            refine lv_iload hx hb d_M_prepare_238 (lv_at hl 2 rfl) ?_
            refine lv_bipush (v := eI 6) hx hb d_M_prepare_240 (by decide) ?_
            refine we_icmp_ge (tgt := 262) hx hb (by constructor <;> omega) (by constructor <;> omega) d_M_prepare_242 rfl (fun hc242 => absurd hc242 (by omega)) (fun hc242 => ?_)
            refine lv_iload hx hb d_M_prepare_245 (lv_at hl 1 rfl) ?_
            refine lv_iconst (v := eI 5) hx hb d_M_prepare_247 rfl ?_
            refine we_icmp_ge (tgt := 262) hx hb (by constructor <;> omega) (by constructor <;> omega) d_M_prepare_248 rfl (fun hc248 => ?_) (fun hc248 => absurd hc248 (by omega))
            refine lv_iload hx hb d_M_prepare_262 (lv_at hl 0 rfl) ?_
            refine we_if_eq (tgt := 271) hx hb (by constructor <;> omega) d_M_prepare_264 rfl (fun hc264 => absurd hc264 (by omega)) (fun hc264 => ?_)
            refine lv_iconst (v := eI 0) hx hb d_M_prepare_267 rfl ?_
            refine lv_goto (tgt := 272) hx hb d_M_prepare_268 rfl ?_
            refine we_iast hx hb hK hP hD hS 12 0 rfl rfl (6 * i + j) (by omega) (by omega) (by decide) d_M_prepare_272 (fun H locs hP hD hS => ?_)
            have hP : va_P D classes [((md 0), .inr (5, [.int (eI co), .int (eI ((n : Nat) : Int)), .ref (md 1), .ref (md 2), .ref (md 3), .int (eI sh), .int (eI ra), .ref (md 4), .ref (md 5), .ref (md 6), .ref (md 7), .ref (md 8), .long (eL up9), .long (eL lw9), .ref (md 9), .ref (md 10), .ref (md 11), .ref (md 12), .ref (md 13), .ref (md 14), .ref (md 15), .int (eI kn), .int (eI fo)])), ((md 1), aI cI 25 sc), ((md 2), aI cI 4 ln), ((md 3), aI cZ 4 cb), ((md 4), aI cZ 3 th), ((md 5), aI cI 3 pl), ((md 6), aI cI 3 lo), ((md 7), aI cI 3 pr), ((md 8), aI cI 30 la), ((md 9), aL cL 7 su), ((md 10), aL cL 6 de), ((md 11), aL cL 42 (eh_upd fw (6 * i + j) 0)), ((md 12), aI cI 42 (eh_upd cs (6 * i + j) 0))] H := hP
            have hD : va_D A [((md 0), .inr (5, [.int (eI co), .int (eI ((n : Nat) : Int)), .ref (md 1), .ref (md 2), .ref (md 3), .int (eI sh), .int (eI ra), .ref (md 4), .ref (md 5), .ref (md 6), .ref (md 7), .ref (md 8), .long (eL up9), .long (eL lw9), .ref (md 9), .ref (md 10), .ref (md 11), .ref (md 12), .ref (md 13), .ref (md 14), .ref (md 15), .int (eI kn), .int (eI fo)])), ((md 1), aI cI 25 sc), ((md 2), aI cI 4 ln), ((md 3), aI cZ 4 cb), ((md 4), aI cZ 3 th), ((md 5), aI cI 3 pl), ((md 6), aI cI 3 lo), ((md 7), aI cI 3 pr), ((md 8), aI cI 30 la), ((md 9), aL cL 7 su), ((md 10), aL cL 6 de), ((md 11), aL cL 42 (eh_upd fw (6 * i + j) 0)), ((md 12), aI cI 42 (eh_upd cs (6 * i + j) 0))] := hD
            refine lv_iinc (v := eI (((j : Nat) : Int) + 1)) hx hb d_M_prepare_273 hl (k := 1) rfl (eI_add _ _) (by decide) rfl (fun ls hl => ?_)
            have hl : lv_has ls 10 [(8, .int (eI (((j : Nat) : Int) + 1))), (9, .int (eI 1)), (7, .int (eI ((i : Nat) : Int))), (0, .ref (md 0))] := hl
            refine lv_goto (tgt := 166) hx hb d_M_prepare_276 rfl ?_
            exact ih2 (j + 1) (eh_upd fw (6 * i + j) 0) (eh_upd cs (6 * i + j) 0) H locs ls (by omega) (by omega) (fun k hk => by
              by_cases w : k = 6 * i + j
              · rw [w, eh_upd_s]
              · rw [eh_upd_n _ _ w]; exact hf k (by omega)) (fun y z hy hz => by
              rw [eh_upd_n _ _ (by omega)]; exact hcs y z hy hz) (fun z hz => by
              by_cases w : z = j
              · rw [w, eh_upd_s]; unfold eh_rc; rw [if_neg (by omega), if_pos (by omega)]
              · rw [eh_upd_n _ _ (by omega)]; exact hcj z (by omega)) (lv_sub hl [0, 2, 3] rfl) hP hD hS
          ·
            refine lv_iload hx hb d_M_prepare_166 (lv_at hl 0 rfl) ?_
            refine lv_bipush (v := eI 6) hx hb d_M_prepare_168 (by decide) ?_
            refine we_icmp_ge (tgt := 279) hx hb (by constructor <;> omega) (by constructor <;> omega) d_M_prepare_170 rfl (fun hc170 => absurd hc170 (by omega)) (fun hc170 => ?_)
            refine lv_aload_n hx hb d_M_prepare_173 rfl (lv_at hl 2 rfl) ?_
            refine va_get (D := D) (ci := 5) (v := .ref (md 11)) (C := R_M) (T := T_M) (N := 23) hx hb htb in_M hown hK hP 0 rfl rfl 16 (by decide) (htb _ tb_604) (fun _ h9 => h9) rfl d_M_prepare_174 ?_
            refine lv_bipush (v := eI 6) hx hb d_M_prepare_177 (by decide) ?_
            refine lv_iload hx hb d_M_prepare_179 (lv_at hl 1 rfl) ?_
            refine we_imul hx hb d_M_prepare_181 ?_
            refine lv_iload hx hb d_M_prepare_182 (lv_at hl 0 rfl) ?_
            refine we_iadd hx hb d_M_prepare_184 ?_
            refine lv_lconst (v := eL 0) hx hb d_M_prepare_185 (by decide) ?_
            refine we_last hx hb hK hP hD hS 11 1 rfl rfl (6 * i + j) (by omega) (by omega) (by decide) d_M_prepare_186 (fun H locs hP hD hS => ?_)
            have hP : va_P D classes [((md 0), .inr (5, [.int (eI co), .int (eI ((n : Nat) : Int)), .ref (md 1), .ref (md 2), .ref (md 3), .int (eI sh), .int (eI ra), .ref (md 4), .ref (md 5), .ref (md 6), .ref (md 7), .ref (md 8), .long (eL up9), .long (eL lw9), .ref (md 9), .ref (md 10), .ref (md 11), .ref (md 12), .ref (md 13), .ref (md 14), .ref (md 15), .int (eI kn), .int (eI fo)])), ((md 1), aI cI 25 sc), ((md 2), aI cI 4 ln), ((md 3), aI cZ 4 cb), ((md 4), aI cZ 3 th), ((md 5), aI cI 3 pl), ((md 6), aI cI 3 lo), ((md 7), aI cI 3 pr), ((md 8), aI cI 30 la), ((md 9), aL cL 7 su), ((md 10), aL cL 6 de), ((md 11), aL cL 42 (eh_upd fw (6 * i + j) 0)), ((md 12), aI cI 42 cs)] H := hP
            have hD : va_D A [((md 0), .inr (5, [.int (eI co), .int (eI ((n : Nat) : Int)), .ref (md 1), .ref (md 2), .ref (md 3), .int (eI sh), .int (eI ra), .ref (md 4), .ref (md 5), .ref (md 6), .ref (md 7), .ref (md 8), .long (eL up9), .long (eL lw9), .ref (md 9), .ref (md 10), .ref (md 11), .ref (md 12), .ref (md 13), .ref (md 14), .ref (md 15), .int (eI kn), .int (eI fo)])), ((md 1), aI cI 25 sc), ((md 2), aI cI 4 ln), ((md 3), aI cZ 4 cb), ((md 4), aI cZ 3 th), ((md 5), aI cI 3 pl), ((md 6), aI cI 3 lo), ((md 7), aI cI 3 pr), ((md 8), aI cI 30 la), ((md 9), aL cL 7 su), ((md 10), aL cL 6 de), ((md 11), aL cL 42 (eh_upd fw (6 * i + j) 0)), ((md 12), aI cI 42 cs)] := hD
            refine lv_iload hx hb d_M_prepare_187 (lv_at hl 1 rfl) ?_
            refine lv_iconst (v := eI 3) hx hb d_M_prepare_189 rfl ?_
            refine we_icmp_le (tgt := 206) hx hb (by constructor <;> omega) (by constructor <;> omega) d_M_prepare_190 rfl (fun hc190 => absurd hc190 (by omega)) (fun hc190 => ?_)
            refine lv_iload hx hb d_M_prepare_193 (lv_at hl 1 rfl) ?_
            refine lv_bipush (v := eI 6) hx hb d_M_prepare_195 (by decide) ?_
            refine we_icmp_ge (tgt := 206) hx hb (by constructor <;> omega) (by constructor <;> omega) d_M_prepare_197 rfl (fun hc197 => absurd hc197 (by omega)) (fun hc197 => ?_)
            refine lv_iload hx hb d_M_prepare_200 (lv_at hl 0 rfl) ?_
            refine lv_iconst (v := eI 5) hx hb d_M_prepare_202 rfl ?_
            refine we_icmp_eq (tgt := 219) hx hb (by constructor <;> omega) (by constructor <;> omega) d_M_prepare_203 rfl (fun hc203 => absurd hc203 (by omega)) (fun hc203 => ?_)
            refine lv_iload hx hb d_M_prepare_206 (lv_at hl 1 rfl) ?_
            refine lv_bipush (v := eI 6) hx hb d_M_prepare_208 (by decide) ?_
            refine we_icmp_ne (tgt := 223) hx hb (by constructor <;> omega) (by constructor <;> omega) d_M_prepare_210 rfl (fun hc210 => ?_) (fun hc210 => absurd hc210 (by omega))
            refine lv_iconst (v := eI 0) hx hb d_M_prepare_223 rfl ?_
            refine lv_istore hx hb d_M_prepare_224 hl (by decide) rfl (fun ls hl => ?_)
            have hl : lv_has ls 10 [(9, .int (eI 0)), (8, .int (eI ((j : Nat) : Int))), (7, .int (eI ((i : Nat) : Int))), (0, .ref (md 0))] := hl
            refine lv_aload_n hx hb d_M_prepare_226 rfl (lv_at hl 3 rfl) ?_
            refine va_get (D := D) (ci := 5) (v := .ref (md 12)) (C := R_M) (T := T_M) (N := 23) hx hb htb in_M hown hK hP 0 rfl rfl 17 (by decide) (htb _ tb_605) (fun _ h9 => h9) rfl d_M_prepare_227 ?_
            refine lv_bipush (v := eI 6) hx hb d_M_prepare_230 (by decide) ?_
            refine lv_iload hx hb d_M_prepare_232 (lv_at hl 2 rfl) ?_
            refine we_imul hx hb d_M_prepare_234 ?_
            refine lv_iload hx hb d_M_prepare_235 (lv_at hl 1 rfl) ?_
            refine we_iadd hx hb d_M_prepare_237 ?_
            refine lv_iload hx hb d_M_prepare_238 (lv_at hl 2 rfl) ?_
            refine lv_bipush (v := eI 6) hx hb d_M_prepare_240 (by decide) ?_
            refine we_icmp_ge (tgt := 262) hx hb (by constructor <;> omega) (by constructor <;> omega) d_M_prepare_242 rfl (fun hc242 => absurd hc242 (by omega)) (fun hc242 => ?_)
            refine lv_iload hx hb d_M_prepare_245 (lv_at hl 1 rfl) ?_
            refine lv_iconst (v := eI 5) hx hb d_M_prepare_247 rfl ?_
            refine we_icmp_ge (tgt := 262) hx hb (by constructor <;> omega) (by constructor <;> omega) d_M_prepare_248 rfl (fun hc248 => absurd hc248 (by omega)) (fun hc248 => ?_)
            refine lv_aload_n hx hb d_M_prepare_251 rfl (lv_at hl 3 rfl) ?_
            refine lv_iload hx hb d_M_prepare_252 (lv_at hl 2 rfl) ?_
            refine lv_iload hx hb d_M_prepare_254 (lv_at hl 1 rfl) ?_
            refine eh_cRV (As := [.int (eI ((i : Nat) : Int)), .int (eI ((j : Nat) : Int))]) (rest := [.int (eI ((6 * ((i : Nat) : Int)) + ((j : Nat) : Int))), .ref (md 12)]) (v := .int (eI (eh_ku n ra ln cb ys yp i j))) (q := (R_M, T_M, 23)) hx hb hml hown htb hN (r_M_costOf l D cI cL cZ md co n sh ra up9 lw9 kn fo sc ln cb th pl lo pr la cu cl fu fl ys yl yp i j (by omega) (by omega) hM) 2 ⟨tb_741, tb_743, ts_34, tb_7, kin_M_costOf⟩ dv_M_costOf ⟨by rw [hR1]; decide, by rw [hR2]; decide⟩ hK hP 0 rfl rfl [0, 1, 2, 3, 4, 5, 6, 7, 8] rfl [0, 1, 2] rfl rfl rfl hl.1 (Nat.le_of_ble_eq_true rfl) d_M_prepare_256 ⟨Nat.zero_le _, Nat.zero_le _⟩ ?_
            refine lv_goto (tgt := 272) hx hb d_M_prepare_259 rfl ?_
            refine we_iast hx hb hK hP hD hS 12 0 rfl rfl (6 * i + j) (by omega) (by omega) (by decide) d_M_prepare_272 (fun H locs hP hD hS => ?_)
            have hP : va_P D classes [((md 0), .inr (5, [.int (eI co), .int (eI ((n : Nat) : Int)), .ref (md 1), .ref (md 2), .ref (md 3), .int (eI sh), .int (eI ra), .ref (md 4), .ref (md 5), .ref (md 6), .ref (md 7), .ref (md 8), .long (eL up9), .long (eL lw9), .ref (md 9), .ref (md 10), .ref (md 11), .ref (md 12), .ref (md 13), .ref (md 14), .ref (md 15), .int (eI kn), .int (eI fo)])), ((md 1), aI cI 25 sc), ((md 2), aI cI 4 ln), ((md 3), aI cZ 4 cb), ((md 4), aI cZ 3 th), ((md 5), aI cI 3 pl), ((md 6), aI cI 3 lo), ((md 7), aI cI 3 pr), ((md 8), aI cI 30 la), ((md 9), aL cL 7 su), ((md 10), aL cL 6 de), ((md 11), aL cL 42 (eh_upd fw (6 * i + j) 0)), ((md 12), aI cI 42 (eh_upd cs (6 * i + j) (eh_ku n ra ln cb ys yp i j)))] H := hP
            have hD : va_D A [((md 0), .inr (5, [.int (eI co), .int (eI ((n : Nat) : Int)), .ref (md 1), .ref (md 2), .ref (md 3), .int (eI sh), .int (eI ra), .ref (md 4), .ref (md 5), .ref (md 6), .ref (md 7), .ref (md 8), .long (eL up9), .long (eL lw9), .ref (md 9), .ref (md 10), .ref (md 11), .ref (md 12), .ref (md 13), .ref (md 14), .ref (md 15), .int (eI kn), .int (eI fo)])), ((md 1), aI cI 25 sc), ((md 2), aI cI 4 ln), ((md 3), aI cZ 4 cb), ((md 4), aI cZ 3 th), ((md 5), aI cI 3 pl), ((md 6), aI cI 3 lo), ((md 7), aI cI 3 pr), ((md 8), aI cI 30 la), ((md 9), aL cL 7 su), ((md 10), aL cL 6 de), ((md 11), aL cL 42 (eh_upd fw (6 * i + j) 0)), ((md 12), aI cI 42 (eh_upd cs (6 * i + j) (eh_ku n ra ln cb ys yp i j)))] := hD
            refine lv_iinc (v := eI (((j : Nat) : Int) + 1)) hx hb d_M_prepare_273 hl (k := 1) rfl (eI_add _ _) (by decide) rfl (fun ls hl => ?_)
            have hl : lv_has ls 10 [(8, .int (eI (((j : Nat) : Int) + 1))), (9, .int (eI 0)), (7, .int (eI ((i : Nat) : Int))), (0, .ref (md 0))] := hl
            refine lv_goto (tgt := 166) hx hb d_M_prepare_276 rfl ?_
            exact ih2 (j + 1) (eh_upd fw (6 * i + j) 0) (eh_upd cs (6 * i + j) (eh_ku n ra ln cb ys yp i j)) H locs ls (by omega) (by omega) (fun k hk => by
              by_cases w : k = 6 * i + j
              · rw [w, eh_upd_s]
              · rw [eh_upd_n _ _ w]; exact hf k (by omega)) (fun y z hy hz => by
              rw [eh_upd_n _ _ (by omega)]; exact hcs y z hy hz) (fun z hz => by
              by_cases w : z = j
              · rw [w, eh_upd_s]; unfold eh_rc; rw [if_pos (by omega), eh_kc_at n ra ln cb ys yp (by omega)]
              · rw [eh_upd_n _ _ (by omega)]; exact hcj z (by omega)) (lv_sub hl [0, 2, 3] rfl) hP hD hS
          ·
            refine lv_iload hx hb d_M_prepare_166 (lv_at hl 0 rfl) ?_
            refine lv_bipush (v := eI 6) hx hb d_M_prepare_168 (by decide) ?_
            refine we_icmp_ge (tgt := 279) hx hb (by constructor <;> omega) (by constructor <;> omega) d_M_prepare_170 rfl (fun hc170 => absurd hc170 (by omega)) (fun hc170 => ?_)
            refine lv_aload_n hx hb d_M_prepare_173 rfl (lv_at hl 2 rfl) ?_
            refine va_get (D := D) (ci := 5) (v := .ref (md 11)) (C := R_M) (T := T_M) (N := 23) hx hb htb in_M hown hK hP 0 rfl rfl 16 (by decide) (htb _ tb_604) (fun _ h9 => h9) rfl d_M_prepare_174 ?_
            refine lv_bipush (v := eI 6) hx hb d_M_prepare_177 (by decide) ?_
            refine lv_iload hx hb d_M_prepare_179 (lv_at hl 1 rfl) ?_
            refine we_imul hx hb d_M_prepare_181 ?_
            refine lv_iload hx hb d_M_prepare_182 (lv_at hl 0 rfl) ?_
            refine we_iadd hx hb d_M_prepare_184 ?_
            refine lv_lconst (v := eL 0) hx hb d_M_prepare_185 (by decide) ?_
            refine we_last hx hb hK hP hD hS 11 1 rfl rfl (6 * i + j) (by omega) (by omega) (by decide) d_M_prepare_186 (fun H locs hP hD hS => ?_)
            have hP : va_P D classes [((md 0), .inr (5, [.int (eI co), .int (eI ((n : Nat) : Int)), .ref (md 1), .ref (md 2), .ref (md 3), .int (eI sh), .int (eI ra), .ref (md 4), .ref (md 5), .ref (md 6), .ref (md 7), .ref (md 8), .long (eL up9), .long (eL lw9), .ref (md 9), .ref (md 10), .ref (md 11), .ref (md 12), .ref (md 13), .ref (md 14), .ref (md 15), .int (eI kn), .int (eI fo)])), ((md 1), aI cI 25 sc), ((md 2), aI cI 4 ln), ((md 3), aI cZ 4 cb), ((md 4), aI cZ 3 th), ((md 5), aI cI 3 pl), ((md 6), aI cI 3 lo), ((md 7), aI cI 3 pr), ((md 8), aI cI 30 la), ((md 9), aL cL 7 su), ((md 10), aL cL 6 de), ((md 11), aL cL 42 (eh_upd fw (6 * i + j) 0)), ((md 12), aI cI 42 cs)] H := hP
            have hD : va_D A [((md 0), .inr (5, [.int (eI co), .int (eI ((n : Nat) : Int)), .ref (md 1), .ref (md 2), .ref (md 3), .int (eI sh), .int (eI ra), .ref (md 4), .ref (md 5), .ref (md 6), .ref (md 7), .ref (md 8), .long (eL up9), .long (eL lw9), .ref (md 9), .ref (md 10), .ref (md 11), .ref (md 12), .ref (md 13), .ref (md 14), .ref (md 15), .int (eI kn), .int (eI fo)])), ((md 1), aI cI 25 sc), ((md 2), aI cI 4 ln), ((md 3), aI cZ 4 cb), ((md 4), aI cZ 3 th), ((md 5), aI cI 3 pl), ((md 6), aI cI 3 lo), ((md 7), aI cI 3 pr), ((md 8), aI cI 30 la), ((md 9), aL cL 7 su), ((md 10), aL cL 6 de), ((md 11), aL cL 42 (eh_upd fw (6 * i + j) 0)), ((md 12), aI cI 42 cs)] := hD
            refine lv_iload hx hb d_M_prepare_187 (lv_at hl 1 rfl) ?_
            refine lv_iconst (v := eI 3) hx hb d_M_prepare_189 rfl ?_
            refine we_icmp_le (tgt := 206) hx hb (by constructor <;> omega) (by constructor <;> omega) d_M_prepare_190 rfl (fun hc190 => absurd hc190 (by omega)) (fun hc190 => ?_)
            refine lv_iload hx hb d_M_prepare_193 (lv_at hl 1 rfl) ?_
            refine lv_bipush (v := eI 6) hx hb d_M_prepare_195 (by decide) ?_
            refine we_icmp_ge (tgt := 206) hx hb (by constructor <;> omega) (by constructor <;> omega) d_M_prepare_197 rfl (fun hc197 => ?_) (fun hc197 => absurd hc197 (by omega))
            refine lv_iload hx hb d_M_prepare_206 (lv_at hl 1 rfl) ?_
            refine lv_bipush (v := eI 6) hx hb d_M_prepare_208 (by decide) ?_
            refine we_icmp_ne (tgt := 223) hx hb (by constructor <;> omega) (by constructor <;> omega) d_M_prepare_210 rfl (fun hc210 => absurd hc210 (by omega)) (fun hc210 => ?_)
            refine lv_iload hx hb d_M_prepare_213 (lv_at hl 0 rfl) ?_
            refine lv_iconst (v := eI 3) hx hb d_M_prepare_215 rfl ?_
            refine we_icmp_le (tgt := 223) hx hb (by constructor <;> omega) (by constructor <;> omega) d_M_prepare_216 rfl (fun hc216 => absurd hc216 (by omega)) (fun hc216 => ?_)
            refine lv_iconst (v := eI 1) hx hb d_M_prepare_219 rfl ?_
            refine lv_goto (tgt := 224) hx hb d_M_prepare_220 rfl ?_
            refine lv_istore hx hb d_M_prepare_224 hl (by decide) rfl (fun ls hl => ?_)
            have hl : lv_has ls 10 [(9, .int (eI 1)), (8, .int (eI ((j : Nat) : Int))), (7, .int (eI ((i : Nat) : Int))), (0, .ref (md 0))] := hl
            refine lv_aload_n hx hb d_M_prepare_226 rfl (lv_at hl 3 rfl) ?_
            refine va_get (D := D) (ci := 5) (v := .ref (md 12)) (C := R_M) (T := T_M) (N := 23) hx hb htb in_M hown hK hP 0 rfl rfl 17 (by decide) (htb _ tb_605) (fun _ h9 => h9) rfl d_M_prepare_227 ?_
            refine lv_bipush (v := eI 6) hx hb d_M_prepare_230 (by decide) ?_
            refine lv_iload hx hb d_M_prepare_232 (lv_at hl 2 rfl) ?_
            refine we_imul hx hb d_M_prepare_234 ?_
            refine lv_iload hx hb d_M_prepare_235 (lv_at hl 1 rfl) ?_
            refine we_iadd hx hb d_M_prepare_237 ?_
            refine lv_iload hx hb d_M_prepare_238 (lv_at hl 2 rfl) ?_
            refine lv_bipush (v := eI 6) hx hb d_M_prepare_240 (by decide) ?_
            refine we_icmp_ge (tgt := 262) hx hb (by constructor <;> omega) (by constructor <;> omega) d_M_prepare_242 rfl (fun hc242 => ?_) (fun hc242 => absurd hc242 (by omega))
            refine lv_iload hx hb d_M_prepare_262 (lv_at hl 0 rfl) ?_
            refine we_if_eq (tgt := 271) hx hb (by constructor <;> omega) d_M_prepare_264 rfl (fun hc264 => absurd hc264 (by omega)) (fun hc264 => ?_)
            refine lv_iconst (v := eI 0) hx hb d_M_prepare_267 rfl ?_
            refine lv_goto (tgt := 272) hx hb d_M_prepare_268 rfl ?_
            refine we_iast hx hb hK hP hD hS 12 0 rfl rfl (6 * i + j) (by omega) (by omega) (by decide) d_M_prepare_272 (fun H locs hP hD hS => ?_)
            have hP : va_P D classes [((md 0), .inr (5, [.int (eI co), .int (eI ((n : Nat) : Int)), .ref (md 1), .ref (md 2), .ref (md 3), .int (eI sh), .int (eI ra), .ref (md 4), .ref (md 5), .ref (md 6), .ref (md 7), .ref (md 8), .long (eL up9), .long (eL lw9), .ref (md 9), .ref (md 10), .ref (md 11), .ref (md 12), .ref (md 13), .ref (md 14), .ref (md 15), .int (eI kn), .int (eI fo)])), ((md 1), aI cI 25 sc), ((md 2), aI cI 4 ln), ((md 3), aI cZ 4 cb), ((md 4), aI cZ 3 th), ((md 5), aI cI 3 pl), ((md 6), aI cI 3 lo), ((md 7), aI cI 3 pr), ((md 8), aI cI 30 la), ((md 9), aL cL 7 su), ((md 10), aL cL 6 de), ((md 11), aL cL 42 (eh_upd fw (6 * i + j) 0)), ((md 12), aI cI 42 (eh_upd cs (6 * i + j) 0))] H := hP
            have hD : va_D A [((md 0), .inr (5, [.int (eI co), .int (eI ((n : Nat) : Int)), .ref (md 1), .ref (md 2), .ref (md 3), .int (eI sh), .int (eI ra), .ref (md 4), .ref (md 5), .ref (md 6), .ref (md 7), .ref (md 8), .long (eL up9), .long (eL lw9), .ref (md 9), .ref (md 10), .ref (md 11), .ref (md 12), .ref (md 13), .ref (md 14), .ref (md 15), .int (eI kn), .int (eI fo)])), ((md 1), aI cI 25 sc), ((md 2), aI cI 4 ln), ((md 3), aI cZ 4 cb), ((md 4), aI cZ 3 th), ((md 5), aI cI 3 pl), ((md 6), aI cI 3 lo), ((md 7), aI cI 3 pr), ((md 8), aI cI 30 la), ((md 9), aL cL 7 su), ((md 10), aL cL 6 de), ((md 11), aL cL 42 (eh_upd fw (6 * i + j) 0)), ((md 12), aI cI 42 (eh_upd cs (6 * i + j) 0))] := hD
            refine lv_iinc (v := eI (((j : Nat) : Int) + 1)) hx hb d_M_prepare_273 hl (k := 1) rfl (eI_add _ _) (by decide) rfl (fun ls hl => ?_)
            have hl : lv_has ls 10 [(8, .int (eI (((j : Nat) : Int) + 1))), (9, .int (eI 1)), (7, .int (eI ((i : Nat) : Int))), (0, .ref (md 0))] := hl
            refine lv_goto (tgt := 166) hx hb d_M_prepare_276 rfl ?_
            exact ih2 (j + 1) (eh_upd fw (6 * i + j) 0) (eh_upd cs (6 * i + j) 0) H locs ls (by omega) (by omega) (fun k hk => by
              by_cases w : k = 6 * i + j
              · rw [w, eh_upd_s]
              · rw [eh_upd_n _ _ w]; exact hf k (by omega)) (fun y z hy hz => by
              rw [eh_upd_n _ _ (by omega)]; exact hcs y z hy hz) (fun z hz => by
              by_cases w : z = j
              · rw [w, eh_upd_s]; unfold eh_rc; rw [if_neg (by omega), if_pos (by omega)]
              · rw [eh_upd_n _ _ (by omega)]; exact hcj z (by omega)) (lv_sub hl [0, 2, 3] rfl) hP hD hS
          ·
            refine lv_iload hx hb d_M_prepare_166 (lv_at hl 0 rfl) ?_
            refine lv_bipush (v := eI 6) hx hb d_M_prepare_168 (by decide) ?_
            refine we_icmp_ge (tgt := 279) hx hb (by constructor <;> omega) (by constructor <;> omega) d_M_prepare_170 rfl (fun hc170 => absurd hc170 (by omega)) (fun hc170 => ?_)
            refine lv_aload_n hx hb d_M_prepare_173 rfl (lv_at hl 2 rfl) ?_
            refine va_get (D := D) (ci := 5) (v := .ref (md 11)) (C := R_M) (T := T_M) (N := 23) hx hb htb in_M hown hK hP 0 rfl rfl 16 (by decide) (htb _ tb_604) (fun _ h9 => h9) rfl d_M_prepare_174 ?_
            refine lv_bipush (v := eI 6) hx hb d_M_prepare_177 (by decide) ?_
            refine lv_iload hx hb d_M_prepare_179 (lv_at hl 1 rfl) ?_
            refine we_imul hx hb d_M_prepare_181 ?_
            refine lv_iload hx hb d_M_prepare_182 (lv_at hl 0 rfl) ?_
            refine we_iadd hx hb d_M_prepare_184 ?_
            refine lv_lconst (v := eL 0) hx hb d_M_prepare_185 (by decide) ?_
            refine we_last hx hb hK hP hD hS 11 1 rfl rfl (6 * i + j) (by omega) (by omega) (by decide) d_M_prepare_186 (fun H locs hP hD hS => ?_)
            have hP : va_P D classes [((md 0), .inr (5, [.int (eI co), .int (eI ((n : Nat) : Int)), .ref (md 1), .ref (md 2), .ref (md 3), .int (eI sh), .int (eI ra), .ref (md 4), .ref (md 5), .ref (md 6), .ref (md 7), .ref (md 8), .long (eL up9), .long (eL lw9), .ref (md 9), .ref (md 10), .ref (md 11), .ref (md 12), .ref (md 13), .ref (md 14), .ref (md 15), .int (eI kn), .int (eI fo)])), ((md 1), aI cI 25 sc), ((md 2), aI cI 4 ln), ((md 3), aI cZ 4 cb), ((md 4), aI cZ 3 th), ((md 5), aI cI 3 pl), ((md 6), aI cI 3 lo), ((md 7), aI cI 3 pr), ((md 8), aI cI 30 la), ((md 9), aL cL 7 su), ((md 10), aL cL 6 de), ((md 11), aL cL 42 (eh_upd fw (6 * i + j) 0)), ((md 12), aI cI 42 cs)] H := hP
            have hD : va_D A [((md 0), .inr (5, [.int (eI co), .int (eI ((n : Nat) : Int)), .ref (md 1), .ref (md 2), .ref (md 3), .int (eI sh), .int (eI ra), .ref (md 4), .ref (md 5), .ref (md 6), .ref (md 7), .ref (md 8), .long (eL up9), .long (eL lw9), .ref (md 9), .ref (md 10), .ref (md 11), .ref (md 12), .ref (md 13), .ref (md 14), .ref (md 15), .int (eI kn), .int (eI fo)])), ((md 1), aI cI 25 sc), ((md 2), aI cI 4 ln), ((md 3), aI cZ 4 cb), ((md 4), aI cZ 3 th), ((md 5), aI cI 3 pl), ((md 6), aI cI 3 lo), ((md 7), aI cI 3 pr), ((md 8), aI cI 30 la), ((md 9), aL cL 7 su), ((md 10), aL cL 6 de), ((md 11), aL cL 42 (eh_upd fw (6 * i + j) 0)), ((md 12), aI cI 42 cs)] := hD
            refine lv_iload hx hb d_M_prepare_187 (lv_at hl 1 rfl) ?_
            refine lv_iconst (v := eI 3) hx hb d_M_prepare_189 rfl ?_
            refine we_icmp_le (tgt := 206) hx hb (by constructor <;> omega) (by constructor <;> omega) d_M_prepare_190 rfl (fun hc190 => absurd hc190 (by omega)) (fun hc190 => ?_)
            refine lv_iload hx hb d_M_prepare_193 (lv_at hl 1 rfl) ?_
            refine lv_bipush (v := eI 6) hx hb d_M_prepare_195 (by decide) ?_
            refine we_icmp_ge (tgt := 206) hx hb (by constructor <;> omega) (by constructor <;> omega) d_M_prepare_197 rfl (fun hc197 => ?_) (fun hc197 => absurd hc197 (by omega))
            refine lv_iload hx hb d_M_prepare_206 (lv_at hl 1 rfl) ?_
            refine lv_bipush (v := eI 6) hx hb d_M_prepare_208 (by decide) ?_
            refine we_icmp_ne (tgt := 223) hx hb (by constructor <;> omega) (by constructor <;> omega) d_M_prepare_210 rfl (fun hc210 => absurd hc210 (by omega)) (fun hc210 => ?_)
            refine lv_iload hx hb d_M_prepare_213 (lv_at hl 0 rfl) ?_
            refine lv_iconst (v := eI 3) hx hb d_M_prepare_215 rfl ?_
            refine we_icmp_le (tgt := 223) hx hb (by constructor <;> omega) (by constructor <;> omega) d_M_prepare_216 rfl (fun hc216 => ?_) (fun hc216 => absurd hc216 (by omega))
            refine lv_iconst (v := eI 0) hx hb d_M_prepare_223 rfl ?_
            refine lv_istore hx hb d_M_prepare_224 hl (by decide) rfl (fun ls hl => ?_)
            have hl : lv_has ls 10 [(9, .int (eI 0)), (8, .int (eI ((j : Nat) : Int))), (7, .int (eI ((i : Nat) : Int))), (0, .ref (md 0))] := hl
            refine lv_aload_n hx hb d_M_prepare_226 rfl (lv_at hl 3 rfl) ?_
            refine va_get (D := D) (ci := 5) (v := .ref (md 12)) (C := R_M) (T := T_M) (N := 23) hx hb htb in_M hown hK hP 0 rfl rfl 17 (by decide) (htb _ tb_605) (fun _ h9 => h9) rfl d_M_prepare_227 ?_
            refine lv_bipush (v := eI 6) hx hb d_M_prepare_230 (by decide) ?_
            refine lv_iload hx hb d_M_prepare_232 (lv_at hl 2 rfl) ?_
            refine we_imul hx hb d_M_prepare_234 ?_
            refine lv_iload hx hb d_M_prepare_235 (lv_at hl 1 rfl) ?_
            refine we_iadd hx hb d_M_prepare_237 ?_
            refine lv_iload hx hb d_M_prepare_238 (lv_at hl 2 rfl) ?_
            refine lv_bipush (v := eI 6) hx hb d_M_prepare_240 (by decide) ?_
            refine we_icmp_ge (tgt := 262) hx hb (by constructor <;> omega) (by constructor <;> omega) d_M_prepare_242 rfl (fun hc242 => ?_) (fun hc242 => absurd hc242 (by omega))
            refine lv_iload hx hb d_M_prepare_262 (lv_at hl 0 rfl) ?_
            refine we_if_eq (tgt := 271) hx hb (by constructor <;> omega) d_M_prepare_264 rfl (fun hc264 => ?_) (fun hc264 => absurd hc264 (by omega))
            refine lv_iconst (v := eI (-1)) hx hb d_M_prepare_271 rfl ?_
            refine we_iast hx hb hK hP hD hS 12 0 rfl rfl (6 * i + j) (by omega) (by omega) (by decide) d_M_prepare_272 (fun H locs hP hD hS => ?_)
            have hP : va_P D classes [((md 0), .inr (5, [.int (eI co), .int (eI ((n : Nat) : Int)), .ref (md 1), .ref (md 2), .ref (md 3), .int (eI sh), .int (eI ra), .ref (md 4), .ref (md 5), .ref (md 6), .ref (md 7), .ref (md 8), .long (eL up9), .long (eL lw9), .ref (md 9), .ref (md 10), .ref (md 11), .ref (md 12), .ref (md 13), .ref (md 14), .ref (md 15), .int (eI kn), .int (eI fo)])), ((md 1), aI cI 25 sc), ((md 2), aI cI 4 ln), ((md 3), aI cZ 4 cb), ((md 4), aI cZ 3 th), ((md 5), aI cI 3 pl), ((md 6), aI cI 3 lo), ((md 7), aI cI 3 pr), ((md 8), aI cI 30 la), ((md 9), aL cL 7 su), ((md 10), aL cL 6 de), ((md 11), aL cL 42 (eh_upd fw (6 * i + j) 0)), ((md 12), aI cI 42 (eh_upd cs (6 * i + j) (-1)))] H := hP
            have hD : va_D A [((md 0), .inr (5, [.int (eI co), .int (eI ((n : Nat) : Int)), .ref (md 1), .ref (md 2), .ref (md 3), .int (eI sh), .int (eI ra), .ref (md 4), .ref (md 5), .ref (md 6), .ref (md 7), .ref (md 8), .long (eL up9), .long (eL lw9), .ref (md 9), .ref (md 10), .ref (md 11), .ref (md 12), .ref (md 13), .ref (md 14), .ref (md 15), .int (eI kn), .int (eI fo)])), ((md 1), aI cI 25 sc), ((md 2), aI cI 4 ln), ((md 3), aI cZ 4 cb), ((md 4), aI cZ 3 th), ((md 5), aI cI 3 pl), ((md 6), aI cI 3 lo), ((md 7), aI cI 3 pr), ((md 8), aI cI 30 la), ((md 9), aL cL 7 su), ((md 10), aL cL 6 de), ((md 11), aL cL 42 (eh_upd fw (6 * i + j) 0)), ((md 12), aI cI 42 (eh_upd cs (6 * i + j) (-1)))] := hD
            refine lv_iinc (v := eI (((j : Nat) : Int) + 1)) hx hb d_M_prepare_273 hl (k := 1) rfl (eI_add _ _) (by decide) rfl (fun ls hl => ?_)
            have hl : lv_has ls 10 [(8, .int (eI (((j : Nat) : Int) + 1))), (9, .int (eI 0)), (7, .int (eI ((i : Nat) : Int))), (0, .ref (md 0))] := hl
            refine lv_goto (tgt := 166) hx hb d_M_prepare_276 rfl ?_
            exact ih2 (j + 1) (eh_upd fw (6 * i + j) 0) (eh_upd cs (6 * i + j) (-1)) H locs ls (by omega) (by omega) (fun k hk => by
              by_cases w : k = 6 * i + j
              · rw [w, eh_upd_s]
              · rw [eh_upd_n _ _ w]; exact hf k (by omega)) (fun y z hy hz => by
              rw [eh_upd_n _ _ (by omega)]; exact hcs y z hy hz) (fun z hz => by
              by_cases w : z = j
              · rw [w, eh_upd_s]; unfold eh_rc; rw [if_neg (by omega), if_neg (by omega)]
              · rw [eh_upd_n _ _ (by omega)]; exact hcj z (by omega)) (lv_sub hl [0, 2, 3] rfl) hP hD hS
      exact inner 6 0 fw cs H locs ls (by omega) (by omega) (fun k hk => hf k (by omega)) hcs (fun z hz => by omega) (lv_sub hl [0, 1, 2] rfl) hP hD hS
  refine lv_lconst (v := eL 0) hx hb d_M_prepare_0 (by decide) ?_
  refine lv_lstore_n hx hb d_M_prepare_1 rfl hl (by decide) rfl (fun ls hl => ?_)
  have hl : lv_has ls 10 [(3, .long (eL 0)), (0, .ref (md 0)), (1, .int (eI so)), (2, .int (eI si))] := hl
  refine lv_iconst (v := eI 0) hx hb d_M_prepare_2 rfl ?_
  refine lv_istore hx hb d_M_prepare_3 hl (by decide) rfl (fun ls hl => ?_)
  have hl : lv_has ls 10 [(5, .int (eI 0)), (3, .long (eL 0)), (0, .ref (md 0)), (1, .int (eI so)), (2, .int (eI si))] := hl
  have l1 : ∀ (q i : Nat) (up9 lw9 : Int) (su : Nat → Int) (H : Heap) (locs : List Loc) (ls : Array Slot), 6 - i = q → i ≤ 6 → (∀ k, k < i → su k = (eh_pA n sh ln cu cl yl so) k) → lv_has ls 10 [(5, .int (eI ((i : Nat) : Int))), (3, .long (eL (eh_sm (eh_pA n sh ln cu cl yl so) i))), (0, .ref (md 0)), (1, .int (eI so)), (2, .int (eI si))] → va_P D classes [((md 0), .inr (5, [.int (eI co), .int (eI ((n : Nat) : Int)), .ref (md 1), .ref (md 2), .ref (md 3), .int (eI sh), .int (eI ra), .ref (md 4), .ref (md 5), .ref (md 6), .ref (md 7), .ref (md 8), .long (eL up9), .long (eL lw9), .ref (md 9), .ref (md 10), .ref (md 11), .ref (md 12), .ref (md 13), .ref (md 14), .ref (md 15), .int (eI kn), .int (eI fo)])), ((md 1), aI cI 25 sc), ((md 2), aI cI 4 ln), ((md 3), aI cZ 4 cb), ((md 4), aI cZ 3 th), ((md 5), aI cI 3 pl), ((md 6), aI cI 3 lo), ((md 7), aI cI 3 pr), ((md 8), aI cI 30 la), ((md 9), aL cL 7 su), ((md 10), aL cL 6 de0), ((md 11), aL cL 42 fw0), ((md 12), aI cI 42 cs0)] H → va_D A [((md 0), .inr (5, [.int (eI co), .int (eI ((n : Nat) : Int)), .ref (md 1), .ref (md 2), .ref (md 3), .int (eI sh), .int (eI ra), .ref (md 4), .ref (md 5), .ref (md 6), .ref (md 7), .ref (md 8), .long (eL up9), .long (eL lw9), .ref (md 9), .ref (md 10), .ref (md 11), .ref (md 12), .ref (md 13), .ref (md 14), .ref (md 15), .int (eI kn), .int (eI fo)])), ((md 1), aI cI 25 sc), ((md 2), aI cI 4 ln), ((md 3), aI cZ 4 cb), ((md 4), aI cZ 3 th), ((md 5), aI cI 3 pl), ((md 6), aI cI 3 lo), ((md 7), aI cI 3 pr), ((md 8), aI cI 30 la), ((md 9), aL cL 7 su), ((md 10), aL cL 6 de0), ((md 11), aL cL 42 fw0), ((md 12), aI cI 42 cs0)] → va_S A s.heap H locs → W p l e R s m args below meth c H locs 0 0 Q (F0 m 5 ls []) := by
    intro q
    induction q with
    | zero =>
      intro i up9 lw9 su H locs ls hq hi hsu hl hP hD hS
      have hi6 : i = 6 := by omega
      subst hi6
      refine lv_iload hx hb d_M_prepare_5 (lv_at hl 0 rfl) ?_
      refine lv_bipush (v := eI 6) hx hb d_M_prepare_7 (by decide) ?_
      refine we_icmp_ge (tgt := 54) hx hb (by constructor <;> omega) (by constructor <;> omega) d_M_prepare_9 rfl (fun hc9 => ?_) (fun hc9 => absurd hc9 (by omega))
      refine lv_iconst (v := eI 0) hx hb d_M_prepare_54 rfl ?_
      refine lv_istore hx hb d_M_prepare_55 hl (by decide) rfl (fun ls hl => ?_)
      have hl : lv_has ls 10 [(5, .int (eI 0)), (3, .long (eL (eh_sm (eh_pA n sh ln cu cl yl so) 6))), (0, .ref (md 0)), (1, .int (eI so)), (2, .int (eI si))] := hl
      have l2 : ∀ (q j : Nat) (up9 lw9 : Int) (de : Nat → Int) (H : Heap) (locs : List Loc) (ls : Array Slot), 5 - j = q → j ≤ 5 → (∀ k, k < j → de k = (eh_pB n ln fu fl yl si) k) → lv_has ls 10 [(5, .int (eI ((j : Nat) : Int))), (3, .long (eL (eh_sm (eh_pA n sh ln cu cl yl so) 6 - eh_sm (eh_pB n ln fu fl yl si) j))), (0, .ref (md 0)), (1, .int (eI so)), (2, .int (eI si))] → va_P D classes [((md 0), .inr (5, [.int (eI co), .int (eI ((n : Nat) : Int)), .ref (md 1), .ref (md 2), .ref (md 3), .int (eI sh), .int (eI ra), .ref (md 4), .ref (md 5), .ref (md 6), .ref (md 7), .ref (md 8), .long (eL up9), .long (eL lw9), .ref (md 9), .ref (md 10), .ref (md 11), .ref (md 12), .ref (md 13), .ref (md 14), .ref (md 15), .int (eI kn), .int (eI fo)])), ((md 1), aI cI 25 sc), ((md 2), aI cI 4 ln), ((md 3), aI cZ 4 cb), ((md 4), aI cZ 3 th), ((md 5), aI cI 3 pl), ((md 6), aI cI 3 lo), ((md 7), aI cI 3 pr), ((md 8), aI cI 30 la), ((md 9), aL cL 7 su), ((md 10), aL cL 6 de), ((md 11), aL cL 42 fw0), ((md 12), aI cI 42 cs0)] H → va_D A [((md 0), .inr (5, [.int (eI co), .int (eI ((n : Nat) : Int)), .ref (md 1), .ref (md 2), .ref (md 3), .int (eI sh), .int (eI ra), .ref (md 4), .ref (md 5), .ref (md 6), .ref (md 7), .ref (md 8), .long (eL up9), .long (eL lw9), .ref (md 9), .ref (md 10), .ref (md 11), .ref (md 12), .ref (md 13), .ref (md 14), .ref (md 15), .int (eI kn), .int (eI fo)])), ((md 1), aI cI 25 sc), ((md 2), aI cI 4 ln), ((md 3), aI cZ 4 cb), ((md 4), aI cZ 3 th), ((md 5), aI cI 3 pl), ((md 6), aI cI 3 lo), ((md 7), aI cI 3 pr), ((md 8), aI cI 30 la), ((md 9), aL cL 7 su), ((md 10), aL cL 6 de), ((md 11), aL cL 42 fw0), ((md 12), aI cI 42 cs0)] → va_S A s.heap H locs → W p l e R s m args below meth c H locs 0 0 Q (F0 m 57 ls []) := by
        have hsb := eh_sm_bd (f := (eh_pA n sh ln cu cl yl so)) (n := 6) (b := 100000001) (fun k hk => eh_pA_b hE so (by omega))
        intro q
        induction q with
        | zero =>
          intro j up9 lw9 de H locs ls hq hj hde hl hP hD hS
          have hj5 : j = 5 := by omega
          subst hj5
          have hsc := eh_sm_bd (f := (eh_pB n ln fu fl yl si)) (n := 5) (b := 100000001) (fun k hk => eh_pB_b hE si (by omega))
          by_cases hleft : eh_sm (eh_pA n sh ln cu cl yl so) 6 - eh_sm (eh_pB n ln fu fl yl si) 5 < 0
          ·
            refine lv_iload hx hb d_M_prepare_57 (lv_at hl 0 rfl) ?_
            refine lv_iconst (v := eI 5) hx hb d_M_prepare_59 rfl ?_
            refine we_icmp_ge (tgt := 105) hx hb (by constructor <;> omega) (by constructor <;> omega) d_M_prepare_60 rfl (fun hc60 => ?_) (fun hc60 => absurd hc60 (by omega))
            refine we_ldc2 (a := 2000000000) hx hb hown (htb _ tb_777) (by decide) d_M_prepare_105 ?_
            refine lv_lstore hx hb d_M_prepare_108 hl (by decide) rfl (fun ls hl => ?_)
            have hl : lv_has ls 10 [(5, .long (eL 2000000000)), (3, .long (eL (eh_sm (eh_pA n sh ln cu cl yl so) 6 - eh_sm (eh_pB n ln fu fl yl si) 5))), (0, .ref (md 0)), (1, .int (eI so)), (2, .int (eI si))] := hl
            refine lv_aload_n hx hb d_M_prepare_110 rfl (lv_at hl 2 rfl) ?_
            refine va_get (D := D) (ci := 5) (v := .ref (md 9)) (C := R_M) (T := T_M) (N := 23) hx hb htb in_M hown hK hP 0 rfl rfl 14 (by decide) (htb _ tb_602) (fun _ h9 => h9) rfl d_M_prepare_111 ?_
            refine lv_bipush (v := eI 6) hx hb d_M_prepare_114 (by decide) ?_
            refine lv_lload_n hx hb d_M_prepare_116 rfl (lv_at hl 1 rfl) ?_
            refine lv_lconst (v := eL 0) hx hb d_M_prepare_117 (by decide) ?_
            refine we_lcmp_ge (pc2 := 119) (tgt := 129) hx hb (by constructor <;> omega) (by constructor <;> omega) d_M_prepare_118 rfl d_M_prepare_119 rfl (fun hc118 => absurd hc118 (by omega)) (fun hc118 => ?_)
            refine lv_lload hx hb d_M_prepare_122 (lv_at hl 0 rfl) ?_
            refine lv_lload_n hx hb d_M_prepare_124 rfl (lv_at hl 1 rfl) ?_
            refine we_lsub hx hb d_M_prepare_125 ?_
            refine lv_goto (tgt := 131) hx hb d_M_prepare_126 rfl ?_
            refine we_last hx hb hK hP hD hS 9 1 rfl rfl 6 rfl (by decide) (by decide) d_M_prepare_131 (fun H locs hP hD hS => ?_)
            have hP : va_P D classes [((md 0), .inr (5, [.int (eI co), .int (eI ((n : Nat) : Int)), .ref (md 1), .ref (md 2), .ref (md 3), .int (eI sh), .int (eI ra), .ref (md 4), .ref (md 5), .ref (md 6), .ref (md 7), .ref (md 8), .long (eL up9), .long (eL lw9), .ref (md 9), .ref (md 10), .ref (md 11), .ref (md 12), .ref (md 13), .ref (md 14), .ref (md 15), .int (eI kn), .int (eI fo)])), ((md 1), aI cI 25 sc), ((md 2), aI cI 4 ln), ((md 3), aI cZ 4 cb), ((md 4), aI cZ 3 th), ((md 5), aI cI 3 pl), ((md 6), aI cI 3 lo), ((md 7), aI cI 3 pr), ((md 8), aI cI 30 la), ((md 9), aL cL 7 (eh_upd su 6 (2000000000 - (eh_sm (eh_pA n sh ln cu cl yl so) 6 - eh_sm (eh_pB n ln fu fl yl si) 5)))), ((md 10), aL cL 6 de), ((md 11), aL cL 42 fw0), ((md 12), aI cI 42 cs0)] H := hP
            have hD : va_D A [((md 0), .inr (5, [.int (eI co), .int (eI ((n : Nat) : Int)), .ref (md 1), .ref (md 2), .ref (md 3), .int (eI sh), .int (eI ra), .ref (md 4), .ref (md 5), .ref (md 6), .ref (md 7), .ref (md 8), .long (eL up9), .long (eL lw9), .ref (md 9), .ref (md 10), .ref (md 11), .ref (md 12), .ref (md 13), .ref (md 14), .ref (md 15), .int (eI kn), .int (eI fo)])), ((md 1), aI cI 25 sc), ((md 2), aI cI 4 ln), ((md 3), aI cZ 4 cb), ((md 4), aI cZ 3 th), ((md 5), aI cI 3 pl), ((md 6), aI cI 3 lo), ((md 7), aI cI 3 pr), ((md 8), aI cI 30 la), ((md 9), aL cL 7 (eh_upd su 6 (2000000000 - (eh_sm (eh_pA n sh ln cu cl yl so) 6 - eh_sm (eh_pB n ln fu fl yl si) 5)))), ((md 10), aL cL 6 de), ((md 11), aL cL 42 fw0), ((md 12), aI cI 42 cs0)] := hD
            refine lv_aload_n hx hb d_M_prepare_132 rfl (lv_at hl 2 rfl) ?_
            refine va_get (D := D) (ci := 5) (v := .ref (md 10)) (C := R_M) (T := T_M) (N := 23) hx hb htb in_M hown hK hP 0 rfl rfl 15 (by decide) (htb _ tb_603) (fun _ h9 => h9) rfl d_M_prepare_133 ?_
            refine lv_iconst (v := eI 5) hx hb d_M_prepare_136 rfl ?_
            refine lv_lload_n hx hb d_M_prepare_137 rfl (lv_at hl 1 rfl) ?_
            refine lv_lconst (v := eL 0) hx hb d_M_prepare_138 (by decide) ?_
            refine we_lcmp_ge (pc2 := 140) (tgt := 148) hx hb (by constructor <;> omega) (by constructor <;> omega) d_M_prepare_139 rfl d_M_prepare_140 rfl (fun hc139 => absurd hc139 (by omega)) (fun hc139 => ?_)
            refine lv_lload hx hb d_M_prepare_143 (lv_at hl 0 rfl) ?_
            refine lv_goto (tgt := 152) hx hb d_M_prepare_145 rfl ?_
            refine we_last hx hb hK hP hD hS 10 1 rfl rfl 5 rfl (by decide) (by decide) d_M_prepare_152 (fun H locs hP hD hS => ?_)
            have hP : va_P D classes [((md 0), .inr (5, [.int (eI co), .int (eI ((n : Nat) : Int)), .ref (md 1), .ref (md 2), .ref (md 3), .int (eI sh), .int (eI ra), .ref (md 4), .ref (md 5), .ref (md 6), .ref (md 7), .ref (md 8), .long (eL up9), .long (eL lw9), .ref (md 9), .ref (md 10), .ref (md 11), .ref (md 12), .ref (md 13), .ref (md 14), .ref (md 15), .int (eI kn), .int (eI fo)])), ((md 1), aI cI 25 sc), ((md 2), aI cI 4 ln), ((md 3), aI cZ 4 cb), ((md 4), aI cZ 3 th), ((md 5), aI cI 3 pl), ((md 6), aI cI 3 lo), ((md 7), aI cI 3 pr), ((md 8), aI cI 30 la), ((md 9), aL cL 7 (eh_upd su 6 (2000000000 - (eh_sm (eh_pA n sh ln cu cl yl so) 6 - eh_sm (eh_pB n ln fu fl yl si) 5)))), ((md 10), aL cL 6 (eh_upd de 5 2000000000)), ((md 11), aL cL 42 fw0), ((md 12), aI cI 42 cs0)] H := hP
            have hD : va_D A [((md 0), .inr (5, [.int (eI co), .int (eI ((n : Nat) : Int)), .ref (md 1), .ref (md 2), .ref (md 3), .int (eI sh), .int (eI ra), .ref (md 4), .ref (md 5), .ref (md 6), .ref (md 7), .ref (md 8), .long (eL up9), .long (eL lw9), .ref (md 9), .ref (md 10), .ref (md 11), .ref (md 12), .ref (md 13), .ref (md 14), .ref (md 15), .int (eI kn), .int (eI fo)])), ((md 1), aI cI 25 sc), ((md 2), aI cI 4 ln), ((md 3), aI cZ 4 cb), ((md 4), aI cZ 3 th), ((md 5), aI cI 3 pl), ((md 6), aI cI 3 lo), ((md 7), aI cI 3 pr), ((md 8), aI cI 30 la), ((md 9), aL cL 7 (eh_upd su 6 (2000000000 - (eh_sm (eh_pA n sh ln cu cl yl so) 6 - eh_sm (eh_pB n ln fu fl yl si) 5)))), ((md 10), aL cL 6 (eh_upd de 5 2000000000)), ((md 11), aL cL 42 fw0), ((md 12), aI cI 42 cs0)] := hD
            refine lv_iconst (v := eI 0) hx hb d_M_prepare_153 rfl ?_
            refine lv_istore hx hb d_M_prepare_154 hl (by decide) rfl (fun ls hl => ?_)
            have hl : lv_has ls 10 [(7, .int (eI 0)), (5, .long (eL 2000000000)), (3, .long (eL (eh_sm (eh_pA n sh ln cu cl yl so) 6 - eh_sm (eh_pB n ln fu fl yl si) 5))), (0, .ref (md 0)), (1, .int (eI so)), (2, .int (eI si))] := hl
            have hpr : eh_pr (eh_pA n sh ln cu cl yl so) (eh_pB n ln fu fl yl si) (eh_upd su 6 (2000000000 - (eh_sm (eh_pA n sh ln cu cl yl so) 6 - eh_sm (eh_pB n ln fu fl yl si) 5))) (eh_upd de 5 2000000000) := by
              refine ⟨fun k hk => ?_, fun k hk => ?_, ?_, ?_⟩
              · rw [eh_upd_n _ _ (by omega)]; exact hsu k hk
              · rw [eh_upd_n _ _ (by omega)]; exact hde k hk
              · rw [eh_upd_s, if_pos hleft]
              · rw [eh_upd_s, if_pos hleft]
            exact outer up9 lw9 _ _ hpr 7 0 fw0 cs0 H locs ls (by omega) (by omega) (fun k hk => by omega) (fun y z hy hz => by omega) (lv_sub hl [0, 3] rfl) hP hD hS
          ·
            refine lv_iload hx hb d_M_prepare_57 (lv_at hl 0 rfl) ?_
            refine lv_iconst (v := eI 5) hx hb d_M_prepare_59 rfl ?_
            refine we_icmp_ge (tgt := 105) hx hb (by constructor <;> omega) (by constructor <;> omega) d_M_prepare_60 rfl (fun hc60 => ?_) (fun hc60 => absurd hc60 (by omega))
            refine we_ldc2 (a := 2000000000) hx hb hown (htb _ tb_777) (by decide) d_M_prepare_105 ?_
            refine lv_lstore hx hb d_M_prepare_108 hl (by decide) rfl (fun ls hl => ?_)
            have hl : lv_has ls 10 [(5, .long (eL 2000000000)), (3, .long (eL (eh_sm (eh_pA n sh ln cu cl yl so) 6 - eh_sm (eh_pB n ln fu fl yl si) 5))), (0, .ref (md 0)), (1, .int (eI so)), (2, .int (eI si))] := hl
            refine lv_aload_n hx hb d_M_prepare_110 rfl (lv_at hl 2 rfl) ?_
            refine va_get (D := D) (ci := 5) (v := .ref (md 9)) (C := R_M) (T := T_M) (N := 23) hx hb htb in_M hown hK hP 0 rfl rfl 14 (by decide) (htb _ tb_602) (fun _ h9 => h9) rfl d_M_prepare_111 ?_
            refine lv_bipush (v := eI 6) hx hb d_M_prepare_114 (by decide) ?_
            refine lv_lload_n hx hb d_M_prepare_116 rfl (lv_at hl 1 rfl) ?_
            refine lv_lconst (v := eL 0) hx hb d_M_prepare_117 (by decide) ?_
            refine we_lcmp_ge (pc2 := 119) (tgt := 129) hx hb (by constructor <;> omega) (by constructor <;> omega) d_M_prepare_118 rfl d_M_prepare_119 rfl (fun hc118 => ?_) (fun hc118 => absurd hc118 (by omega))
            refine lv_lload hx hb d_M_prepare_129 (lv_at hl 0 rfl) ?_
            refine we_last hx hb hK hP hD hS 9 1 rfl rfl 6 rfl (by decide) (by decide) d_M_prepare_131 (fun H locs hP hD hS => ?_)
            have hP : va_P D classes [((md 0), .inr (5, [.int (eI co), .int (eI ((n : Nat) : Int)), .ref (md 1), .ref (md 2), .ref (md 3), .int (eI sh), .int (eI ra), .ref (md 4), .ref (md 5), .ref (md 6), .ref (md 7), .ref (md 8), .long (eL up9), .long (eL lw9), .ref (md 9), .ref (md 10), .ref (md 11), .ref (md 12), .ref (md 13), .ref (md 14), .ref (md 15), .int (eI kn), .int (eI fo)])), ((md 1), aI cI 25 sc), ((md 2), aI cI 4 ln), ((md 3), aI cZ 4 cb), ((md 4), aI cZ 3 th), ((md 5), aI cI 3 pl), ((md 6), aI cI 3 lo), ((md 7), aI cI 3 pr), ((md 8), aI cI 30 la), ((md 9), aL cL 7 (eh_upd su 6 2000000000)), ((md 10), aL cL 6 de), ((md 11), aL cL 42 fw0), ((md 12), aI cI 42 cs0)] H := hP
            have hD : va_D A [((md 0), .inr (5, [.int (eI co), .int (eI ((n : Nat) : Int)), .ref (md 1), .ref (md 2), .ref (md 3), .int (eI sh), .int (eI ra), .ref (md 4), .ref (md 5), .ref (md 6), .ref (md 7), .ref (md 8), .long (eL up9), .long (eL lw9), .ref (md 9), .ref (md 10), .ref (md 11), .ref (md 12), .ref (md 13), .ref (md 14), .ref (md 15), .int (eI kn), .int (eI fo)])), ((md 1), aI cI 25 sc), ((md 2), aI cI 4 ln), ((md 3), aI cZ 4 cb), ((md 4), aI cZ 3 th), ((md 5), aI cI 3 pl), ((md 6), aI cI 3 lo), ((md 7), aI cI 3 pr), ((md 8), aI cI 30 la), ((md 9), aL cL 7 (eh_upd su 6 2000000000)), ((md 10), aL cL 6 de), ((md 11), aL cL 42 fw0), ((md 12), aI cI 42 cs0)] := hD
            refine lv_aload_n hx hb d_M_prepare_132 rfl (lv_at hl 2 rfl) ?_
            refine va_get (D := D) (ci := 5) (v := .ref (md 10)) (C := R_M) (T := T_M) (N := 23) hx hb htb in_M hown hK hP 0 rfl rfl 15 (by decide) (htb _ tb_603) (fun _ h9 => h9) rfl d_M_prepare_133 ?_
            refine lv_iconst (v := eI 5) hx hb d_M_prepare_136 rfl ?_
            refine lv_lload_n hx hb d_M_prepare_137 rfl (lv_at hl 1 rfl) ?_
            refine lv_lconst (v := eL 0) hx hb d_M_prepare_138 (by decide) ?_
            refine we_lcmp_ge (pc2 := 140) (tgt := 148) hx hb (by constructor <;> omega) (by constructor <;> omega) d_M_prepare_139 rfl d_M_prepare_140 rfl (fun hc139 => ?_) (fun hc139 => absurd hc139 (by omega))
            refine lv_lload hx hb d_M_prepare_148 (lv_at hl 0 rfl) ?_
            refine lv_lload_n hx hb d_M_prepare_150 rfl (lv_at hl 1 rfl) ?_
            refine we_ladd hx hb d_M_prepare_151 ?_
            refine we_last hx hb hK hP hD hS 10 1 rfl rfl 5 rfl (by decide) (by decide) d_M_prepare_152 (fun H locs hP hD hS => ?_)
            have hP : va_P D classes [((md 0), .inr (5, [.int (eI co), .int (eI ((n : Nat) : Int)), .ref (md 1), .ref (md 2), .ref (md 3), .int (eI sh), .int (eI ra), .ref (md 4), .ref (md 5), .ref (md 6), .ref (md 7), .ref (md 8), .long (eL up9), .long (eL lw9), .ref (md 9), .ref (md 10), .ref (md 11), .ref (md 12), .ref (md 13), .ref (md 14), .ref (md 15), .int (eI kn), .int (eI fo)])), ((md 1), aI cI 25 sc), ((md 2), aI cI 4 ln), ((md 3), aI cZ 4 cb), ((md 4), aI cZ 3 th), ((md 5), aI cI 3 pl), ((md 6), aI cI 3 lo), ((md 7), aI cI 3 pr), ((md 8), aI cI 30 la), ((md 9), aL cL 7 (eh_upd su 6 2000000000)), ((md 10), aL cL 6 (eh_upd de 5 (2000000000 + (eh_sm (eh_pA n sh ln cu cl yl so) 6 - eh_sm (eh_pB n ln fu fl yl si) 5)))), ((md 11), aL cL 42 fw0), ((md 12), aI cI 42 cs0)] H := hP
            have hD : va_D A [((md 0), .inr (5, [.int (eI co), .int (eI ((n : Nat) : Int)), .ref (md 1), .ref (md 2), .ref (md 3), .int (eI sh), .int (eI ra), .ref (md 4), .ref (md 5), .ref (md 6), .ref (md 7), .ref (md 8), .long (eL up9), .long (eL lw9), .ref (md 9), .ref (md 10), .ref (md 11), .ref (md 12), .ref (md 13), .ref (md 14), .ref (md 15), .int (eI kn), .int (eI fo)])), ((md 1), aI cI 25 sc), ((md 2), aI cI 4 ln), ((md 3), aI cZ 4 cb), ((md 4), aI cZ 3 th), ((md 5), aI cI 3 pl), ((md 6), aI cI 3 lo), ((md 7), aI cI 3 pr), ((md 8), aI cI 30 la), ((md 9), aL cL 7 (eh_upd su 6 2000000000)), ((md 10), aL cL 6 (eh_upd de 5 (2000000000 + (eh_sm (eh_pA n sh ln cu cl yl so) 6 - eh_sm (eh_pB n ln fu fl yl si) 5)))), ((md 11), aL cL 42 fw0), ((md 12), aI cI 42 cs0)] := hD
            refine lv_iconst (v := eI 0) hx hb d_M_prepare_153 rfl ?_
            refine lv_istore hx hb d_M_prepare_154 hl (by decide) rfl (fun ls hl => ?_)
            have hl : lv_has ls 10 [(7, .int (eI 0)), (5, .long (eL 2000000000)), (3, .long (eL (eh_sm (eh_pA n sh ln cu cl yl so) 6 - eh_sm (eh_pB n ln fu fl yl si) 5))), (0, .ref (md 0)), (1, .int (eI so)), (2, .int (eI si))] := hl
            have hpr : eh_pr (eh_pA n sh ln cu cl yl so) (eh_pB n ln fu fl yl si) (eh_upd su 6 2000000000) (eh_upd de 5 (2000000000 + (eh_sm (eh_pA n sh ln cu cl yl so) 6 - eh_sm (eh_pB n ln fu fl yl si) 5))) := by
              refine ⟨fun k hk => ?_, fun k hk => ?_, ?_, ?_⟩
              · rw [eh_upd_n _ _ (by omega)]; exact hsu k hk
              · rw [eh_upd_n _ _ (by omega)]; exact hde k hk
              · rw [eh_upd_s, if_neg hleft]
              · rw [eh_upd_s, if_neg hleft]
            exact outer up9 lw9 _ _ hpr 7 0 fw0 cs0 H locs ls (by omega) (by omega) (fun k hk => by omega) (fun y z hy hz => by omega) (lv_sub hl [0, 3] rfl) hP hD hS
        | succ q ih =>
          intro j up9 lw9 de H locs ls hq hj hde hl hP hD hS
          have hgb := eh_wn_b hE (show j < 5 by omega)
          have hsc := eh_sm_bd (f := (eh_pB n ln fu fl yl si)) (n := j) (b := 100000001) (fun k hk => eh_pB_b hE si (by omega))
          refine lv_iload hx hb d_M_prepare_57 (lv_at hl 0 rfl) ?_
          refine lv_iconst (v := eI 5) hx hb d_M_prepare_59 rfl ?_
          refine we_icmp_ge (tgt := 105) hx hb (by constructor <;> omega) (by constructor <;> omega) d_M_prepare_60 rfl (fun hc60 => absurd hc60 (by omega)) (fun hc60 => ?_)
          refine lv_aload_n hx hb d_M_prepare_63 rfl (lv_at hl 2 rfl) ?_
          refine va_get (D := D) (ci := 5) (v := .ref (md 10)) (C := R_M) (T := T_M) (N := 23) hx hb htb in_M hown hK hP 0 rfl rfl 15 (by decide) (htb _ tb_603) (fun _ h9 => h9) rfl d_M_prepare_64 ?_
          refine lv_iload hx hb d_M_prepare_67 (lv_at hl 0 rfl) ?_
          refine lv_aload_n hx hb d_M_prepare_69 rfl (lv_at hl 2 rfl) ?_
          refine lv_iload hx hb d_M_prepare_70 (lv_at hl 0 rfl) ?_
          refine eh_cMV (As := [.int (eI ((j : Nat) : Int))]) (rest := [.int (eI ((j : Nat) : Int)), .ref (md 10)]) (q := (R_M, T_M, 23)) (wr := [((md 9), aL cL 7 su), ((md 10), aL cL 6 de), ((md 11), aL cL 42 fw0), ((md 12), aI cI 42 cs0)]) hx hb hml hown htb hN (m_M_wanted l D cI cL cZ md co n sh ra up9 lw9 kn fo sc ln cb th pl lo pr la cu cl fu fl ys yl yp j (by omega) hM) 1 ⟨tb_773, tb_775, ts_41, tb_7, kin_M_wanted⟩ dv_M_wanted ⟨by rw [hR1]; decide, by rw [hR2]; decide⟩ hK hP hD hS hA 0 rfl rfl [0, 1, 2, 3, 4, 5, 6, 7, 8] [9, 10, 11, 12] rfl rfl (by decide) rfl (by decide) (by decide) [0, 1, 2] rfl rfl rfl hl.1 (Nat.le_of_ble_eq_true rfl) d_M_prepare_72 ⟨Nat.zero_le _, Nat.zero_le _⟩ (fun u H locs hu hP hD hS => ?_)
          obtain ⟨up1, lw1⟩ := u
          have hP := hP.sub (ws' := [((md 0), .inr (5, [.int (eI co), .int (eI ((n : Nat) : Int)), .ref (md 1), .ref (md 2), .ref (md 3), .int (eI sh), .int (eI ra), .ref (md 4), .ref (md 5), .ref (md 6), .ref (md 7), .ref (md 8), .long (eL up1), .long (eL lw1), .ref (md 9), .ref (md 10), .ref (md 11), .ref (md 12), .ref (md 13), .ref (md 14), .ref (md 15), .int (eI kn), .int (eI fo)])), ((md 1), aI cI 25 sc), ((md 2), aI cI 4 ln), ((md 3), aI cZ 4 cb), ((md 4), aI cZ 3 th), ((md 5), aI cI 3 pl), ((md 6), aI cI 3 lo), ((md 7), aI cI 3 pr), ((md 8), aI cI 30 la), ((md 9), aL cL 7 su), ((md 10), aL cL 6 de), ((md 11), aL cL 42 fw0), ((md 12), aI cI 42 cs0)]) [4, 5, 6, 7, 8, 9, 10, 11, 12, 0, 1, 2, 3] rfl
          have hD := hD.sub (ws' := [((md 0), .inr (5, [.int (eI co), .int (eI ((n : Nat) : Int)), .ref (md 1), .ref (md 2), .ref (md 3), .int (eI sh), .int (eI ra), .ref (md 4), .ref (md 5), .ref (md 6), .ref (md 7), .ref (md 8), .long (eL up1), .long (eL lw1), .ref (md 9), .ref (md 10), .ref (md 11), .ref (md 12), .ref (md 13), .ref (md 14), .ref (md 15), .int (eI kn), .int (eI fo)])), ((md 1), aI cI 25 sc), ((md 2), aI cI 4 ln), ((md 3), aI cZ 4 cb), ((md 4), aI cZ 3 th), ((md 5), aI cI 3 pl), ((md 6), aI cI 3 lo), ((md 7), aI cI 3 pr), ((md 8), aI cI 30 la), ((md 9), aL cL 7 su), ((md 10), aL cL 6 de), ((md 11), aL cL 42 fw0), ((md 12), aI cI 42 cs0)]) [4, 5, 6, 7, 8, 9, 10, 11, 12, 0, 1, 2, 3] (by decide) rfl
          refine lv_iload hx hb d_M_prepare_75 (lv_at hl 0 rfl) ?_
          refine lv_iload_n hx hb d_M_prepare_77 rfl (lv_at hl 4 rfl) ?_
          refine we_icmp_ne (tgt := 85) hx hb (by constructor <;> omega) (by constructor <;> omega) d_M_prepare_78 rfl (fun hc78 => ?_) (fun hc78 => ?_)
          ·
            refine lv_iconst (v := eI 0) hx hb d_M_prepare_85 rfl ?_
            refine we_iadd hx hb d_M_prepare_86 ?_
            refine we_i2l hx hb (by constructor <;> omega) d_M_prepare_87 ?_
            refine we_last hx hb hK hP hD hS 10 1 rfl rfl j rfl (by omega) (by decide) d_M_prepare_88 (fun H locs hP hD hS => ?_)
            have hP : va_P D classes [((md 0), .inr (5, [.int (eI co), .int (eI ((n : Nat) : Int)), .ref (md 1), .ref (md 2), .ref (md 3), .int (eI sh), .int (eI ra), .ref (md 4), .ref (md 5), .ref (md 6), .ref (md 7), .ref (md 8), .long (eL up1), .long (eL lw1), .ref (md 9), .ref (md 10), .ref (md 11), .ref (md 12), .ref (md 13), .ref (md 14), .ref (md 15), .int (eI kn), .int (eI fo)])), ((md 1), aI cI 25 sc), ((md 2), aI cI 4 ln), ((md 3), aI cZ 4 cb), ((md 4), aI cZ 3 th), ((md 5), aI cI 3 pl), ((md 6), aI cI 3 lo), ((md 7), aI cI 3 pr), ((md 8), aI cI 30 la), ((md 9), aL cL 7 su), ((md 10), aL cL 6 (eh_upd de j ((eh_wn n ln fu fl yl j) + 0))), ((md 11), aL cL 42 fw0), ((md 12), aI cI 42 cs0)] H := hP
            have hD : va_D A [((md 0), .inr (5, [.int (eI co), .int (eI ((n : Nat) : Int)), .ref (md 1), .ref (md 2), .ref (md 3), .int (eI sh), .int (eI ra), .ref (md 4), .ref (md 5), .ref (md 6), .ref (md 7), .ref (md 8), .long (eL up1), .long (eL lw1), .ref (md 9), .ref (md 10), .ref (md 11), .ref (md 12), .ref (md 13), .ref (md 14), .ref (md 15), .int (eI kn), .int (eI fo)])), ((md 1), aI cI 25 sc), ((md 2), aI cI 4 ln), ((md 3), aI cZ 4 cb), ((md 4), aI cZ 3 th), ((md 5), aI cI 3 pl), ((md 6), aI cI 3 lo), ((md 7), aI cI 3 pr), ((md 8), aI cI 30 la), ((md 9), aL cL 7 su), ((md 10), aL cL 6 (eh_upd de j ((eh_wn n ln fu fl yl j) + 0))), ((md 11), aL cL 42 fw0), ((md 12), aI cI 42 cs0)] := hD
            refine lv_lload_n hx hb d_M_prepare_89 rfl (lv_at hl 1 rfl) ?_
            refine lv_aload_n hx hb d_M_prepare_90 rfl (lv_at hl 2 rfl) ?_
            refine va_get (D := D) (ci := 5) (v := .ref (md 10)) (C := R_M) (T := T_M) (N := 23) hx hb htb in_M hown hK hP 0 rfl rfl 15 (by decide) (htb _ tb_603) (fun _ h9 => h9) rfl d_M_prepare_91 ?_
            refine lv_iload hx hb d_M_prepare_94 (lv_at hl 0 rfl) ?_
            refine we_lald hx hb hK hP 10 1 rfl rfl j rfl (by omega) (by decide) d_M_prepare_96 ?_
            refine we_lsub hx hb d_M_prepare_97 ?_
            refine lv_lstore_n hx hb d_M_prepare_98 rfl hl (by decide) rfl (fun ls hl => ?_)
            have hl : lv_has ls 10 [(3, .long (eL ((eh_sm (eh_pA n sh ln cu cl yl so) 6 - eh_sm (eh_pB n ln fu fl yl si) j) - ((eh_upd de j ((eh_wn n ln fu fl yl j) + 0)) j)))), (5, .int (eI ((j : Nat) : Int))), (0, .ref (md 0)), (1, .int (eI so)), (2, .int (eI si))] := hl
            refine lv_iinc (v := eI (((j : Nat) : Int) + 1)) hx hb d_M_prepare_99 hl (k := 1) rfl (eI_add _ _) (by decide) rfl (fun ls hl => ?_)
            have hl : lv_has ls 10 [(5, .int (eI (((j : Nat) : Int) + 1))), (3, .long (eL ((eh_sm (eh_pA n sh ln cu cl yl so) 6 - eh_sm (eh_pB n ln fu fl yl si) j) - ((eh_upd de j ((eh_wn n ln fu fl yl j) + 0)) j)))), (0, .ref (md 0)), (1, .int (eI so)), (2, .int (eI si))] := hl
            refine lv_goto (tgt := 57) hx hb d_M_prepare_102 rfl ?_
            have hai : (eh_pB n ln fu fl yl si) j = eh_wn n ln fu fl yl j + 0 := by unfold eh_pB; rw [if_neg hc78]
            have hs9 : ((eh_sm (eh_pA n sh ln cu cl yl so) 6 - eh_sm (eh_pB n ln fu fl yl si) j) - ((eh_upd de j ((eh_wn n ln fu fl yl j) + 0)) j)) = eh_sm (eh_pA n sh ln cu cl yl so) 6 - eh_sm (eh_pB n ln fu fl yl si) (j + 1) := by
              show _ = eh_sm (eh_pA n sh ln cu cl yl so) 6 - (eh_sm (eh_pB n ln fu fl yl si) j + (eh_pB n ln fu fl yl si) j)
              rw [eh_upd_s, hai]; omega
            rw [hs9] at hl
            exact ih (j + 1) up1 lw1 (eh_upd de j ((eh_wn n ln fu fl yl j) + 0)) H locs ls (by omega) (by omega) (fun k hk => by
              by_cases w : k = j
              · rw [w, eh_upd_s, hai]
              · rw [eh_upd_n _ _ w]; exact hde k (by omega)) (lv_sub hl [0, 1, 2, 3, 4] rfl) hP hD hS
          ·
            refine lv_iconst (v := eI 1) hx hb d_M_prepare_81 rfl ?_
            refine lv_goto (tgt := 86) hx hb d_M_prepare_82 rfl ?_
            refine we_iadd hx hb d_M_prepare_86 ?_
            refine we_i2l hx hb (by constructor <;> omega) d_M_prepare_87 ?_
            refine we_last hx hb hK hP hD hS 10 1 rfl rfl j rfl (by omega) (by decide) d_M_prepare_88 (fun H locs hP hD hS => ?_)
            have hP : va_P D classes [((md 0), .inr (5, [.int (eI co), .int (eI ((n : Nat) : Int)), .ref (md 1), .ref (md 2), .ref (md 3), .int (eI sh), .int (eI ra), .ref (md 4), .ref (md 5), .ref (md 6), .ref (md 7), .ref (md 8), .long (eL up1), .long (eL lw1), .ref (md 9), .ref (md 10), .ref (md 11), .ref (md 12), .ref (md 13), .ref (md 14), .ref (md 15), .int (eI kn), .int (eI fo)])), ((md 1), aI cI 25 sc), ((md 2), aI cI 4 ln), ((md 3), aI cZ 4 cb), ((md 4), aI cZ 3 th), ((md 5), aI cI 3 pl), ((md 6), aI cI 3 lo), ((md 7), aI cI 3 pr), ((md 8), aI cI 30 la), ((md 9), aL cL 7 su), ((md 10), aL cL 6 (eh_upd de j ((eh_wn n ln fu fl yl j) + 1))), ((md 11), aL cL 42 fw0), ((md 12), aI cI 42 cs0)] H := hP
            have hD : va_D A [((md 0), .inr (5, [.int (eI co), .int (eI ((n : Nat) : Int)), .ref (md 1), .ref (md 2), .ref (md 3), .int (eI sh), .int (eI ra), .ref (md 4), .ref (md 5), .ref (md 6), .ref (md 7), .ref (md 8), .long (eL up1), .long (eL lw1), .ref (md 9), .ref (md 10), .ref (md 11), .ref (md 12), .ref (md 13), .ref (md 14), .ref (md 15), .int (eI kn), .int (eI fo)])), ((md 1), aI cI 25 sc), ((md 2), aI cI 4 ln), ((md 3), aI cZ 4 cb), ((md 4), aI cZ 3 th), ((md 5), aI cI 3 pl), ((md 6), aI cI 3 lo), ((md 7), aI cI 3 pr), ((md 8), aI cI 30 la), ((md 9), aL cL 7 su), ((md 10), aL cL 6 (eh_upd de j ((eh_wn n ln fu fl yl j) + 1))), ((md 11), aL cL 42 fw0), ((md 12), aI cI 42 cs0)] := hD
            refine lv_lload_n hx hb d_M_prepare_89 rfl (lv_at hl 1 rfl) ?_
            refine lv_aload_n hx hb d_M_prepare_90 rfl (lv_at hl 2 rfl) ?_
            refine va_get (D := D) (ci := 5) (v := .ref (md 10)) (C := R_M) (T := T_M) (N := 23) hx hb htb in_M hown hK hP 0 rfl rfl 15 (by decide) (htb _ tb_603) (fun _ h9 => h9) rfl d_M_prepare_91 ?_
            refine lv_iload hx hb d_M_prepare_94 (lv_at hl 0 rfl) ?_
            refine we_lald hx hb hK hP 10 1 rfl rfl j rfl (by omega) (by decide) d_M_prepare_96 ?_
            refine we_lsub hx hb d_M_prepare_97 ?_
            refine lv_lstore_n hx hb d_M_prepare_98 rfl hl (by decide) rfl (fun ls hl => ?_)
            have hl : lv_has ls 10 [(3, .long (eL ((eh_sm (eh_pA n sh ln cu cl yl so) 6 - eh_sm (eh_pB n ln fu fl yl si) j) - ((eh_upd de j ((eh_wn n ln fu fl yl j) + 1)) j)))), (5, .int (eI ((j : Nat) : Int))), (0, .ref (md 0)), (1, .int (eI so)), (2, .int (eI si))] := hl
            refine lv_iinc (v := eI (((j : Nat) : Int) + 1)) hx hb d_M_prepare_99 hl (k := 1) rfl (eI_add _ _) (by decide) rfl (fun ls hl => ?_)
            have hl : lv_has ls 10 [(5, .int (eI (((j : Nat) : Int) + 1))), (3, .long (eL ((eh_sm (eh_pA n sh ln cu cl yl so) 6 - eh_sm (eh_pB n ln fu fl yl si) j) - ((eh_upd de j ((eh_wn n ln fu fl yl j) + 1)) j)))), (0, .ref (md 0)), (1, .int (eI so)), (2, .int (eI si))] := hl
            refine lv_goto (tgt := 57) hx hb d_M_prepare_102 rfl ?_
            have hai : (eh_pB n ln fu fl yl si) j = eh_wn n ln fu fl yl j + 1 := by unfold eh_pB; rw [if_pos (by omega)]
            have hs9 : ((eh_sm (eh_pA n sh ln cu cl yl so) 6 - eh_sm (eh_pB n ln fu fl yl si) j) - ((eh_upd de j ((eh_wn n ln fu fl yl j) + 1)) j)) = eh_sm (eh_pA n sh ln cu cl yl so) 6 - eh_sm (eh_pB n ln fu fl yl si) (j + 1) := by
              show _ = eh_sm (eh_pA n sh ln cu cl yl so) 6 - (eh_sm (eh_pB n ln fu fl yl si) j + (eh_pB n ln fu fl yl si) j)
              rw [eh_upd_s, hai]; omega
            rw [hs9] at hl
            exact ih (j + 1) up1 lw1 (eh_upd de j ((eh_wn n ln fu fl yl j) + 1)) H locs ls (by omega) (by omega) (fun k hk => by
              by_cases w : k = j
              · rw [w, eh_upd_s, hai]
              · rw [eh_upd_n _ _ w]; exact hde k (by omega)) (lv_sub hl [0, 1, 2, 3, 4] rfl) hP hD hS
      exact l2 5 0 up9 lw9 de0 H locs ls (by omega) (by omega) (fun k hk => by omega) (by rw [show eh_sm (eh_pA n sh ln cu cl yl so) 6 = eh_sm (eh_pA n sh ln cu cl yl so) 6 - eh_sm (eh_pB n ln fu fl yl si) 0 by show _ = _ - (0 : Int); omega] at hl; exact lv_sub hl [0, 1, 2, 3, 4] rfl) hP hD hS
    | succ q ih =>
      intro i up9 lw9 su H locs ls hq hi hsu hl hP hD hS
      have hgb := eh_gv_b hE (show i < 6 by omega)
      have hsb := eh_sm_bd (f := (eh_pA n sh ln cu cl yl so)) (n := i) (b := 100000001) (fun k hk => eh_pA_b hE so (by omega))
      refine lv_iload hx hb d_M_prepare_5 (lv_at hl 0 rfl) ?_
      refine lv_bipush (v := eI 6) hx hb d_M_prepare_7 (by decide) ?_
      refine we_icmp_ge (tgt := 54) hx hb (by constructor <;> omega) (by constructor <;> omega) d_M_prepare_9 rfl (fun hc9 => absurd hc9 (by omega)) (fun hc9 => ?_)
      refine lv_aload_n hx hb d_M_prepare_12 rfl (lv_at hl 2 rfl) ?_
      refine va_get (D := D) (ci := 5) (v := .ref (md 9)) (C := R_M) (T := T_M) (N := 23) hx hb htb in_M hown hK hP 0 rfl rfl 14 (by decide) (htb _ tb_602) (fun _ h9 => h9) rfl d_M_prepare_13 ?_
      refine lv_iload hx hb d_M_prepare_16 (lv_at hl 0 rfl) ?_
      refine lv_aload_n hx hb d_M_prepare_18 rfl (lv_at hl 2 rfl) ?_
      refine lv_iload hx hb d_M_prepare_19 (lv_at hl 0 rfl) ?_
      refine eh_cMV (As := [.int (eI ((i : Nat) : Int))]) (rest := [.int (eI ((i : Nat) : Int)), .ref (md 9)]) (q := (R_M, T_M, 23)) (wr := [((md 9), aL cL 7 su), ((md 10), aL cL 6 de0), ((md 11), aL cL 42 fw0), ((md 12), aI cI 42 cs0)]) hx hb hml hown htb hN (m_M_given l D cI cL cZ md co n sh ra up9 lw9 kn fo sc ln cb th pl lo pr la cu cl fu fl ys yl yp i (by omega) hM) 1 ⟨tb_769, tb_771, ts_40, tb_7, kin_M_given⟩ dv_M_given ⟨by rw [hR1]; decide, by rw [hR2]; decide⟩ hK hP hD hS hA 0 rfl rfl [0, 1, 2, 3, 4, 5, 6, 7, 8] [9, 10, 11, 12] rfl rfl (by decide) rfl (by decide) (by decide) [0, 1, 2] rfl rfl rfl hl.1 (Nat.le_of_ble_eq_true rfl) d_M_prepare_21 ⟨Nat.zero_le _, Nat.zero_le _⟩ (fun u H locs hu hP hD hS => ?_)
      obtain ⟨up2, lw2⟩ := u
      have hP := hP.sub (ws' := [((md 0), .inr (5, [.int (eI co), .int (eI ((n : Nat) : Int)), .ref (md 1), .ref (md 2), .ref (md 3), .int (eI sh), .int (eI ra), .ref (md 4), .ref (md 5), .ref (md 6), .ref (md 7), .ref (md 8), .long (eL up2), .long (eL lw2), .ref (md 9), .ref (md 10), .ref (md 11), .ref (md 12), .ref (md 13), .ref (md 14), .ref (md 15), .int (eI kn), .int (eI fo)])), ((md 1), aI cI 25 sc), ((md 2), aI cI 4 ln), ((md 3), aI cZ 4 cb), ((md 4), aI cZ 3 th), ((md 5), aI cI 3 pl), ((md 6), aI cI 3 lo), ((md 7), aI cI 3 pr), ((md 8), aI cI 30 la), ((md 9), aL cL 7 su), ((md 10), aL cL 6 de0), ((md 11), aL cL 42 fw0), ((md 12), aI cI 42 cs0)]) [4, 5, 6, 7, 8, 9, 10, 11, 12, 0, 1, 2, 3] rfl
      have hD := hD.sub (ws' := [((md 0), .inr (5, [.int (eI co), .int (eI ((n : Nat) : Int)), .ref (md 1), .ref (md 2), .ref (md 3), .int (eI sh), .int (eI ra), .ref (md 4), .ref (md 5), .ref (md 6), .ref (md 7), .ref (md 8), .long (eL up2), .long (eL lw2), .ref (md 9), .ref (md 10), .ref (md 11), .ref (md 12), .ref (md 13), .ref (md 14), .ref (md 15), .int (eI kn), .int (eI fo)])), ((md 1), aI cI 25 sc), ((md 2), aI cI 4 ln), ((md 3), aI cZ 4 cb), ((md 4), aI cZ 3 th), ((md 5), aI cI 3 pl), ((md 6), aI cI 3 lo), ((md 7), aI cI 3 pr), ((md 8), aI cI 30 la), ((md 9), aL cL 7 su), ((md 10), aL cL 6 de0), ((md 11), aL cL 42 fw0), ((md 12), aI cI 42 cs0)]) [4, 5, 6, 7, 8, 9, 10, 11, 12, 0, 1, 2, 3] (by decide) rfl
      refine lv_iload hx hb d_M_prepare_24 (lv_at hl 0 rfl) ?_
      refine lv_iload_n hx hb d_M_prepare_26 rfl (lv_at hl 3 rfl) ?_
      refine we_icmp_ne (tgt := 34) hx hb (by constructor <;> omega) (by constructor <;> omega) d_M_prepare_27 rfl (fun hc27 => ?_) (fun hc27 => ?_)
      ·
        refine lv_iconst (v := eI 0) hx hb d_M_prepare_34 rfl ?_
        refine we_iadd hx hb d_M_prepare_35 ?_
        refine we_i2l hx hb (by constructor <;> omega) d_M_prepare_36 ?_
        refine we_last hx hb hK hP hD hS 9 1 rfl rfl i rfl (by omega) (by decide) d_M_prepare_37 (fun H locs hP hD hS => ?_)
        have hP : va_P D classes [((md 0), .inr (5, [.int (eI co), .int (eI ((n : Nat) : Int)), .ref (md 1), .ref (md 2), .ref (md 3), .int (eI sh), .int (eI ra), .ref (md 4), .ref (md 5), .ref (md 6), .ref (md 7), .ref (md 8), .long (eL up2), .long (eL lw2), .ref (md 9), .ref (md 10), .ref (md 11), .ref (md 12), .ref (md 13), .ref (md 14), .ref (md 15), .int (eI kn), .int (eI fo)])), ((md 1), aI cI 25 sc), ((md 2), aI cI 4 ln), ((md 3), aI cZ 4 cb), ((md 4), aI cZ 3 th), ((md 5), aI cI 3 pl), ((md 6), aI cI 3 lo), ((md 7), aI cI 3 pr), ((md 8), aI cI 30 la), ((md 9), aL cL 7 (eh_upd su i ((eh_gv n sh ln cu cl yl i) + 0))), ((md 10), aL cL 6 de0), ((md 11), aL cL 42 fw0), ((md 12), aI cI 42 cs0)] H := hP
        have hD : va_D A [((md 0), .inr (5, [.int (eI co), .int (eI ((n : Nat) : Int)), .ref (md 1), .ref (md 2), .ref (md 3), .int (eI sh), .int (eI ra), .ref (md 4), .ref (md 5), .ref (md 6), .ref (md 7), .ref (md 8), .long (eL up2), .long (eL lw2), .ref (md 9), .ref (md 10), .ref (md 11), .ref (md 12), .ref (md 13), .ref (md 14), .ref (md 15), .int (eI kn), .int (eI fo)])), ((md 1), aI cI 25 sc), ((md 2), aI cI 4 ln), ((md 3), aI cZ 4 cb), ((md 4), aI cZ 3 th), ((md 5), aI cI 3 pl), ((md 6), aI cI 3 lo), ((md 7), aI cI 3 pr), ((md 8), aI cI 30 la), ((md 9), aL cL 7 (eh_upd su i ((eh_gv n sh ln cu cl yl i) + 0))), ((md 10), aL cL 6 de0), ((md 11), aL cL 42 fw0), ((md 12), aI cI 42 cs0)] := hD
        refine lv_lload_n hx hb d_M_prepare_38 rfl (lv_at hl 1 rfl) ?_
        refine lv_aload_n hx hb d_M_prepare_39 rfl (lv_at hl 2 rfl) ?_
        refine va_get (D := D) (ci := 5) (v := .ref (md 9)) (C := R_M) (T := T_M) (N := 23) hx hb htb in_M hown hK hP 0 rfl rfl 14 (by decide) (htb _ tb_602) (fun _ h9 => h9) rfl d_M_prepare_40 ?_
        refine lv_iload hx hb d_M_prepare_43 (lv_at hl 0 rfl) ?_
        refine we_lald hx hb hK hP 9 1 rfl rfl i rfl (by omega) (by decide) d_M_prepare_45 ?_
        refine we_ladd hx hb d_M_prepare_46 ?_
        refine lv_lstore_n hx hb d_M_prepare_47 rfl hl (by decide) rfl (fun ls hl => ?_)
        have hl : lv_has ls 10 [(3, .long (eL ((eh_sm (eh_pA n sh ln cu cl yl so) i) + ((eh_upd su i ((eh_gv n sh ln cu cl yl i) + 0)) i)))), (5, .int (eI ((i : Nat) : Int))), (0, .ref (md 0)), (1, .int (eI so)), (2, .int (eI si))] := hl
        refine lv_iinc (v := eI (((i : Nat) : Int) + 1)) hx hb d_M_prepare_48 hl (k := 1) rfl (eI_add _ _) (by decide) rfl (fun ls hl => ?_)
        have hl : lv_has ls 10 [(5, .int (eI (((i : Nat) : Int) + 1))), (3, .long (eL ((eh_sm (eh_pA n sh ln cu cl yl so) i) + ((eh_upd su i ((eh_gv n sh ln cu cl yl i) + 0)) i)))), (0, .ref (md 0)), (1, .int (eI so)), (2, .int (eI si))] := hl
        refine lv_goto (tgt := 5) hx hb d_M_prepare_51 rfl ?_
        have hai : (eh_pA n sh ln cu cl yl so) i = eh_gv n sh ln cu cl yl i + 0 := by unfold eh_pA; rw [if_neg hc27]
        have hs9 : ((eh_sm (eh_pA n sh ln cu cl yl so) i) + ((eh_upd su i ((eh_gv n sh ln cu cl yl i) + 0)) i)) = eh_sm (eh_pA n sh ln cu cl yl so) (i + 1) := by
          show _ = eh_sm (eh_pA n sh ln cu cl yl so) i + (eh_pA n sh ln cu cl yl so) i
          rw [eh_upd_s, hai]
        rw [hs9] at hl
        exact ih (i + 1) up2 lw2 (eh_upd su i ((eh_gv n sh ln cu cl yl i) + 0)) H locs ls (by omega) (by omega) (fun k hk => by
          by_cases w : k = i
          · rw [w, eh_upd_s, hai]
          · rw [eh_upd_n _ _ w]; exact hsu k (by omega)) (lv_sub hl [0, 1, 2, 3, 4] rfl) hP hD hS
      ·
        refine lv_iconst (v := eI 1) hx hb d_M_prepare_30 rfl ?_
        refine lv_goto (tgt := 35) hx hb d_M_prepare_31 rfl ?_
        refine we_iadd hx hb d_M_prepare_35 ?_
        refine we_i2l hx hb (by constructor <;> omega) d_M_prepare_36 ?_
        refine we_last hx hb hK hP hD hS 9 1 rfl rfl i rfl (by omega) (by decide) d_M_prepare_37 (fun H locs hP hD hS => ?_)
        have hP : va_P D classes [((md 0), .inr (5, [.int (eI co), .int (eI ((n : Nat) : Int)), .ref (md 1), .ref (md 2), .ref (md 3), .int (eI sh), .int (eI ra), .ref (md 4), .ref (md 5), .ref (md 6), .ref (md 7), .ref (md 8), .long (eL up2), .long (eL lw2), .ref (md 9), .ref (md 10), .ref (md 11), .ref (md 12), .ref (md 13), .ref (md 14), .ref (md 15), .int (eI kn), .int (eI fo)])), ((md 1), aI cI 25 sc), ((md 2), aI cI 4 ln), ((md 3), aI cZ 4 cb), ((md 4), aI cZ 3 th), ((md 5), aI cI 3 pl), ((md 6), aI cI 3 lo), ((md 7), aI cI 3 pr), ((md 8), aI cI 30 la), ((md 9), aL cL 7 (eh_upd su i ((eh_gv n sh ln cu cl yl i) + 1))), ((md 10), aL cL 6 de0), ((md 11), aL cL 42 fw0), ((md 12), aI cI 42 cs0)] H := hP
        have hD : va_D A [((md 0), .inr (5, [.int (eI co), .int (eI ((n : Nat) : Int)), .ref (md 1), .ref (md 2), .ref (md 3), .int (eI sh), .int (eI ra), .ref (md 4), .ref (md 5), .ref (md 6), .ref (md 7), .ref (md 8), .long (eL up2), .long (eL lw2), .ref (md 9), .ref (md 10), .ref (md 11), .ref (md 12), .ref (md 13), .ref (md 14), .ref (md 15), .int (eI kn), .int (eI fo)])), ((md 1), aI cI 25 sc), ((md 2), aI cI 4 ln), ((md 3), aI cZ 4 cb), ((md 4), aI cZ 3 th), ((md 5), aI cI 3 pl), ((md 6), aI cI 3 lo), ((md 7), aI cI 3 pr), ((md 8), aI cI 30 la), ((md 9), aL cL 7 (eh_upd su i ((eh_gv n sh ln cu cl yl i) + 1))), ((md 10), aL cL 6 de0), ((md 11), aL cL 42 fw0), ((md 12), aI cI 42 cs0)] := hD
        refine lv_lload_n hx hb d_M_prepare_38 rfl (lv_at hl 1 rfl) ?_
        refine lv_aload_n hx hb d_M_prepare_39 rfl (lv_at hl 2 rfl) ?_
        refine va_get (D := D) (ci := 5) (v := .ref (md 9)) (C := R_M) (T := T_M) (N := 23) hx hb htb in_M hown hK hP 0 rfl rfl 14 (by decide) (htb _ tb_602) (fun _ h9 => h9) rfl d_M_prepare_40 ?_
        refine lv_iload hx hb d_M_prepare_43 (lv_at hl 0 rfl) ?_
        refine we_lald hx hb hK hP 9 1 rfl rfl i rfl (by omega) (by decide) d_M_prepare_45 ?_
        refine we_ladd hx hb d_M_prepare_46 ?_
        refine lv_lstore_n hx hb d_M_prepare_47 rfl hl (by decide) rfl (fun ls hl => ?_)
        have hl : lv_has ls 10 [(3, .long (eL ((eh_sm (eh_pA n sh ln cu cl yl so) i) + ((eh_upd su i ((eh_gv n sh ln cu cl yl i) + 1)) i)))), (5, .int (eI ((i : Nat) : Int))), (0, .ref (md 0)), (1, .int (eI so)), (2, .int (eI si))] := hl
        refine lv_iinc (v := eI (((i : Nat) : Int) + 1)) hx hb d_M_prepare_48 hl (k := 1) rfl (eI_add _ _) (by decide) rfl (fun ls hl => ?_)
        have hl : lv_has ls 10 [(5, .int (eI (((i : Nat) : Int) + 1))), (3, .long (eL ((eh_sm (eh_pA n sh ln cu cl yl so) i) + ((eh_upd su i ((eh_gv n sh ln cu cl yl i) + 1)) i)))), (0, .ref (md 0)), (1, .int (eI so)), (2, .int (eI si))] := hl
        refine lv_goto (tgt := 5) hx hb d_M_prepare_51 rfl ?_
        have hai : (eh_pA n sh ln cu cl yl so) i = eh_gv n sh ln cu cl yl i + 1 := by unfold eh_pA; rw [if_pos (by omega)]
        have hs9 : ((eh_sm (eh_pA n sh ln cu cl yl so) i) + ((eh_upd su i ((eh_gv n sh ln cu cl yl i) + 1)) i)) = eh_sm (eh_pA n sh ln cu cl yl so) (i + 1) := by
          show _ = eh_sm (eh_pA n sh ln cu cl yl so) i + (eh_pA n sh ln cu cl yl so) i
          rw [eh_upd_s, hai]
        rw [hs9] at hl
        exact ih (i + 1) up2 lw2 (eh_upd su i ((eh_gv n sh ln cu cl yl i) + 1)) H locs ls (by omega) (by omega) (fun k hk => by
          by_cases w : k = i
          · rw [w, eh_upd_s, hai]
          · rw [eh_upd_n _ _ w]; exact hsu k (by omega)) (lv_sub hl [0, 1, 2, 3, 4] rfl) hP hD hS
  exact l1 6 0 up lw su0 s.heap [] ls (by omega) (by omega) (fun k hk => by omega) (lv_sub hl [0, 1, 2, 3, 4] rfl) hP hD hS
