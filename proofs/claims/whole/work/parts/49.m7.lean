abbrev c_M_better : ByteArray := prog_7_method_35_code
def y_M_better : MethodName := ⟨"EarthHaulsModel", "better", "()Z"⟩
abbrev k_M_better : Cond := .code y_M_better c_M_better 8 (some .boolean)
theorem kin_M_better : k_M_better ∈ ew_t := tb_793
theorem dv_M_better : eh_dV y_M_better "EarthHaulsModel" 0 := ⟨rfl, by decide, by decide, by decide +kernel⟩
theorem d_M_better_0 : decode c_M_better 0 = .ok (.iconst 0, 1) := by decide +kernel
theorem d_M_better_1 : decode c_M_better 1 = .ok (.istore_n 1, 1) := by decide +kernel
theorem d_M_better_2 : decode c_M_better 2 = .ok (.iload_n 1, 1) := by decide +kernel
theorem d_M_better_3 : decode c_M_better 3 = .ok (.bipush 13, 2) := by decide +kernel
theorem d_M_better_5 : decode c_M_better 5 = .ok (.if_icmp .ge 30, 3) := by decide +kernel
theorem d_M_better_8 : decode c_M_better 8 = .ok (.aload_n 0, 1) := by decide +kernel
theorem d_M_better_9 : decode c_M_better 9 = .ok (.getfield 55, 3) := by decide +kernel
theorem d_M_better_12 : decode c_M_better 12 = .ok (.iload_n 1, 1) := by decide +kernel
theorem d_M_better_13 : decode c_M_better 13 = .ok (.lconst 0, 1) := by decide +kernel
theorem d_M_better_14 : decode c_M_better 14 = .ok (.lastore, 1) := by decide +kernel
theorem d_M_better_15 : decode c_M_better 15 = .ok (.aload_n 0, 1) := by decide +kernel
theorem d_M_better_16 : decode c_M_better 16 = .ok (.getfield 58, 3) := by decide +kernel
theorem d_M_better_19 : decode c_M_better 19 = .ok (.iload_n 1, 1) := by decide +kernel
theorem d_M_better_20 : decode c_M_better 20 = .ok (.lconst 0, 1) := by decide +kernel
theorem d_M_better_21 : decode c_M_better 21 = .ok (.lastore, 1) := by decide +kernel
theorem d_M_better_22 : decode c_M_better 22 = .ok (.aload_n 0, 1) := by decide +kernel
theorem d_M_better_23 : decode c_M_better 23 = .ok (.getfield 61, 3) := by decide +kernel
theorem d_M_better_26 : decode c_M_better 26 = .ok (.iload_n 1, 1) := by decide +kernel
theorem d_M_better_27 : decode c_M_better 27 = .ok (.iconst (-1), 1) := by decide +kernel
theorem d_M_better_28 : decode c_M_better 28 = .ok (.iastore, 1) := by decide +kernel
theorem d_M_better_29 : decode c_M_better 29 = .ok (.iinc 1 1, 3) := by decide +kernel
theorem d_M_better_32 : decode c_M_better 32 = .ok (.goto (-30), 3) := by decide +kernel
theorem d_M_better_35 : decode c_M_better 35 = .ok (.iconst (-1), 1) := by decide +kernel
theorem d_M_better_36 : decode c_M_better 36 = .ok (.istore_n 1, 1) := by decide +kernel
theorem d_M_better_37 : decode c_M_better 37 = .ok (.iconst 0, 1) := by decide +kernel
theorem d_M_better_38 : decode c_M_better 38 = .ok (.istore_n 2, 1) := by decide +kernel
theorem d_M_better_39 : decode c_M_better 39 = .ok (.iload_n 2, 1) := by decide +kernel
theorem d_M_better_40 : decode c_M_better 40 = .ok (.bipush 14, 2) := by decide +kernel
theorem d_M_better_42 : decode c_M_better 42 = .ok (.if_icmp .ge 20, 3) := by decide +kernel
theorem d_M_better_45 : decode c_M_better 45 = .ok (.aload_n 0, 1) := by decide +kernel
theorem d_M_better_46 : decode c_M_better 46 = .ok (.invokevirtual 159, 3) := by decide +kernel
theorem d_M_better_49 : decode c_M_better 49 = .ok (.istore_n 1, 1) := by decide +kernel
theorem d_M_better_50 : decode c_M_better 50 = .ok (.iload_n 1, 1) := by decide +kernel
theorem d_M_better_51 : decode c_M_better 51 = .ok (.ifCond .ge 5, 3) := by decide +kernel
theorem d_M_better_54 : decode c_M_better 54 = .ok (.iconst 0, 1) := by decide +kernel
theorem d_M_better_55 : decode c_M_better 55 = .ok (.ireturn, 1) := by decide +kernel
theorem d_M_better_56 : decode c_M_better 56 = .ok (.iinc 2 1, 3) := by decide +kernel
theorem d_M_better_59 : decode c_M_better 59 = .ok (.goto (-20), 3) := by decide +kernel
theorem d_M_better_62 : decode c_M_better 62 = .ok (.iconst 0, 1) := by decide +kernel
theorem d_M_better_63 : decode c_M_better 63 = .ok (.istore_n 2, 1) := by decide +kernel
theorem d_M_better_64 : decode c_M_better 64 = .ok (.iload_n 2, 1) := by decide +kernel
theorem d_M_better_65 : decode c_M_better 65 = .ok (.bipush 13, 2) := by decide +kernel
theorem d_M_better_67 : decode c_M_better 67 = .ok (.if_icmp .ge 16, 3) := by decide +kernel
theorem d_M_better_70 : decode c_M_better 70 = .ok (.aload_n 0, 1) := by decide +kernel
theorem d_M_better_71 : decode c_M_better 71 = .ok (.getfield 61, 3) := by decide +kernel
theorem d_M_better_74 : decode c_M_better 74 = .ok (.iload_n 1, 1) := by decide +kernel
theorem d_M_better_75 : decode c_M_better 75 = .ok (.iaload, 1) := by decide +kernel
theorem d_M_better_76 : decode c_M_better 76 = .ok (.istore_n 1, 1) := by decide +kernel
theorem d_M_better_77 : decode c_M_better 77 = .ok (.iinc 2 1, 3) := by decide +kernel
theorem d_M_better_80 : decode c_M_better 80 = .ok (.goto (-16), 3) := by decide +kernel
theorem d_M_better_83 : decode c_M_better 83 = .ok (.ldc2_w 163, 3) := by decide +kernel
theorem d_M_better_86 : decode c_M_better 86 = .ok (.lstore_n 2, 1) := by decide +kernel
theorem d_M_better_87 : decode c_M_better 87 = .ok (.iload_n 1, 1) := by decide +kernel
theorem d_M_better_88 : decode c_M_better 88 = .ok (.istore 4, 2) := by decide +kernel
theorem d_M_better_90 : decode c_M_better 90 = .ok (.iconst 0, 1) := by decide +kernel
theorem d_M_better_91 : decode c_M_better 91 = .ok (.istore 5, 2) := by decide +kernel
theorem d_M_better_93 : decode c_M_better 93 = .ok (.iload 5, 2) := by decide +kernel
theorem d_M_better_95 : decode c_M_better 95 = .ok (.ifCond .ne 81, 3) := by decide +kernel
theorem d_M_better_98 : decode c_M_better 98 = .ok (.aload_n 0, 1) := by decide +kernel
theorem d_M_better_99 : decode c_M_better 99 = .ok (.getfield 61, 3) := by decide +kernel
theorem d_M_better_102 : decode c_M_better 102 = .ok (.iload 4, 2) := by decide +kernel
theorem d_M_better_104 : decode c_M_better 104 = .ok (.iaload, 1) := by decide +kernel
theorem d_M_better_105 : decode c_M_better 105 = .ok (.istore 6, 2) := by decide +kernel
theorem d_M_better_107 : decode c_M_better 107 = .ok (.iload 4, 2) := by decide +kernel
theorem d_M_better_109 : decode c_M_better 109 = .ok (.bipush 7, 2) := by decide +kernel
theorem d_M_better_111 : decode c_M_better 111 = .ok (.if_icmp .ge 45, 3) := by decide +kernel
theorem d_M_better_114 : decode c_M_better 114 = .ok (.aload_n 0, 1) := by decide +kernel
theorem d_M_better_115 : decode c_M_better 115 = .ok (.getfield 49, 3) := by decide +kernel
theorem d_M_better_118 : decode c_M_better 118 = .ok (.bipush 6, 2) := by decide +kernel
theorem d_M_better_120 : decode c_M_better 120 = .ok (.iload 4, 2) := by decide +kernel
theorem d_M_better_122 : decode c_M_better 122 = .ok (.imul, 1) := by decide +kernel
theorem d_M_better_123 : decode c_M_better 123 = .ok (.iload 6, 2) := by decide +kernel
theorem d_M_better_125 : decode c_M_better 125 = .ok (.iadd, 1) := by decide +kernel
theorem d_M_better_126 : decode c_M_better 126 = .ok (.bipush 7, 2) := by decide +kernel
theorem d_M_better_128 : decode c_M_better 128 = .ok (.isub, 1) := by decide +kernel
theorem d_M_better_129 : decode c_M_better 129 = .ok (.laload, 1) := by decide +kernel
theorem d_M_better_130 : decode c_M_better 130 = .ok (.lload_n 2, 1) := by decide +kernel
theorem d_M_better_131 : decode c_M_better 131 = .ok (.lcmp, 1) := by decide +kernel
theorem d_M_better_132 : decode c_M_better 132 = .ok (.ifCond .ge 22, 3) := by decide +kernel
theorem d_M_better_135 : decode c_M_better 135 = .ok (.aload_n 0, 1) := by decide +kernel
theorem d_M_better_136 : decode c_M_better 136 = .ok (.getfield 49, 3) := by decide +kernel
theorem d_M_better_139 : decode c_M_better 139 = .ok (.bipush 6, 2) := by decide +kernel
theorem d_M_better_141 : decode c_M_better 141 = .ok (.iload 4, 2) := by decide +kernel
theorem d_M_better_143 : decode c_M_better 143 = .ok (.imul, 1) := by decide +kernel
theorem d_M_better_144 : decode c_M_better 144 = .ok (.iload 6, 2) := by decide +kernel
theorem d_M_better_146 : decode c_M_better 146 = .ok (.iadd, 1) := by decide +kernel
theorem d_M_better_147 : decode c_M_better 147 = .ok (.bipush 7, 2) := by decide +kernel
theorem d_M_better_149 : decode c_M_better 149 = .ok (.isub, 1) := by decide +kernel
theorem d_M_better_150 : decode c_M_better 150 = .ok (.laload, 1) := by decide +kernel
theorem d_M_better_151 : decode c_M_better 151 = .ok (.goto 4, 3) := by decide +kernel
theorem d_M_better_154 : decode c_M_better 154 = .ok (.lload_n 2, 1) := by decide +kernel
theorem d_M_better_155 : decode c_M_better 155 = .ok (.lstore_n 2, 1) := by decide +kernel
theorem d_M_better_156 : decode c_M_better 156 = .ok (.iload 6, 2) := by decide +kernel
theorem d_M_better_158 : decode c_M_better 158 = .ok (.istore 4, 2) := by decide +kernel
theorem d_M_better_160 : decode c_M_better 160 = .ok (.iload 4, 2) := by decide +kernel
theorem d_M_better_162 : decode c_M_better 162 = .ok (.iload_n 1, 1) := by decide +kernel
theorem d_M_better_163 : decode c_M_better 163 = .ok (.if_icmp .ne 7, 3) := by decide +kernel
theorem d_M_better_166 : decode c_M_better 166 = .ok (.iconst 1, 1) := by decide +kernel
theorem d_M_better_167 : decode c_M_better 167 = .ok (.goto 4, 3) := by decide +kernel
theorem d_M_better_170 : decode c_M_better 170 = .ok (.iconst 0, 1) := by decide +kernel
theorem d_M_better_171 : decode c_M_better 171 = .ok (.istore 5, 2) := by decide +kernel
theorem d_M_better_173 : decode c_M_better 173 = .ok (.goto (-80), 3) := by decide +kernel
theorem d_M_better_176 : decode c_M_better 176 = .ok (.iconst 0, 1) := by decide +kernel
theorem d_M_better_177 : decode c_M_better 177 = .ok (.istore 5, 2) := by decide +kernel
theorem d_M_better_179 : decode c_M_better 179 = .ok (.iload 5, 2) := by decide +kernel
theorem d_M_better_181 : decode c_M_better 181 = .ok (.ifCond .ne 101, 3) := by decide +kernel
theorem d_M_better_184 : decode c_M_better 184 = .ok (.aload_n 0, 1) := by decide +kernel
theorem d_M_better_185 : decode c_M_better 185 = .ok (.getfield 61, 3) := by decide +kernel
theorem d_M_better_188 : decode c_M_better 188 = .ok (.iload 4, 2) := by decide +kernel
theorem d_M_better_190 : decode c_M_better 190 = .ok (.iaload, 1) := by decide +kernel
theorem d_M_better_191 : decode c_M_better 191 = .ok (.istore 6, 2) := by decide +kernel
theorem d_M_better_193 : decode c_M_better 193 = .ok (.iload 4, 2) := by decide +kernel
theorem d_M_better_195 : decode c_M_better 195 = .ok (.bipush 7, 2) := by decide +kernel
theorem d_M_better_197 : decode c_M_better 197 = .ok (.if_icmp .ge 17, 3) := by decide +kernel
theorem d_M_better_200 : decode c_M_better 200 = .ok (.bipush 6, 2) := by decide +kernel
theorem d_M_better_202 : decode c_M_better 202 = .ok (.iload 4, 2) := by decide +kernel
theorem d_M_better_204 : decode c_M_better 204 = .ok (.imul, 1) := by decide +kernel
theorem d_M_better_205 : decode c_M_better 205 = .ok (.iload 6, 2) := by decide +kernel
theorem d_M_better_207 : decode c_M_better 207 = .ok (.iadd, 1) := by decide +kernel
theorem d_M_better_208 : decode c_M_better 208 = .ok (.bipush 7, 2) := by decide +kernel
theorem d_M_better_210 : decode c_M_better 210 = .ok (.isub, 1) := by decide +kernel
theorem d_M_better_211 : decode c_M_better 211 = .ok (.goto 14, 3) := by decide +kernel
theorem d_M_better_214 : decode c_M_better 214 = .ok (.bipush 6, 2) := by decide +kernel
theorem d_M_better_216 : decode c_M_better 216 = .ok (.iload 6, 2) := by decide +kernel
theorem d_M_better_218 : decode c_M_better 218 = .ok (.imul, 1) := by decide +kernel
theorem d_M_better_219 : decode c_M_better 219 = .ok (.iload 4, 2) := by decide +kernel
theorem d_M_better_221 : decode c_M_better 221 = .ok (.iadd, 1) := by decide +kernel
theorem d_M_better_222 : decode c_M_better 222 = .ok (.bipush 7, 2) := by decide +kernel
theorem d_M_better_224 : decode c_M_better 224 = .ok (.isub, 1) := by decide +kernel
theorem d_M_better_225 : decode c_M_better 225 = .ok (.istore 7, 2) := by decide +kernel
theorem d_M_better_227 : decode c_M_better 227 = .ok (.aload_n 0, 1) := by decide +kernel
theorem d_M_better_228 : decode c_M_better 228 = .ok (.getfield 49, 3) := by decide +kernel
theorem d_M_better_231 : decode c_M_better 231 = .ok (.iload 7, 2) := by decide +kernel
theorem d_M_better_233 : decode c_M_better 233 = .ok (.iload 4, 2) := by decide +kernel
theorem d_M_better_235 : decode c_M_better 235 = .ok (.bipush 7, 2) := by decide +kernel
theorem d_M_better_237 : decode c_M_better 237 = .ok (.if_icmp .ge 15, 3) := by decide +kernel
theorem d_M_better_240 : decode c_M_better 240 = .ok (.aload_n 0, 1) := by decide +kernel
theorem d_M_better_241 : decode c_M_better 241 = .ok (.getfield 49, 3) := by decide +kernel
theorem d_M_better_244 : decode c_M_better 244 = .ok (.iload 7, 2) := by decide +kernel
theorem d_M_better_246 : decode c_M_better 246 = .ok (.laload, 1) := by decide +kernel
theorem d_M_better_247 : decode c_M_better 247 = .ok (.lload_n 2, 1) := by decide +kernel
theorem d_M_better_248 : decode c_M_better 248 = .ok (.lsub, 1) := by decide +kernel
theorem d_M_better_249 : decode c_M_better 249 = .ok (.goto 12, 3) := by decide +kernel
theorem d_M_better_252 : decode c_M_better 252 = .ok (.aload_n 0, 1) := by decide +kernel
theorem d_M_better_253 : decode c_M_better 253 = .ok (.getfield 49, 3) := by decide +kernel
theorem d_M_better_256 : decode c_M_better 256 = .ok (.iload 7, 2) := by decide +kernel
theorem d_M_better_258 : decode c_M_better 258 = .ok (.laload, 1) := by decide +kernel
theorem d_M_better_259 : decode c_M_better 259 = .ok (.lload_n 2, 1) := by decide +kernel
theorem d_M_better_260 : decode c_M_better 260 = .ok (.ladd, 1) := by decide +kernel
theorem d_M_better_261 : decode c_M_better 261 = .ok (.lastore, 1) := by decide +kernel
theorem d_M_better_262 : decode c_M_better 262 = .ok (.iload 6, 2) := by decide +kernel
theorem d_M_better_264 : decode c_M_better 264 = .ok (.istore 4, 2) := by decide +kernel
theorem d_M_better_266 : decode c_M_better 266 = .ok (.iload 4, 2) := by decide +kernel
theorem d_M_better_268 : decode c_M_better 268 = .ok (.iload_n 1, 1) := by decide +kernel
theorem d_M_better_269 : decode c_M_better 269 = .ok (.if_icmp .ne 7, 3) := by decide +kernel
theorem d_M_better_272 : decode c_M_better 272 = .ok (.iconst 1, 1) := by decide +kernel
theorem d_M_better_273 : decode c_M_better 273 = .ok (.goto 4, 3) := by decide +kernel
theorem d_M_better_276 : decode c_M_better 276 = .ok (.iconst 0, 1) := by decide +kernel
theorem d_M_better_277 : decode c_M_better 277 = .ok (.istore 5, 2) := by decide +kernel
theorem d_M_better_279 : decode c_M_better 279 = .ok (.goto (-100), 3) := by decide +kernel
theorem d_M_better_282 : decode c_M_better 282 = .ok (.iconst 1, 1) := by decide +kernel
theorem d_M_better_283 : decode c_M_better 283 = .ok (.ireturn, 1) := by decide +kernel
set_option maxHeartbeats 1000000 in
set_option maxRecDepth 100000 in
theorem m_M_better (l : Launch) (D : va_G) (cI cL cZ : ClassId) (md : Nat → Nat) (co : Int) (n : Nat) (sh ra up lw kn fo : Int) (cc9 Sv Dv su de fw cs G10 G20 BY0 : Nat → Int) (hf : eh_rf cc9 Sv Dv fw su de) (hcs : ∀ y z, y < 7 → z < 6 → cs (6 * y + z) = eh_rc cc9 y z) (hcs2 : ∀ k, k < 42 → -1 ≤ cs k ∧ cs k ≤ 100000) (hSb : ∀ y, y < 7 → Sv y ≤ 1000000000000) (hDb : ∀ z, z < 6 → Dv z ≤ 1000000000000) : eh_M (S := Int × (Nat → Int) × (Nat → Int) × (Nat → Int) × (Nat → Int)) l y_M_better k_M_better 2 56 D classes [(cI, .int), (cL, .long), (cZ, .boolean)] [.ref (md 0)] [((md 0), .inr (5, [.int (eI co), .int (eI ((n : Nat) : Int)), .ref (md 1), .ref (md 2), .ref (md 3), .int (eI sh), .int (eI ra), .ref (md 4), .ref (md 5), .ref (md 6), .ref (md 7), .ref (md 8), .long (eL up), .long (eL lw), .ref (md 9), .ref (md 10), .ref (md 11), .ref (md 12), .ref (md 13), .ref (md 14), .ref (md 15), .int (eI kn), .int (eI fo)])), ((md 11), aL cL 42 fw), ((md 12), aI cI 42 cs), ((md 13), aL cL 13 G10), ((md 14), aL cL 13 G20), ((md 15), aI cI 13 BY0)] (fun u => (u.1 = 1 ∧ eh_rf cc9 Sv Dv u.2.1 su de ∧ eh_Wt cs u.2.1 < eh_Wt cs fw) ∨ (u.1 = 0 ∧ u.2.1 = fw ∧ ∃ g9, eh_pot 84 (eh_tl eh_ga eh_gb) (eh_hd eh_ga eh_gb) (eh_gr cs fw) (eh_wt (eh_gw cs)) g9)) (fun u => some (.int (eI u.1))) (fun u => [((md 0), .inr (5, [.int (eI co), .int (eI ((n : Nat) : Int)), .ref (md 1), .ref (md 2), .ref (md 3), .int (eI sh), .int (eI ra), .ref (md 4), .ref (md 5), .ref (md 6), .ref (md 7), .ref (md 8), .long (eL up), .long (eL lw), .ref (md 9), .ref (md 10), .ref (md 11), .ref (md 12), .ref (md 13), .ref (md 14), .ref (md 15), .int (eI kn), .int (eI fo)])), ((md 11), aL cL 42 u.2.1), ((md 12), aI cI 42 cs), ((md 13), aL cL 13 u.2.2.1), ((md 14), aL cL 13 u.2.2.2.1), ((md 15), aI cI 13 u.2.2.2.2)]) := by
  intro sz
  refine Met.ofW (cc := c_M_better) (maxL := 8) (ret := (some .boolean)) (by decide) rfl ?_
  intro p e s m args below meth c s₁ B hml hv
  obtain ⟨hargs, hsz, hP, hK, hD0, hN⟩ := hv
  have hx := B.exec
  have hb := B.bytes
  have hrt := B.returns
  have hts := atoms_spec (ws := k_M_better :: ew_t) B.pre
  have htb : ∀ w ∈ ew_t, w.before args s = true := fun w h => hts w (List.mem_cons_of_mem _ h)
  have hown : s.vm.findClass "EarthHaulsModel" = some m.cls := findClass_of_methodNamed B.named
  have hlocks := B.notSynchronized
  have hE : entryFrame m args 8 = entryFrame m ([.ref (md 0)] : List Value).toArray 8 := by rw [hargs]
  rw [hE]
  clear hE hts B hargs
  generalize hRe : (headSpec _ _).room = R
  have hR1 : R.frames = 2 := by rw [← hRe]; rfl
  have hR2 : R.locals = 56 := by rw [← hRe]; rfl
  clear hRe
  generalize hQ : MQ below _ _ s 0 0 _ = Q
  subst hsz
  have hD := hD0.self (sz := s.heap.size)
  generalize hAe : va_A [((md 0), .inr (5, [.int (eI co), .int (eI ((n : Nat) : Int)), .ref (md 1), .ref (md 2), .ref (md 3), .int (eI sh), .int (eI ra), .ref (md 4), .ref (md 5), .ref (md 6), .ref (md 7), .ref (md 8), .long (eL up), .long (eL lw), .ref (md 9), .ref (md 10), .ref (md 11), .ref (md 12), .ref (md 13), .ref (md 14), .ref (md 15), .int (eI kn), .int (eI fo)])), ((md 11), aL cL 42 fw), ((md 12), aI cI 42 cs), ((md 13), aL cL 13 G10), ((md 14), aL cL 13 G20), ((md 15), aI cI 13 BY0)] s.heap.size = A at hD hQ
  have hA : ∀ q : Nat, s.heap.size ≤ q → A q := fun q h => by rw [← hAe]; exact Or.inr h
  have hS : va_S A s.heap s.heap [] := va_S.rf
  have hP : va_P D classes [((md 0), .inr (5, [.int (eI co), .int (eI ((n : Nat) : Int)), .ref (md 1), .ref (md 2), .ref (md 3), .int (eI sh), .int (eI ra), .ref (md 4), .ref (md 5), .ref (md 6), .ref (md 7), .ref (md 8), .long (eL up), .long (eL lw), .ref (md 9), .ref (md 10), .ref (md 11), .ref (md 12), .ref (md 13), .ref (md 14), .ref (md 15), .int (eI kn), .int (eI fo)])), ((md 11), aL cL 42 fw), ((md 12), aI cI 42 cs), ((md 13), aL cL 13 G10), ((md 14), aL cL 13 G20), ((md 15), aI cI 13 BY0)] s.heap := hP
  have hl := lv_entry ([.ref (md 0)]) (n := 8) (Nat.le_of_ble_eq_true rfl)
  rw [lg_entry_eq]
  generalize (lg_sl ([.ref (md 0)]) ++ List.replicate (8 - (lg_sl ([.ref (md 0)])).length) Slot.unset).toArray = ls at hl ⊢
  have hl : lv_has ls 8 [(0, .ref (md 0))] := hl
  have hfw := (eh_rf_bd hf hSb hDb).1
  have loopB : ∀ (G1 G2 BY : Nat → Int) (P : Nat) (nn w : Int), P < 13 → 0 < nn → w < eh_Wt cs fw → ∀ (q : Nat) (L2 : List Nat) (y : Nat) (G : Nat → Int) (H : Heap) (locs : List Loc) (ls : Array Slot), L2.length = q → L2 ≠ [] → y < 13 → eh_b2 cs fw BY nn w P L2 y G → lv_has ls 8 [(1, .int (eI ((P : Nat) : Int))), (2, .long (eL nn)), (4, .int (eI ((y : Nat) : Int))), (5, .int (eI 0)), (0, .ref (md 0))] → va_P D classes [((md 0), .inr (5, [.int (eI co), .int (eI ((n : Nat) : Int)), .ref (md 1), .ref (md 2), .ref (md 3), .int (eI sh), .int (eI ra), .ref (md 4), .ref (md 5), .ref (md 6), .ref (md 7), .ref (md 8), .long (eL up), .long (eL lw), .ref (md 9), .ref (md 10), .ref (md 11), .ref (md 12), .ref (md 13), .ref (md 14), .ref (md 15), .int (eI kn), .int (eI fo)])), ((md 11), aL cL 42 G), ((md 12), aI cI 42 cs), ((md 13), aL cL 13 G1), ((md 14), aL cL 13 G2), ((md 15), aI cI 13 BY)] H → va_D A [((md 0), .inr (5, [.int (eI co), .int (eI ((n : Nat) : Int)), .ref (md 1), .ref (md 2), .ref (md 3), .int (eI sh), .int (eI ra), .ref (md 4), .ref (md 5), .ref (md 6), .ref (md 7), .ref (md 8), .long (eL up), .long (eL lw), .ref (md 9), .ref (md 10), .ref (md 11), .ref (md 12), .ref (md 13), .ref (md 14), .ref (md 15), .int (eI kn), .int (eI fo)])), ((md 11), aL cL 42 G), ((md 12), aI cI 42 cs), ((md 13), aL cL 13 G1), ((md 14), aL cL 13 G2), ((md 15), aI cI 13 BY)] → va_S A s.heap H locs → W p l e R s m args below meth c H locs 0 0 Q (F0 m 179 ls []) := by
    intro G1 G2 BY P nn w hP13 hnn hw q
    induction q using Nat.strongRecOn with
    | ind q ih =>
      intro L2 y G H locs ls hq hne hy13 hb2 hl hP hD hS
      cases L2 with
      | nil => exact absurd rfl hne
      | cons e1 L3 =>
        have hnil := eh_cb_nil hb2.1 hb2.2.2.1
        obtain ⟨⟨hh1, hh2, hh3, hh4⟩, hh5⟩ := hb2.1
        by_cases hy7 : y < 7
        ·
          obtain ⟨z, hz, he, ht⟩ := eh_e_s hh3 hh1 hy7
          subst he
          rw [ht] at hh2 hnil hh5
          refine lv_iload hx hb d_M_better_179 (lv_at hl 3 rfl) ?_
          refine we_if_ne (tgt := 282) hx hb (by constructor <;> omega) d_M_better_181 rfl (fun hc181 => absurd hc181 (by omega)) (fun hc181 => ?_)
          refine lv_aload_n hx hb d_M_better_184 rfl (lv_at hl 4 rfl) ?_
          refine va_get (D := D) (ci := 5) (v := .ref (md 15)) (C := R_M) (T := T_M) (N := 23) hx hb htb in_M hown hK hP 0 rfl rfl 20 (by decide) (htb _ tb_608) (fun _ h9 => h9) rfl d_M_better_185 ?_
          refine lv_iload hx hb d_M_better_188 (lv_at hl 2 rfl) ?_
          refine we_iald hx hb hK hP 5 0 rfl rfl y rfl (by omega) (by decide) d_M_better_190 ?_
          refine lv_istore hx hb d_M_better_191 hl (by decide) rfl (fun ls hl => ?_)
          have hl : lv_has ls 8 [(6, .int (eI (BY y))), (1, .int (eI ((P : Nat) : Int))), (2, .long (eL nn)), (4, .int (eI ((y : Nat) : Int))), (5, .int (eI 0)), (0, .ref (md 0))] := hl
          refine lv_iload hx hb d_M_better_193 (lv_at hl 3 rfl) ?_
          refine lv_bipush (v := eI 7) hx hb d_M_better_195 (by decide) ?_
          refine we_icmp_ge (tgt := 214) hx hb (by constructor <;> omega) (by constructor <;> omega) d_M_better_197 rfl (fun hc197 => absurd hc197 (by omega)) (fun hc197 => ?_)
          refine lv_bipush (v := eI 6) hx hb d_M_better_200 (by decide) ?_
          refine lv_iload hx hb d_M_better_202 (lv_at hl 3 rfl) ?_
          refine we_imul hx hb d_M_better_204 ?_
          refine lv_iload hx hb d_M_better_205 (lv_at hl 0 rfl) ?_
          refine we_iadd hx hb d_M_better_207 ?_
          refine lv_bipush (v := eI 7) hx hb d_M_better_208 (by decide) ?_
          refine we_isub hx hb d_M_better_210 ?_
          refine lv_goto (tgt := 225) hx hb d_M_better_211 rfl ?_
          refine lv_istore hx hb d_M_better_225 hl (by decide) rfl (fun ls hl => ?_)
          have hl : lv_has ls 8 [(7, .int (eI (((6 * ((y : Nat) : Int)) + (BY y)) - 7))), (6, .int (eI (BY y))), (1, .int (eI ((P : Nat) : Int))), (2, .long (eL nn)), (4, .int (eI ((y : Nat) : Int))), (5, .int (eI 0)), (0, .ref (md 0))] := hl
          refine lv_aload_n hx hb d_M_better_227 rfl (lv_at hl 6 rfl) ?_
          refine va_get (D := D) (ci := 5) (v := .ref (md 11)) (C := R_M) (T := T_M) (N := 23) hx hb htb in_M hown hK hP 0 rfl rfl 16 (by decide) (htb _ tb_604) (fun _ h9 => h9) rfl d_M_better_228 ?_
          refine lv_iload hx hb d_M_better_231 (lv_at hl 0 rfl) ?_
          refine lv_iload hx hb d_M_better_233 (lv_at hl 4 rfl) ?_
          refine lv_bipush (v := eI 7) hx hb d_M_better_235 (by decide) ?_
          refine we_icmp_ge (tgt := 252) hx hb (by constructor <;> omega) (by constructor <;> omega) d_M_better_237 rfl (fun hc237 => absurd hc237 (by omega)) (fun hc237 => ?_)
          refine lv_aload_n hx hb d_M_better_240 rfl (lv_at hl 6 rfl) ?_
          refine va_get (D := D) (ci := 5) (v := .ref (md 11)) (C := R_M) (T := T_M) (N := 23) hx hb htb in_M hown hK hP 0 rfl rfl 16 (by decide) (htb _ tb_604) (fun _ h9 => h9) rfl d_M_better_241 ?_
          refine lv_iload hx hb d_M_better_244 (lv_at hl 0 rfl) ?_
          refine we_lald hx hb hK hP 1 1 rfl rfl (6 * y + z) (by omega) (by omega) (by decide) d_M_better_246 ?_
          refine lv_lload_n hx hb d_M_better_247 rfl (lv_at hl 3 rfl) ?_
          refine we_lsub hx hb d_M_better_248 ?_
          refine lv_goto (tgt := 261) hx hb d_M_better_249 rfl ?_
          refine we_last hx hb hK hP hD hS 1 1 rfl rfl (6 * y + z) (by omega) (by omega) (by decide) d_M_better_261 (fun H locs hP hD hS => ?_)
          have hP : va_P D classes [((md 0), .inr (5, [.int (eI co), .int (eI ((n : Nat) : Int)), .ref (md 1), .ref (md 2), .ref (md 3), .int (eI sh), .int (eI ra), .ref (md 4), .ref (md 5), .ref (md 6), .ref (md 7), .ref (md 8), .long (eL up), .long (eL lw), .ref (md 9), .ref (md 10), .ref (md 11), .ref (md 12), .ref (md 13), .ref (md 14), .ref (md 15), .int (eI kn), .int (eI fo)])), ((md 11), aL cL 42 (eh_upd G (6 * y + z) ((G (6 * y + z)) - nn))), ((md 12), aI cI 42 cs), ((md 13), aL cL 13 G1), ((md 14), aL cL 13 G2), ((md 15), aI cI 13 BY)] H := hP
          have hD : va_D A [((md 0), .inr (5, [.int (eI co), .int (eI ((n : Nat) : Int)), .ref (md 1), .ref (md 2), .ref (md 3), .int (eI sh), .int (eI ra), .ref (md 4), .ref (md 5), .ref (md 6), .ref (md 7), .ref (md 8), .long (eL up), .long (eL lw), .ref (md 9), .ref (md 10), .ref (md 11), .ref (md 12), .ref (md 13), .ref (md 14), .ref (md 15), .int (eI kn), .int (eI fo)])), ((md 11), aL cL 42 (eh_upd G (6 * y + z) ((G (6 * y + z)) - nn))), ((md 12), aI cI 42 cs), ((md 13), aL cL 13 G1), ((md 14), aL cL 13 G2), ((md 15), aI cI 13 BY)] := hD
          refine lv_iload hx hb d_M_better_262 (lv_at hl 1 rfl) ?_
          refine lv_istore hx hb d_M_better_264 hl (by decide) rfl (fun ls hl => ?_)
          have hl : lv_has ls 8 [(4, .int (eI (BY y))), (7, .int (eI (((6 * ((y : Nat) : Int)) + (BY y)) - 7))), (6, .int (eI (BY y))), (1, .int (eI ((P : Nat) : Int))), (2, .long (eL nn)), (5, .int (eI 0)), (0, .ref (md 0))] := hl
          refine lv_iload hx hb d_M_better_266 (lv_at hl 0 rfl) ?_
          refine lv_iload_n hx hb d_M_better_268 rfl (lv_at hl 3 rfl) ?_
          refine we_icmp_ne (tgt := 276) hx hb (by constructor <;> omega) (by constructor <;> omega) d_M_better_269 rfl (fun hc269 => ?_) (fun hc269 => ?_)
          ·
            refine lv_iconst (v := eI 0) hx hb d_M_better_276 rfl ?_
            refine lv_istore hx hb d_M_better_277 hl (by decide) rfl (fun ls hl => ?_)
            have hl : lv_has ls 8 [(5, .int (eI 0)), (4, .int (eI (BY y))), (7, .int (eI (((6 * ((y : Nat) : Int)) + (BY y)) - 7))), (6, .int (eI (BY y))), (1, .int (eI ((P : Nat) : Int))), (2, .long (eL nn)), (0, .ref (md 0))] := hl
            refine lv_goto (tgt := 179) hx hb d_M_better_279 rfl ?_
            have hne3 : L3 ≠ [] := fun q9 => by have := hnil.mpr q9; omega
            rw [hh2] at hl
            exact ih L3.length (by rw [← hq]; exact Nat.lt_succ_self _) L3 (7 + z) _ H locs ls rfl hne3 (by omega) (eh_b2_s hb2 hnn hy7 hz) (lv_sub hl [4, 5, 1, 0, 6] rfl) hP hD hS
          ·
            refine lv_iconst (v := eI 1) hx hb d_M_better_272 rfl ?_
            refine lv_goto (tgt := 277) hx hb d_M_better_273 rfl ?_
            refine lv_istore hx hb d_M_better_277 hl (by decide) rfl (fun ls hl => ?_)
            have hl : lv_has ls 8 [(5, .int (eI 1)), (4, .int (eI (BY y))), (7, .int (eI (((6 * ((y : Nat) : Int)) + (BY y)) - 7))), (6, .int (eI (BY y))), (1, .int (eI ((P : Nat) : Int))), (2, .long (eL nn)), (0, .ref (md 0))] := hl
            refine lv_goto (tgt := 179) hx hb d_M_better_279 rfl ?_
            have hL3 := hnil.mp (by omega)
            subst hL3
            have hend := eh_b2_end (eh_b2_s hb2 hnn hy7 hz) hf hcs
            refine lv_iload hx hb d_M_better_179 (lv_at hl 0 rfl) ?_
            refine we_if_ne (tgt := 282) hx hb (by constructor <;> omega) d_M_better_181 rfl (fun hc181 => ?_) (fun hc181 => absurd hc181 (by omega))
            refine lv_iconst (v := eI 1) hx hb d_M_better_282 rfl ?_
            subst hQ
            exact W.zret (v := eI 1) hx hb hrt (by decide) (fun t9 ht9 hW => ⟨⟨(1, (eh_upd G (6 * y + z) (G (6 * y + z) - nn)), G1, G2, BY), rfl, Or.inl ⟨rfl, hend.1, by show eh_Wt cs (eh_upd G (6 * y + z) (G (6 * y + z) - nn)) < eh_Wt cs fw; rw [hend.2]; exact hw⟩, by rw [ht9]; exact hP, hD⟩, hS.F ht9⟩) hS.2.2 d_M_better_283
        ·
          obtain ⟨z, hz7⟩ : ∃ z, y = 7 + z := ⟨y - 7, by omega⟩
          subst hz7
          obtain ⟨x, hx7, hz, he, ht⟩ := eh_e_t hh3 hh1
          subst he
          rw [ht] at hh2 hnil hh5
          refine lv_iload hx hb d_M_better_179 (lv_at hl 3 rfl) ?_
          refine we_if_ne (tgt := 282) hx hb (by constructor <;> omega) d_M_better_181 rfl (fun hc181 => absurd hc181 (by omega)) (fun hc181 => ?_)
          refine lv_aload_n hx hb d_M_better_184 rfl (lv_at hl 4 rfl) ?_
          refine va_get (D := D) (ci := 5) (v := .ref (md 15)) (C := R_M) (T := T_M) (N := 23) hx hb htb in_M hown hK hP 0 rfl rfl 20 (by decide) (htb _ tb_608) (fun _ h9 => h9) rfl d_M_better_185 ?_
          refine lv_iload hx hb d_M_better_188 (lv_at hl 2 rfl) ?_
          refine we_iald hx hb hK hP 5 0 rfl rfl (7 + z) rfl (by omega) (by decide) d_M_better_190 ?_
          refine lv_istore hx hb d_M_better_191 hl (by decide) rfl (fun ls hl => ?_)
          have hl : lv_has ls 8 [(6, .int (eI (BY (7 + z)))), (1, .int (eI ((P : Nat) : Int))), (2, .long (eL nn)), (4, .int (eI ((7 + z : Nat) : Int))), (5, .int (eI 0)), (0, .ref (md 0))] := hl
          refine lv_iload hx hb d_M_better_193 (lv_at hl 3 rfl) ?_
          refine lv_bipush (v := eI 7) hx hb d_M_better_195 (by decide) ?_
          refine we_icmp_ge (tgt := 214) hx hb (by constructor <;> omega) (by constructor <;> omega) d_M_better_197 rfl (fun hc197 => ?_) (fun hc197 => absurd hc197 (by omega))
          refine lv_bipush (v := eI 6) hx hb d_M_better_214 (by decide) ?_
          refine lv_iload hx hb d_M_better_216 (lv_at hl 0 rfl) ?_
          refine we_imul hx hb d_M_better_218 ?_
          refine lv_iload hx hb d_M_better_219 (lv_at hl 3 rfl) ?_
          refine we_iadd hx hb d_M_better_221 ?_
          refine lv_bipush (v := eI 7) hx hb d_M_better_222 (by decide) ?_
          refine we_isub hx hb d_M_better_224 ?_
          refine lv_istore hx hb d_M_better_225 hl (by decide) rfl (fun ls hl => ?_)
          have hl : lv_has ls 8 [(7, .int (eI (((6 * (BY (7 + z))) + ((7 + z : Nat) : Int)) - 7))), (6, .int (eI (BY (7 + z)))), (1, .int (eI ((P : Nat) : Int))), (2, .long (eL nn)), (4, .int (eI ((7 + z : Nat) : Int))), (5, .int (eI 0)), (0, .ref (md 0))] := hl
          refine lv_aload_n hx hb d_M_better_227 rfl (lv_at hl 6 rfl) ?_
          refine va_get (D := D) (ci := 5) (v := .ref (md 11)) (C := R_M) (T := T_M) (N := 23) hx hb htb in_M hown hK hP 0 rfl rfl 16 (by decide) (htb _ tb_604) (fun _ h9 => h9) rfl d_M_better_228 ?_
          refine lv_iload hx hb d_M_better_231 (lv_at hl 0 rfl) ?_
          refine lv_iload hx hb d_M_better_233 (lv_at hl 4 rfl) ?_
          refine lv_bipush (v := eI 7) hx hb d_M_better_235 (by decide) ?_
          refine we_icmp_ge (tgt := 252) hx hb (by constructor <;> omega) (by constructor <;> omega) d_M_better_237 rfl (fun hc237 => ?_) (fun hc237 => absurd hc237 (by omega))
          refine lv_aload_n hx hb d_M_better_252 rfl (lv_at hl 6 rfl) ?_
          refine va_get (D := D) (ci := 5) (v := .ref (md 11)) (C := R_M) (T := T_M) (N := 23) hx hb htb in_M hown hK hP 0 rfl rfl 16 (by decide) (htb _ tb_604) (fun _ h9 => h9) rfl d_M_better_253 ?_
          refine lv_iload hx hb d_M_better_256 (lv_at hl 0 rfl) ?_
          refine we_lald hx hb hK hP 1 1 rfl rfl (6 * x + z) (by omega) (by omega) (by decide) d_M_better_258 ?_
          refine lv_lload_n hx hb d_M_better_259 rfl (lv_at hl 3 rfl) ?_
          refine we_ladd hx hb d_M_better_260 ?_
          refine we_last hx hb hK hP hD hS 1 1 rfl rfl (6 * x + z) (by omega) (by omega) (by decide) d_M_better_261 (fun H locs hP hD hS => ?_)
          have hP : va_P D classes [((md 0), .inr (5, [.int (eI co), .int (eI ((n : Nat) : Int)), .ref (md 1), .ref (md 2), .ref (md 3), .int (eI sh), .int (eI ra), .ref (md 4), .ref (md 5), .ref (md 6), .ref (md 7), .ref (md 8), .long (eL up), .long (eL lw), .ref (md 9), .ref (md 10), .ref (md 11), .ref (md 12), .ref (md 13), .ref (md 14), .ref (md 15), .int (eI kn), .int (eI fo)])), ((md 11), aL cL 42 (eh_upd G (6 * x + z) ((G (6 * x + z)) + nn))), ((md 12), aI cI 42 cs), ((md 13), aL cL 13 G1), ((md 14), aL cL 13 G2), ((md 15), aI cI 13 BY)] H := hP
          have hD : va_D A [((md 0), .inr (5, [.int (eI co), .int (eI ((n : Nat) : Int)), .ref (md 1), .ref (md 2), .ref (md 3), .int (eI sh), .int (eI ra), .ref (md 4), .ref (md 5), .ref (md 6), .ref (md 7), .ref (md 8), .long (eL up), .long (eL lw), .ref (md 9), .ref (md 10), .ref (md 11), .ref (md 12), .ref (md 13), .ref (md 14), .ref (md 15), .int (eI kn), .int (eI fo)])), ((md 11), aL cL 42 (eh_upd G (6 * x + z) ((G (6 * x + z)) + nn))), ((md 12), aI cI 42 cs), ((md 13), aL cL 13 G1), ((md 14), aL cL 13 G2), ((md 15), aI cI 13 BY)] := hD
          refine lv_iload hx hb d_M_better_262 (lv_at hl 1 rfl) ?_
          refine lv_istore hx hb d_M_better_264 hl (by decide) rfl (fun ls hl => ?_)
          have hl : lv_has ls 8 [(4, .int (eI (BY (7 + z)))), (7, .int (eI (((6 * (BY (7 + z))) + ((7 + z : Nat) : Int)) - 7))), (6, .int (eI (BY (7 + z)))), (1, .int (eI ((P : Nat) : Int))), (2, .long (eL nn)), (5, .int (eI 0)), (0, .ref (md 0))] := hl
          refine lv_iload hx hb d_M_better_266 (lv_at hl 0 rfl) ?_
          refine lv_iload_n hx hb d_M_better_268 rfl (lv_at hl 3 rfl) ?_
          refine we_icmp_ne (tgt := 276) hx hb (by constructor <;> omega) (by constructor <;> omega) d_M_better_269 rfl (fun hc269 => ?_) (fun hc269 => ?_)
          ·
            refine lv_iconst (v := eI 0) hx hb d_M_better_276 rfl ?_
            refine lv_istore hx hb d_M_better_277 hl (by decide) rfl (fun ls hl => ?_)
            have hl : lv_has ls 8 [(5, .int (eI 0)), (4, .int (eI (BY (7 + z)))), (7, .int (eI (((6 * (BY (7 + z))) + ((7 + z : Nat) : Int)) - 7))), (6, .int (eI (BY (7 + z)))), (1, .int (eI ((P : Nat) : Int))), (2, .long (eL nn)), (0, .ref (md 0))] := hl
            refine lv_goto (tgt := 179) hx hb d_M_better_279 rfl ?_
            have hne3 : L3 ≠ [] := fun q9 => by have := hnil.mpr q9; omega
            rw [hh2] at hl
            exact ih L3.length (by rw [← hq]; exact Nat.lt_succ_self _) L3 x _ H locs ls rfl hne3 (by omega) (eh_b2_t hb2 hnn hx7 hz) (lv_sub hl [4, 5, 1, 0, 6] rfl) hP hD hS
          ·
            refine lv_iconst (v := eI 1) hx hb d_M_better_272 rfl ?_
            refine lv_goto (tgt := 277) hx hb d_M_better_273 rfl ?_
            refine lv_istore hx hb d_M_better_277 hl (by decide) rfl (fun ls hl => ?_)
            have hl : lv_has ls 8 [(5, .int (eI 1)), (4, .int (eI (BY (7 + z)))), (7, .int (eI (((6 * (BY (7 + z))) + ((7 + z : Nat) : Int)) - 7))), (6, .int (eI (BY (7 + z)))), (1, .int (eI ((P : Nat) : Int))), (2, .long (eL nn)), (0, .ref (md 0))] := hl
            refine lv_goto (tgt := 179) hx hb d_M_better_279 rfl ?_
            have hL3 := hnil.mp (by omega)
            subst hL3
            have hend := eh_b2_end (eh_b2_t hb2 hnn hx7 hz) hf hcs
            refine lv_iload hx hb d_M_better_179 (lv_at hl 0 rfl) ?_
            refine we_if_ne (tgt := 282) hx hb (by constructor <;> omega) d_M_better_181 rfl (fun hc181 => ?_) (fun hc181 => absurd hc181 (by omega))
            refine lv_iconst (v := eI 1) hx hb d_M_better_282 rfl ?_
            subst hQ
            exact W.zret (v := eI 1) hx hb hrt (by decide) (fun t9 ht9 hW => ⟨⟨(1, (eh_upd G (6 * x + z) (G (6 * x + z) + nn)), G1, G2, BY), rfl, Or.inl ⟨rfl, hend.1, by show eh_Wt cs (eh_upd G (6 * x + z) (G (6 * x + z) + nn)) < eh_Wt cs fw; rw [hend.2]; exact hw⟩, by rw [ht9]; exact hP, hD⟩, hS.F ht9⟩) hS.2.2 d_M_better_283
  have loopA : ∀ (G1 G2 BY : Nat → Int) (P : Nat) (L : List Nat), P < 13 → L ≠ [] → eh_cb cs fw BY P P L → (L.map (eh_hd eh_ga eh_gb)).Nodup → eh_ws (eh_wt (eh_gw cs)) L < 0 → ∀ (H : Heap) (locs : List Loc), va_P D classes [((md 0), .inr (5, [.int (eI co), .int (eI ((n : Nat) : Int)), .ref (md 1), .ref (md 2), .ref (md 3), .int (eI sh), .int (eI ra), .ref (md 4), .ref (md 5), .ref (md 6), .ref (md 7), .ref (md 8), .long (eL up), .long (eL lw), .ref (md 9), .ref (md 10), .ref (md 11), .ref (md 12), .ref (md 13), .ref (md 14), .ref (md 15), .int (eI kn), .int (eI fo)])), ((md 11), aL cL 42 fw), ((md 12), aI cI 42 cs), ((md 13), aL cL 13 G1), ((md 14), aL cL 13 G2), ((md 15), aI cI 13 BY)] H → va_D A [((md 0), .inr (5, [.int (eI co), .int (eI ((n : Nat) : Int)), .ref (md 1), .ref (md 2), .ref (md 3), .int (eI sh), .int (eI ra), .ref (md 4), .ref (md 5), .ref (md 6), .ref (md 7), .ref (md 8), .long (eL up), .long (eL lw), .ref (md 9), .ref (md 10), .ref (md 11), .ref (md 12), .ref (md 13), .ref (md 14), .ref (md 15), .int (eI kn), .int (eI fo)])), ((md 11), aL cL 42 fw), ((md 12), aI cI 42 cs), ((md 13), aL cL 13 G1), ((md 14), aL cL 13 G2), ((md 15), aI cI 13 BY)] → va_S A s.heap H locs → ∀ (q : Nat) (L2 : List Nat) (y : Nat) (nn : Int) (ls : Array Slot), L2.length = q → L2 ≠ [] → y < 13 → eh_cb cs fw BY y P L2 → (∀ d, d ∈ L2.tail → eh_hd eh_ga eh_gb d ≠ P) → (0 < nn ∧ nn ≤ 4611686018427387904) → (∀ d, d ∈ L → d % 2 = 1 → d ∈ L2 ∨ nn ≤ fw (d / 2)) → lv_has ls 8 [(1, .int (eI ((P : Nat) : Int))), (2, .long (eL nn)), (4, .int (eI ((y : Nat) : Int))), (5, .int (eI 0)), (0, .ref (md 0))] → W p l e R s m args below meth c H locs 0 0 Q (F0 m 93 ls []) := by
    intro G1 G2 BY P L hP13 hLne hcyc hnd hws H locs hP hD hS q
    induction q using Nat.strongRecOn with
    | ind q ih =>
      intro L2 y nn ls hq hne hy13 hcb htl hnn hall hl
      cases L2 with
      | nil => exact absurd rfl hne
      | cons e1 L3 =>
        have hnil := eh_cb_nil hcb htl
        obtain ⟨⟨hh1, hh2, hh3, hh4⟩, hh5⟩ := hcb
        by_cases hy7 : y < 7
        ·
          obtain ⟨z, hz, he, ht⟩ := eh_e_s hh3 hh1 hy7
          subst he
          rw [ht] at hh2 hnil hh5
          have hfz := hfw (6 * y + z) (by omega)
          have hfp : 0 < fw (6 * y + z) := by
            unfold eh_gr at hh4
            rw [if_neg (by omega), show (2 * (6 * y + z) + 1) / 2 = 6 * y + z by omega] at hh4
            exact hh4
          refine lv_iload hx hb d_M_better_93 (lv_at hl 3 rfl) ?_
          refine we_if_ne (tgt := 176) hx hb (by constructor <;> omega) d_M_better_95 rfl (fun hc95 => absurd hc95 (by omega)) (fun hc95 => ?_)
          refine lv_aload_n hx hb d_M_better_98 rfl (lv_at hl 4 rfl) ?_
          refine va_get (D := D) (ci := 5) (v := .ref (md 15)) (C := R_M) (T := T_M) (N := 23) hx hb htb in_M hown hK hP 0 rfl rfl 20 (by decide) (htb _ tb_608) (fun _ h9 => h9) rfl d_M_better_99 ?_
          refine lv_iload hx hb d_M_better_102 (lv_at hl 2 rfl) ?_
          refine we_iald hx hb hK hP 5 0 rfl rfl y rfl (by omega) (by decide) d_M_better_104 ?_
          refine lv_istore hx hb d_M_better_105 hl (by decide) rfl (fun ls hl => ?_)
          have hl : lv_has ls 8 [(6, .int (eI (BY y))), (1, .int (eI ((P : Nat) : Int))), (2, .long (eL nn)), (4, .int (eI ((y : Nat) : Int))), (5, .int (eI 0)), (0, .ref (md 0))] := hl
          refine lv_iload hx hb d_M_better_107 (lv_at hl 3 rfl) ?_
          refine lv_bipush (v := eI 7) hx hb d_M_better_109 (by decide) ?_
          refine we_icmp_ge (tgt := 156) hx hb (by constructor <;> omega) (by constructor <;> omega) d_M_better_111 rfl (fun hc111 => absurd hc111 (by omega)) (fun hc111 => ?_)
          refine lv_aload_n hx hb d_M_better_114 rfl (lv_at hl 5 rfl) ?_
          refine va_get (D := D) (ci := 5) (v := .ref (md 11)) (C := R_M) (T := T_M) (N := 23) hx hb htb in_M hown hK hP 0 rfl rfl 16 (by decide) (htb _ tb_604) (fun _ h9 => h9) rfl d_M_better_115 ?_
          refine lv_bipush (v := eI 6) hx hb d_M_better_118 (by decide) ?_
          refine lv_iload hx hb d_M_better_120 (lv_at hl 3 rfl) ?_
          refine we_imul hx hb d_M_better_122 ?_
          refine lv_iload hx hb d_M_better_123 (lv_at hl 0 rfl) ?_
          refine we_iadd hx hb d_M_better_125 ?_
          refine lv_bipush (v := eI 7) hx hb d_M_better_126 (by decide) ?_
          refine we_isub hx hb d_M_better_128 ?_
          refine we_lald hx hb hK hP 1 1 rfl rfl (6 * y + z) (by omega) (by omega) (by decide) d_M_better_129 ?_
          refine lv_lload_n hx hb d_M_better_130 rfl (lv_at hl 2 rfl) ?_
          refine we_lcmp_ge (pc2 := 132) (tgt := 154) hx hb (by constructor <;> omega) (by constructor <;> omega) d_M_better_131 rfl d_M_better_132 rfl (fun hc131 => ?_) (fun hc131 => ?_)
          ·
            refine lv_lload_n hx hb d_M_better_154 rfl (lv_at hl 2 rfl) ?_
            refine lv_lstore_n hx hb d_M_better_155 rfl hl (by decide) rfl (fun ls hl => ?_)
            have hl : lv_has ls 8 [(2, .long (eL nn)), (6, .int (eI (BY y))), (1, .int (eI ((P : Nat) : Int))), (4, .int (eI ((y : Nat) : Int))), (5, .int (eI 0)), (0, .ref (md 0))] := hl
            refine lv_iload hx hb d_M_better_156 (lv_at hl 1 rfl) ?_
            refine lv_istore hx hb d_M_better_158 hl (by decide) rfl (fun ls hl => ?_)
            have hl : lv_has ls 8 [(4, .int (eI (BY y))), (2, .long (eL nn)), (6, .int (eI (BY y))), (1, .int (eI ((P : Nat) : Int))), (5, .int (eI 0)), (0, .ref (md 0))] := hl
            refine lv_iload hx hb d_M_better_160 (lv_at hl 0 rfl) ?_
            refine lv_iload_n hx hb d_M_better_162 rfl (lv_at hl 3 rfl) ?_
            refine we_icmp_ne (tgt := 170) hx hb (by constructor <;> omega) (by constructor <;> omega) d_M_better_163 rfl (fun hc163 => ?_) (fun hc163 => ?_)
            ·
              refine lv_iconst (v := eI 0) hx hb d_M_better_170 rfl ?_
              refine lv_istore hx hb d_M_better_171 hl (by decide) rfl (fun ls hl => ?_)
              have hl : lv_has ls 8 [(5, .int (eI 0)), (4, .int (eI (BY y))), (2, .long (eL nn)), (6, .int (eI (BY y))), (1, .int (eI ((P : Nat) : Int))), (0, .ref (md 0))] := hl
              refine lv_goto (tgt := 93) hx hb d_M_better_173 rfl ?_
              have hall2 : ∀ d, d ∈ L → d % 2 = 1 → d ∈ L3 ∨ nn ≤ fw (d / 2) := fun d hd ho => by
                rcases hall d hd ho with w | w
                · rcases List.mem_cons.mp w with w2 | w2
                  · right; rw [w2, show (2 * (6 * y + z) + 1) / 2 = 6 * y + z by omega]; omega
                  · exact Or.inl w2
                · right; omega
              have hne3 : L3 ≠ [] := fun q9 => by have := hnil.mpr q9; omega
              rw [hh2] at hl
              exact ih L3.length (by rw [← hq]; exact Nat.lt_succ_self _) L3 (7 + z) nn ls rfl hne3 (by omega) hh5 (fun d hd => htl d (List.mem_of_mem_tail hd)) (by omega) hall2 (lv_sub hl [4, 2, 1, 0, 5] rfl)
            ·
              refine lv_iconst (v := eI 1) hx hb d_M_better_166 rfl ?_
              refine lv_goto (tgt := 171) hx hb d_M_better_167 rfl ?_
              refine lv_istore hx hb d_M_better_171 hl (by decide) rfl (fun ls hl => ?_)
              have hl : lv_has ls 8 [(5, .int (eI 1)), (4, .int (eI (BY y))), (2, .long (eL nn)), (6, .int (eI (BY y))), (1, .int (eI ((P : Nat) : Int))), (0, .ref (md 0))] := hl
              refine lv_goto (tgt := 93) hx hb d_M_better_173 rfl ?_
              have hall2 : ∀ d, d ∈ L → d % 2 = 1 → d ∈ L3 ∨ nn ≤ fw (d / 2) := fun d hd ho => by
                rcases hall d hd ho with w | w
                · rcases List.mem_cons.mp w with w2 | w2
                  · right; rw [w2, show (2 * (6 * y + z) + 1) / 2 = 6 * y + z by omega]; omega
                  · exact Or.inl w2
                · right; omega
              have hL3 := hnil.mp (by omega)
              subst hL3
              refine lv_iload hx hb d_M_better_93 (lv_at hl 0 rfl) ?_
              refine we_if_ne (tgt := 176) hx hb (by constructor <;> omega) d_M_better_95 rfl (fun hc95 => ?_) (fun hc95 => absurd hc95 (by omega))
              refine lv_iconst (v := eI 0) hx hb d_M_better_176 rfl ?_
              refine lv_istore hx hb d_M_better_177 hl (by decide) rfl (fun ls hl => ?_)
              have hl : lv_has ls 8 [(5, .int (eI 0)), (4, .int (eI (BY y))), (2, .long (eL nn)), (6, .int (eI (BY y))), (1, .int (eI ((P : Nat) : Int))), (0, .ref (md 0))] := hl
              have hpp : (BY y) = ((P : Nat) : Int) := by omega
              rw [hpp] at hl
              have hlt := Int.mul_lt_mul_of_pos_left hws (show 0 < nn by omega)
              rw [Int.mul_zero] at hlt
              exact loopB G1 G2 BY P nn _ hP13 (by omega) (by omega) L.length L P fw H locs ls rfl hLne hP13 (eh_b2_0 (nn := nn) hf hcs hcyc hnd (eh_cb_tail hcyc hnd) (fun d hd ho => by
                rcases hall2 d hd ho with w | w
                · cases w
                · exact w)) (lv_sub hl [4, 2, 1, 0, 5] rfl) hP hD hS
          ·
            refine lv_aload_n hx hb d_M_better_135 rfl (lv_at hl 5 rfl) ?_
            refine va_get (D := D) (ci := 5) (v := .ref (md 11)) (C := R_M) (T := T_M) (N := 23) hx hb htb in_M hown hK hP 0 rfl rfl 16 (by decide) (htb _ tb_604) (fun _ h9 => h9) rfl d_M_better_136 ?_
            refine lv_bipush (v := eI 6) hx hb d_M_better_139 (by decide) ?_
            refine lv_iload hx hb d_M_better_141 (lv_at hl 3 rfl) ?_
            refine we_imul hx hb d_M_better_143 ?_
            refine lv_iload hx hb d_M_better_144 (lv_at hl 0 rfl) ?_
            refine we_iadd hx hb d_M_better_146 ?_
            refine lv_bipush (v := eI 7) hx hb d_M_better_147 (by decide) ?_
            refine we_isub hx hb d_M_better_149 ?_
            refine we_lald hx hb hK hP 1 1 rfl rfl (6 * y + z) (by omega) (by omega) (by decide) d_M_better_150 ?_
            refine lv_goto (tgt := 155) hx hb d_M_better_151 rfl ?_
            refine lv_lstore_n hx hb d_M_better_155 rfl hl (by decide) rfl (fun ls hl => ?_)
            have hl : lv_has ls 8 [(2, .long (eL (fw (6 * y + z)))), (6, .int (eI (BY y))), (1, .int (eI ((P : Nat) : Int))), (4, .int (eI ((y : Nat) : Int))), (5, .int (eI 0)), (0, .ref (md 0))] := hl
            refine lv_iload hx hb d_M_better_156 (lv_at hl 1 rfl) ?_
            refine lv_istore hx hb d_M_better_158 hl (by decide) rfl (fun ls hl => ?_)
            have hl : lv_has ls 8 [(4, .int (eI (BY y))), (2, .long (eL (fw (6 * y + z)))), (6, .int (eI (BY y))), (1, .int (eI ((P : Nat) : Int))), (5, .int (eI 0)), (0, .ref (md 0))] := hl
            refine lv_iload hx hb d_M_better_160 (lv_at hl 0 rfl) ?_
            refine lv_iload_n hx hb d_M_better_162 rfl (lv_at hl 3 rfl) ?_
            refine we_icmp_ne (tgt := 170) hx hb (by constructor <;> omega) (by constructor <;> omega) d_M_better_163 rfl (fun hc163 => ?_) (fun hc163 => ?_)
            ·
              refine lv_iconst (v := eI 0) hx hb d_M_better_170 rfl ?_
              refine lv_istore hx hb d_M_better_171 hl (by decide) rfl (fun ls hl => ?_)
              have hl : lv_has ls 8 [(5, .int (eI 0)), (4, .int (eI (BY y))), (2, .long (eL (fw (6 * y + z)))), (6, .int (eI (BY y))), (1, .int (eI ((P : Nat) : Int))), (0, .ref (md 0))] := hl
              refine lv_goto (tgt := 93) hx hb d_M_better_173 rfl ?_
              have hall2 : ∀ d, d ∈ L → d % 2 = 1 → d ∈ L3 ∨ (fw (6 * y + z)) ≤ fw (d / 2) := fun d hd ho => by
                rcases hall d hd ho with w | w
                · rcases List.mem_cons.mp w with w2 | w2
                  · right; rw [w2, show (2 * (6 * y + z) + 1) / 2 = 6 * y + z by omega]; omega
                  · exact Or.inl w2
                · right; omega
              have hne3 : L3 ≠ [] := fun q9 => by have := hnil.mpr q9; omega
              rw [hh2] at hl
              exact ih L3.length (by rw [← hq]; exact Nat.lt_succ_self _) L3 (7 + z) (fw (6 * y + z)) ls rfl hne3 (by omega) hh5 (fun d hd => htl d (List.mem_of_mem_tail hd)) (by omega) hall2 (lv_sub hl [4, 2, 1, 0, 5] rfl)
            ·
              refine lv_iconst (v := eI 1) hx hb d_M_better_166 rfl ?_
              refine lv_goto (tgt := 171) hx hb d_M_better_167 rfl ?_
              refine lv_istore hx hb d_M_better_171 hl (by decide) rfl (fun ls hl => ?_)
              have hl : lv_has ls 8 [(5, .int (eI 1)), (4, .int (eI (BY y))), (2, .long (eL (fw (6 * y + z)))), (6, .int (eI (BY y))), (1, .int (eI ((P : Nat) : Int))), (0, .ref (md 0))] := hl
              refine lv_goto (tgt := 93) hx hb d_M_better_173 rfl ?_
              have hall2 : ∀ d, d ∈ L → d % 2 = 1 → d ∈ L3 ∨ (fw (6 * y + z)) ≤ fw (d / 2) := fun d hd ho => by
                rcases hall d hd ho with w | w
                · rcases List.mem_cons.mp w with w2 | w2
                  · right; rw [w2, show (2 * (6 * y + z) + 1) / 2 = 6 * y + z by omega]; omega
                  · exact Or.inl w2
                · right; omega
              have hL3 := hnil.mp (by omega)
              subst hL3
              refine lv_iload hx hb d_M_better_93 (lv_at hl 0 rfl) ?_
              refine we_if_ne (tgt := 176) hx hb (by constructor <;> omega) d_M_better_95 rfl (fun hc95 => ?_) (fun hc95 => absurd hc95 (by omega))
              refine lv_iconst (v := eI 0) hx hb d_M_better_176 rfl ?_
              refine lv_istore hx hb d_M_better_177 hl (by decide) rfl (fun ls hl => ?_)
              have hl : lv_has ls 8 [(5, .int (eI 0)), (4, .int (eI (BY y))), (2, .long (eL (fw (6 * y + z)))), (6, .int (eI (BY y))), (1, .int (eI ((P : Nat) : Int))), (0, .ref (md 0))] := hl
              have hpp : (BY y) = ((P : Nat) : Int) := by omega
              rw [hpp] at hl
              have hlt := Int.mul_lt_mul_of_pos_left hws (show 0 < (fw (6 * y + z)) by omega)
              rw [Int.mul_zero] at hlt
              exact loopB G1 G2 BY P (fw (6 * y + z)) _ hP13 (by omega) (by omega) L.length L P fw H locs ls rfl hLne hP13 (eh_b2_0 (nn := (fw (6 * y + z))) hf hcs hcyc hnd (eh_cb_tail hcyc hnd) (fun d hd ho => by
                rcases hall2 d hd ho with w | w
                · cases w
                · exact w)) (lv_sub hl [4, 2, 1, 0, 5] rfl) hP hD hS
        ·
          obtain ⟨z, hz7⟩ : ∃ z, y = 7 + z := ⟨y - 7, by omega⟩
          subst hz7
          obtain ⟨x, hx7, hz, he, ht⟩ := eh_e_t hh3 hh1
          subst he
          rw [ht] at hh2 hnil hh5
          refine lv_iload hx hb d_M_better_93 (lv_at hl 3 rfl) ?_
          refine we_if_ne (tgt := 176) hx hb (by constructor <;> omega) d_M_better_95 rfl (fun hc95 => absurd hc95 (by omega)) (fun hc95 => ?_)
          refine lv_aload_n hx hb d_M_better_98 rfl (lv_at hl 4 rfl) ?_
          refine va_get (D := D) (ci := 5) (v := .ref (md 15)) (C := R_M) (T := T_M) (N := 23) hx hb htb in_M hown hK hP 0 rfl rfl 20 (by decide) (htb _ tb_608) (fun _ h9 => h9) rfl d_M_better_99 ?_
          refine lv_iload hx hb d_M_better_102 (lv_at hl 2 rfl) ?_
          refine we_iald hx hb hK hP 5 0 rfl rfl (7 + z) rfl (by omega) (by decide) d_M_better_104 ?_
          refine lv_istore hx hb d_M_better_105 hl (by decide) rfl (fun ls hl => ?_)
          have hl : lv_has ls 8 [(6, .int (eI (BY (7 + z)))), (1, .int (eI ((P : Nat) : Int))), (2, .long (eL nn)), (4, .int (eI ((7 + z : Nat) : Int))), (5, .int (eI 0)), (0, .ref (md 0))] := hl
          refine lv_iload hx hb d_M_better_107 (lv_at hl 3 rfl) ?_
          refine lv_bipush (v := eI 7) hx hb d_M_better_109 (by decide) ?_
          refine we_icmp_ge (tgt := 156) hx hb (by constructor <;> omega) (by constructor <;> omega) d_M_better_111 rfl (fun hc111 => ?_) (fun hc111 => absurd hc111 (by omega))
          refine lv_iload hx hb d_M_better_156 (lv_at hl 0 rfl) ?_
          refine lv_istore hx hb d_M_better_158 hl (by decide) rfl (fun ls hl => ?_)
          have hl : lv_has ls 8 [(4, .int (eI (BY (7 + z)))), (6, .int (eI (BY (7 + z)))), (1, .int (eI ((P : Nat) : Int))), (2, .long (eL nn)), (5, .int (eI 0)), (0, .ref (md 0))] := hl
          refine lv_iload hx hb d_M_better_160 (lv_at hl 0 rfl) ?_
          refine lv_iload_n hx hb d_M_better_162 rfl (lv_at hl 2 rfl) ?_
          refine we_icmp_ne (tgt := 170) hx hb (by constructor <;> omega) (by constructor <;> omega) d_M_better_163 rfl (fun hc163 => ?_) (fun hc163 => ?_)
          ·
            refine lv_iconst (v := eI 0) hx hb d_M_better_170 rfl ?_
            refine lv_istore hx hb d_M_better_171 hl (by decide) rfl (fun ls hl => ?_)
            have hl : lv_has ls 8 [(5, .int (eI 0)), (4, .int (eI (BY (7 + z)))), (6, .int (eI (BY (7 + z)))), (1, .int (eI ((P : Nat) : Int))), (2, .long (eL nn)), (0, .ref (md 0))] := hl
            refine lv_goto (tgt := 93) hx hb d_M_better_173 rfl ?_
            have hall2 : ∀ d, d ∈ L → d % 2 = 1 → d ∈ L3 ∨ nn ≤ fw (d / 2) := fun d hd ho => by
              rcases hall d hd ho with w | w
              · rcases List.mem_cons.mp w with w2 | w2
                · omega
                · exact Or.inl w2
              · right; omega
            have hne3 : L3 ≠ [] := fun q9 => by have := hnil.mpr q9; omega
            rw [hh2] at hl
            exact ih L3.length (by rw [← hq]; exact Nat.lt_succ_self _) L3 x nn ls rfl hne3 (by omega) hh5 (fun d hd => htl d (List.mem_of_mem_tail hd)) (by omega) hall2 (lv_sub hl [3, 4, 1, 0, 5] rfl)
          ·
            refine lv_iconst (v := eI 1) hx hb d_M_better_166 rfl ?_
            refine lv_goto (tgt := 171) hx hb d_M_better_167 rfl ?_
            refine lv_istore hx hb d_M_better_171 hl (by decide) rfl (fun ls hl => ?_)
            have hl : lv_has ls 8 [(5, .int (eI 1)), (4, .int (eI (BY (7 + z)))), (6, .int (eI (BY (7 + z)))), (1, .int (eI ((P : Nat) : Int))), (2, .long (eL nn)), (0, .ref (md 0))] := hl
            refine lv_goto (tgt := 93) hx hb d_M_better_173 rfl ?_
            have hall2 : ∀ d, d ∈ L → d % 2 = 1 → d ∈ L3 ∨ nn ≤ fw (d / 2) := fun d hd ho => by
              rcases hall d hd ho with w | w
              · rcases List.mem_cons.mp w with w2 | w2
                · omega
                · exact Or.inl w2
              · right; omega
            have hL3 := hnil.mp (by omega)
            subst hL3
            refine lv_iload hx hb d_M_better_93 (lv_at hl 0 rfl) ?_
            refine we_if_ne (tgt := 176) hx hb (by constructor <;> omega) d_M_better_95 rfl (fun hc95 => ?_) (fun hc95 => absurd hc95 (by omega))
            refine lv_iconst (v := eI 0) hx hb d_M_better_176 rfl ?_
            refine lv_istore hx hb d_M_better_177 hl (by decide) rfl (fun ls hl => ?_)
            have hl : lv_has ls 8 [(5, .int (eI 0)), (4, .int (eI (BY (7 + z)))), (6, .int (eI (BY (7 + z)))), (1, .int (eI ((P : Nat) : Int))), (2, .long (eL nn)), (0, .ref (md 0))] := hl
            have hpp : (BY (7 + z)) = ((P : Nat) : Int) := by omega
            rw [hpp] at hl
            have hlt := Int.mul_lt_mul_of_pos_left hws (show 0 < nn by omega)
            rw [Int.mul_zero] at hlt
            exact loopB G1 G2 BY P nn _ hP13 (by omega) (by omega) L.length L P fw H locs ls rfl hLne hP13 (eh_b2_0 (nn := nn) hf hcs hcyc hnd (eh_cb_tail hcyc hnd) (fun d hd ho => by
              rcases hall2 d hd ho with w | w
              · cases w
              · exact w)) (lv_sub hl [3, 4, 1, 0, 5] rfl) hP hD hS
  have back : ∀ (G1 G2 BY : Nat → Int) (pt : Nat → Nat) (L : List Nat), (∀ k, k ≤ 13 → pt k < 13) → (∀ k, k < 13 → BY (pt k) = ((pt (k + 1) : Nat) : Int)) → L ≠ [] → eh_cb cs fw BY (pt 13) (pt 13) L → (L.map (eh_hd eh_ga eh_gb)).Nodup → eh_ws (eh_wt (eh_gw cs)) L < 0 → ∀ (H : Heap) (locs : List Loc), va_P D classes [((md 0), .inr (5, [.int (eI co), .int (eI ((n : Nat) : Int)), .ref (md 1), .ref (md 2), .ref (md 3), .int (eI sh), .int (eI ra), .ref (md 4), .ref (md 5), .ref (md 6), .ref (md 7), .ref (md 8), .long (eL up), .long (eL lw), .ref (md 9), .ref (md 10), .ref (md 11), .ref (md 12), .ref (md 13), .ref (md 14), .ref (md 15), .int (eI kn), .int (eI fo)])), ((md 11), aL cL 42 fw), ((md 12), aI cI 42 cs), ((md 13), aL cL 13 G1), ((md 14), aL cL 13 G2), ((md 15), aI cI 13 BY)] H → va_D A [((md 0), .inr (5, [.int (eI co), .int (eI ((n : Nat) : Int)), .ref (md 1), .ref (md 2), .ref (md 3), .int (eI sh), .int (eI ra), .ref (md 4), .ref (md 5), .ref (md 6), .ref (md 7), .ref (md 8), .long (eL up), .long (eL lw), .ref (md 9), .ref (md 10), .ref (md 11), .ref (md 12), .ref (md 13), .ref (md 14), .ref (md 15), .int (eI kn), .int (eI fo)])), ((md 11), aL cL 42 fw), ((md 12), aI cI 42 cs), ((md 13), aL cL 13 G1), ((md 14), aL cL 13 G2), ((md 15), aI cI 13 BY)] → va_S A s.heap H locs → ∀ (q k : Nat) (ls : Array Slot), 13 - k = q → k ≤ 13 → lv_has ls 8 [(2, .int (eI ((k : Nat) : Int))), (1, .int (eI ((pt k : Nat) : Int))), (0, .ref (md 0))] → W p l e R s m args below meth c H locs 0 0 Q (F0 m 64 ls []) := by
    intro G1 G2 BY pt L hpt hst hLne hcyc hnd hws H locs hP hD hS q
    induction q with
    | zero =>
      intro k ls hq hk hl
      have hk13 : k = 13 := by omega
      subst hk13
      refine lv_iload_n hx hb d_M_better_64 rfl (lv_at hl 0 rfl) ?_
      refine lv_bipush (v := eI 13) hx hb d_M_better_65 (by decide) ?_
      refine we_icmp_ge (tgt := 83) hx hb (by constructor <;> omega) (by constructor <;> omega) d_M_better_67 rfl (fun hc67 => ?_) (fun hc67 => absurd hc67 (by omega))
      refine we_ldc2 (a := 4611686018427387904) hx hb hown (htb _ tb_806) (by decide) d_M_better_83 ?_
      refine lv_lstore_n hx hb d_M_better_86 rfl hl (by decide) rfl (fun ls hl => ?_)
      have hl : lv_has ls 8 [(2, .long (eL 4611686018427387904)), (1, .int (eI ((pt 13 : Nat) : Int))), (0, .ref (md 0))] := hl
      refine lv_iload_n hx hb d_M_better_87 rfl (lv_at hl 1 rfl) ?_
      refine lv_istore hx hb d_M_better_88 hl (by decide) rfl (fun ls hl => ?_)
      have hl : lv_has ls 8 [(4, .int (eI ((pt 13 : Nat) : Int))), (2, .long (eL 4611686018427387904)), (1, .int (eI ((pt 13 : Nat) : Int))), (0, .ref (md 0))] := hl
      refine lv_iconst (v := eI 0) hx hb d_M_better_90 rfl ?_
      refine lv_istore hx hb d_M_better_91 hl (by decide) rfl (fun ls hl => ?_)
      have hl : lv_has ls 8 [(5, .int (eI 0)), (4, .int (eI ((pt 13 : Nat) : Int))), (2, .long (eL 4611686018427387904)), (1, .int (eI ((pt 13 : Nat) : Int))), (0, .ref (md 0))] := hl
      exact loopA G1 G2 BY (pt 13) L (hpt 13 (by omega)) hLne hcyc hnd hws H locs hP hD hS L.length L (pt 13) 4611686018427387904 ls rfl hLne (hpt 13 (by omega)) hcyc (eh_cb_tail hcyc hnd) (by omega) (fun d hd _ => Or.inl hd) (lv_sub hl [3, 2, 1, 0, 4] rfl)
    | succ q ih =>
      intro k ls hq hk hl
      have hk13 := hpt k (by omega)
      have hks := hst k (by omega)
      refine lv_iload_n hx hb d_M_better_64 rfl (lv_at hl 0 rfl) ?_
      refine lv_bipush (v := eI 13) hx hb d_M_better_65 (by decide) ?_
      refine we_icmp_ge (tgt := 83) hx hb (by constructor <;> omega) (by constructor <;> omega) d_M_better_67 rfl (fun hc67 => absurd hc67 (by omega)) (fun hc67 => ?_)
      refine lv_aload_n hx hb d_M_better_70 rfl (lv_at hl 2 rfl) ?_
      refine va_get (D := D) (ci := 5) (v := .ref (md 15)) (C := R_M) (T := T_M) (N := 23) hx hb htb in_M hown hK hP 0 rfl rfl 20 (by decide) (htb _ tb_608) (fun _ h9 => h9) rfl d_M_better_71 ?_
      refine lv_iload_n hx hb d_M_better_74 rfl (lv_at hl 1 rfl) ?_
      refine we_iald hx hb hK hP 5 0 rfl rfl (pt k) rfl (by omega) (by decide) d_M_better_75 ?_
      refine lv_istore_n hx hb d_M_better_76 rfl hl (by decide) rfl (fun ls hl => ?_)
      have hl : lv_has ls 8 [(1, .int (eI (BY (pt k)))), (2, .int (eI ((k : Nat) : Int))), (0, .ref (md 0))] := hl
      refine lv_iinc (v := eI (((k : Nat) : Int) + 1)) hx hb d_M_better_77 hl (k := 1) rfl (eI_add _ _) (by decide) rfl (fun ls hl => ?_)
      have hl : lv_has ls 8 [(2, .int (eI (((k : Nat) : Int) + 1))), (1, .int (eI (BY (pt k)))), (0, .ref (md 0))] := hl
      refine lv_goto (tgt := 64) hx hb d_M_better_80 rfl ?_
      rw [hks] at hl
      exact ih (k + 1) ls (by omega) (by omega) (lv_sub hl [0, 1, 2] rfl)
  have rounds : ∀ (q r : Nat) (G1 G2 BY : Nat → Int) (pv : Int) (H : Heap) (locs : List Loc) (ls : Array Slot), 14 - r = q → (r < 14 ∧ eh_rx cs fw r 0 G1 G2 BY (-1) ∨ r = 14 ∧ 0 ≤ pv ∧ eh_rx cs fw 13 84 G1 G2 BY pv) → lv_has ls 8 [(2, .int (eI ((r : Nat) : Int))), (1, .int (eI pv)), (0, .ref (md 0))] → va_P D classes [((md 0), .inr (5, [.int (eI co), .int (eI ((n : Nat) : Int)), .ref (md 1), .ref (md 2), .ref (md 3), .int (eI sh), .int (eI ra), .ref (md 4), .ref (md 5), .ref (md 6), .ref (md 7), .ref (md 8), .long (eL up), .long (eL lw), .ref (md 9), .ref (md 10), .ref (md 11), .ref (md 12), .ref (md 13), .ref (md 14), .ref (md 15), .int (eI kn), .int (eI fo)])), ((md 11), aL cL 42 fw), ((md 12), aI cI 42 cs), ((md 13), aL cL 13 G1), ((md 14), aL cL 13 G2), ((md 15), aI cI 13 BY)] H → va_D A [((md 0), .inr (5, [.int (eI co), .int (eI ((n : Nat) : Int)), .ref (md 1), .ref (md 2), .ref (md 3), .int (eI sh), .int (eI ra), .ref (md 4), .ref (md 5), .ref (md 6), .ref (md 7), .ref (md 8), .long (eL up), .long (eL lw), .ref (md 9), .ref (md 10), .ref (md 11), .ref (md 12), .ref (md 13), .ref (md 14), .ref (md 15), .int (eI kn), .int (eI fo)])), ((md 11), aL cL 42 fw), ((md 12), aI cI 42 cs), ((md 13), aL cL 13 G1), ((md 14), aL cL 13 G2), ((md 15), aI cI 13 BY)] → va_S A s.heap H locs → W p l e R s m args below meth c H locs 0 0 Q (F0 m 39 ls []) := by
    intro q
    induction q with
    | zero =>
      intro r G1 G2 BY pv H locs ls hq hor hl hP hD hS
      have hr14 : r = 14 := by omega
      subst hr14
      have hor2 : 0 ≤ pv ∧ eh_rx cs fw 13 84 G1 G2 BY pv := by
        rcases hor with w | w
        · omega
        · exact w.2
      obtain ⟨pt, L, c1, c2, c3, c4, c5, c6, c7⟩ := eh_rx_cyc hor2.2 hor2.1
      subst c1
      refine lv_iload_n hx hb d_M_better_39 rfl (lv_at hl 0 rfl) ?_
      refine lv_bipush (v := eI 14) hx hb d_M_better_40 (by decide) ?_
      refine we_icmp_ge (tgt := 62) hx hb (by constructor <;> omega) (by constructor <;> omega) d_M_better_42 rfl (fun hc42 => ?_) (fun hc42 => absurd hc42 (by omega))
      refine lv_iconst (v := eI 0) hx hb d_M_better_62 rfl ?_
      refine lv_istore_n hx hb d_M_better_63 rfl hl (by decide) rfl (fun ls hl => ?_)
      have hl : lv_has ls 8 [(2, .int (eI 0)), (1, .int (eI ((pt 0 : Nat) : Int))), (0, .ref (md 0))] := hl
      exact back G1 G2 BY pt L c2 c3 c4 c5 c6 c7 H locs hP hD hS 13 0 ls (by omega) (by omega) (lv_sub hl [0, 1, 2] rfl)
    | succ q ih =>
      intro r G1 G2 BY pv H locs ls hq hor hl hP hD hS
      have hr14 : r < 14 := by omega
      have hrx : eh_rx cs fw r 0 G1 G2 BY (-1) := by
        rcases hor with w | w
        · exact w.2
        · omega
      refine lv_iload_n hx hb d_M_better_39 rfl (lv_at hl 0 rfl) ?_
      refine lv_bipush (v := eI 14) hx hb d_M_better_40 (by decide) ?_
      refine we_icmp_ge (tgt := 62) hx hb (by constructor <;> omega) (by constructor <;> omega) d_M_better_42 rfl (fun hc42 => absurd hc42 (by omega)) (fun hc42 => ?_)
      refine lv_aload_n hx hb d_M_better_45 rfl (lv_at hl 2 rfl) ?_
      refine eh_cMV (As := []) (rest := []) (q := (R_M, T_M, 23)) (wr := []) hx hb hml hown htb hN (m_M_relaxAll l D cI cL cZ md co n sh ra up lw kn fo fw cs G1 G2 BY r hr14 hcs2 hfw hrx) 0 ⟨tb_794, tb_796, ts_46, tb_7, kin_M_relaxAll⟩ dv_M_relaxAll ⟨by rw [hR1]; decide, by rw [hR2]; decide⟩ hK hP hD hS hA 0 rfl rfl [0, 1, 2, 3, 4, 5] [] rfl rfl (by decide) rfl (by decide) (by decide) [0, 1, 2] rfl rfl rfl hl.1 (Nat.le_of_ble_eq_true rfl) d_M_better_46 ⟨Nat.zero_le _, Nat.zero_le _⟩ (fun u H locs hu hP hD hS => ?_)
      obtain ⟨pv2, A2, B2, C2⟩ := u
      have hu : eh_rx cs fw r 84 A2 B2 C2 pv2 := hu
      have hpvb : -1 ≤ pv2 ∧ pv2 < 13 := by
        obtain ⟨_, _, _, _, _, _, _, _, w⟩ := hu
        rcases w with w | ⟨v, w1, w2, _⟩
        · omega
        · omega
      have hP := hP.sub (ws' := [((md 0), .inr (5, [.int (eI co), .int (eI ((n : Nat) : Int)), .ref (md 1), .ref (md 2), .ref (md 3), .int (eI sh), .int (eI ra), .ref (md 4), .ref (md 5), .ref (md 6), .ref (md 7), .ref (md 8), .long (eL up), .long (eL lw), .ref (md 9), .ref (md 10), .ref (md 11), .ref (md 12), .ref (md 13), .ref (md 14), .ref (md 15), .int (eI kn), .int (eI fo)])), ((md 11), aL cL 42 fw), ((md 12), aI cI 42 cs), ((md 13), aL cL 13 A2), ((md 14), aL cL 13 B2), ((md 15), aI cI 13 C2)]) [0, 1, 2, 3, 4, 5] rfl
      have hD := hD.sub (ws' := [((md 0), .inr (5, [.int (eI co), .int (eI ((n : Nat) : Int)), .ref (md 1), .ref (md 2), .ref (md 3), .int (eI sh), .int (eI ra), .ref (md 4), .ref (md 5), .ref (md 6), .ref (md 7), .ref (md 8), .long (eL up), .long (eL lw), .ref (md 9), .ref (md 10), .ref (md 11), .ref (md 12), .ref (md 13), .ref (md 14), .ref (md 15), .int (eI kn), .int (eI fo)])), ((md 11), aL cL 42 fw), ((md 12), aI cI 42 cs), ((md 13), aL cL 13 A2), ((md 14), aL cL 13 B2), ((md 15), aI cI 13 C2)]) [0, 1, 2, 3, 4, 5] (by decide) rfl
      refine lv_istore_n hx hb d_M_better_49 rfl hl (by decide) rfl (fun ls hl => ?_)
      have hl : lv_has ls 8 [(1, .int (eI pv2)), (2, .int (eI ((r : Nat) : Int))), (0, .ref (md 0))] := hl
      refine lv_iload_n hx hb d_M_better_50 rfl (lv_at hl 0 rfl) ?_
      refine we_if_ge (tgt := 56) hx hb (by constructor <;> omega) d_M_better_51 rfl (fun hc51 => ?_) (fun hc51 => ?_)
      ·
        refine lv_iinc (v := eI (((r : Nat) : Int) + 1)) hx hb d_M_better_56 hl (k := 1) rfl (eI_add _ _) (by decide) rfl (fun ls hl => ?_)
        have hl : lv_has ls 8 [(2, .int (eI (((r : Nat) : Int) + 1))), (1, .int (eI pv2)), (0, .ref (md 0))] := hl
        refine lv_goto (tgt := 39) hx hb d_M_better_59 rfl ?_
        exact ih (r + 1) A2 B2 C2 pv2 H locs ls (by omega) (by
          by_cases w : r + 1 < 14
          · exact Or.inl ⟨w, eh_rx_round hu⟩
          · have w3 : r = 13 := by omega
            subst w3
            exact Or.inr ⟨rfl, by omega, hu⟩) (lv_sub hl [0, 1, 2] rfl) hP hD hS
      ·
        refine lv_iconst (v := eI 0) hx hb d_M_better_54 rfl ?_
        subst hQ
        exact W.zret (v := eI 0) hx hb hrt (by decide) (fun t9 ht hW => ⟨⟨(0, fw, A2, B2, C2), rfl, Or.inr ⟨rfl, rfl, eh_rx_pot hu (by omega)⟩, by rw [ht]; exact hP, hD⟩, hS.F ht⟩) hS.2.2 d_M_better_55
  refine lv_iconst (v := eI 0) hx hb d_M_better_0 rfl ?_
  refine lv_istore_n hx hb d_M_better_1 rfl hl (by decide) rfl (fun ls hl => ?_)
  have hl : lv_has ls 8 [(1, .int (eI 0)), (0, .ref (md 0))] := hl
  have init : ∀ (q i : Nat) (G1 G2 BY : Nat → Int) (H : Heap) (locs : List Loc) (ls : Array Slot), 13 - i = q → i ≤ 13 → (∀ v, v < i → G1 v = 0 ∧ G2 v = 0 ∧ BY v = -1) → lv_has ls 8 [(1, .int (eI ((i : Nat) : Int))), (0, .ref (md 0))] → va_P D classes [((md 0), .inr (5, [.int (eI co), .int (eI ((n : Nat) : Int)), .ref (md 1), .ref (md 2), .ref (md 3), .int (eI sh), .int (eI ra), .ref (md 4), .ref (md 5), .ref (md 6), .ref (md 7), .ref (md 8), .long (eL up), .long (eL lw), .ref (md 9), .ref (md 10), .ref (md 11), .ref (md 12), .ref (md 13), .ref (md 14), .ref (md 15), .int (eI kn), .int (eI fo)])), ((md 11), aL cL 42 fw), ((md 12), aI cI 42 cs), ((md 13), aL cL 13 G1), ((md 14), aL cL 13 G2), ((md 15), aI cI 13 BY)] H → va_D A [((md 0), .inr (5, [.int (eI co), .int (eI ((n : Nat) : Int)), .ref (md 1), .ref (md 2), .ref (md 3), .int (eI sh), .int (eI ra), .ref (md 4), .ref (md 5), .ref (md 6), .ref (md 7), .ref (md 8), .long (eL up), .long (eL lw), .ref (md 9), .ref (md 10), .ref (md 11), .ref (md 12), .ref (md 13), .ref (md 14), .ref (md 15), .int (eI kn), .int (eI fo)])), ((md 11), aL cL 42 fw), ((md 12), aI cI 42 cs), ((md 13), aL cL 13 G1), ((md 14), aL cL 13 G2), ((md 15), aI cI 13 BY)] → va_S A s.heap H locs → W p l e R s m args below meth c H locs 0 0 Q (F0 m 2 ls []) := by
    intro q
    induction q with
    | zero =>
      intro i G1 G2 BY H locs ls hq hi hB hl hP hD hS
      have hi13 : i = 13 := by omega
      subst hi13
      refine lv_iload_n hx hb d_M_better_2 rfl (lv_at hl 0 rfl) ?_
      refine lv_bipush (v := eI 13) hx hb d_M_better_3 (by decide) ?_
      refine we_icmp_ge (tgt := 35) hx hb (by constructor <;> omega) (by constructor <;> omega) d_M_better_5 rfl (fun hc5 => ?_) (fun hc5 => absurd hc5 (by omega))
      refine lv_iconst (v := eI (-1)) hx hb d_M_better_35 rfl ?_
      refine lv_istore_n hx hb d_M_better_36 rfl hl (by decide) rfl (fun ls hl => ?_)
      have hl : lv_has ls 8 [(1, .int (eI (-1))), (0, .ref (md 0))] := hl
      refine lv_iconst (v := eI 0) hx hb d_M_better_37 rfl ?_
      refine lv_istore_n hx hb d_M_better_38 rfl hl (by decide) rfl (fun ls hl => ?_)
      have hl : lv_has ls 8 [(2, .int (eI 0)), (1, .int (eI (-1))), (0, .ref (md 0))] := hl
      exact rounds 14 0 G1 G2 BY (-1) H locs ls (by omega) (Or.inl ⟨by omega, eh_rx_0 cs fw (fun v hv => (hB v hv).1) (fun v hv => (hB v hv).2.1) (fun v hv => (hB v hv).2.2)⟩) (lv_sub hl [0, 1, 2] rfl) hP hD hS
    | succ q ih =>
      intro i G1 G2 BY H locs ls hq hi hB hl hP hD hS
      refine lv_iload_n hx hb d_M_better_2 rfl (lv_at hl 0 rfl) ?_
      refine lv_bipush (v := eI 13) hx hb d_M_better_3 (by decide) ?_
      refine we_icmp_ge (tgt := 35) hx hb (by constructor <;> omega) (by constructor <;> omega) d_M_better_5 rfl (fun hc5 => absurd hc5 (by omega)) (fun hc5 => ?_)
      refine lv_aload_n hx hb d_M_better_8 rfl (lv_at hl 1 rfl) ?_
      refine va_get (D := D) (ci := 5) (v := .ref (md 13)) (C := R_M) (T := T_M) (N := 23) hx hb htb in_M hown hK hP 0 rfl rfl 18 (by decide) (htb _ tb_606) (fun _ h9 => h9) rfl d_M_better_9 ?_
      refine lv_iload_n hx hb d_M_better_12 rfl (lv_at hl 0 rfl) ?_
      refine lv_lconst (v := eL 0) hx hb d_M_better_13 (by decide) ?_
      refine we_last hx hb hK hP hD hS 3 1 rfl rfl i rfl (by omega) (by decide) d_M_better_14 (fun H locs hP hD hS => ?_)
      have hP : va_P D classes [((md 0), .inr (5, [.int (eI co), .int (eI ((n : Nat) : Int)), .ref (md 1), .ref (md 2), .ref (md 3), .int (eI sh), .int (eI ra), .ref (md 4), .ref (md 5), .ref (md 6), .ref (md 7), .ref (md 8), .long (eL up), .long (eL lw), .ref (md 9), .ref (md 10), .ref (md 11), .ref (md 12), .ref (md 13), .ref (md 14), .ref (md 15), .int (eI kn), .int (eI fo)])), ((md 11), aL cL 42 fw), ((md 12), aI cI 42 cs), ((md 13), aL cL 13 (eh_upd G1 i 0)), ((md 14), aL cL 13 G2), ((md 15), aI cI 13 BY)] H := hP
      have hD : va_D A [((md 0), .inr (5, [.int (eI co), .int (eI ((n : Nat) : Int)), .ref (md 1), .ref (md 2), .ref (md 3), .int (eI sh), .int (eI ra), .ref (md 4), .ref (md 5), .ref (md 6), .ref (md 7), .ref (md 8), .long (eL up), .long (eL lw), .ref (md 9), .ref (md 10), .ref (md 11), .ref (md 12), .ref (md 13), .ref (md 14), .ref (md 15), .int (eI kn), .int (eI fo)])), ((md 11), aL cL 42 fw), ((md 12), aI cI 42 cs), ((md 13), aL cL 13 (eh_upd G1 i 0)), ((md 14), aL cL 13 G2), ((md 15), aI cI 13 BY)] := hD
      refine lv_aload_n hx hb d_M_better_15 rfl (lv_at hl 1 rfl) ?_
      refine va_get (D := D) (ci := 5) (v := .ref (md 14)) (C := R_M) (T := T_M) (N := 23) hx hb htb in_M hown hK hP 0 rfl rfl 19 (by decide) (htb _ tb_607) (fun _ h9 => h9) rfl d_M_better_16 ?_
      refine lv_iload_n hx hb d_M_better_19 rfl (lv_at hl 0 rfl) ?_
      refine lv_lconst (v := eL 0) hx hb d_M_better_20 (by decide) ?_
      refine we_last hx hb hK hP hD hS 4 1 rfl rfl i rfl (by omega) (by decide) d_M_better_21 (fun H locs hP hD hS => ?_)
      have hP : va_P D classes [((md 0), .inr (5, [.int (eI co), .int (eI ((n : Nat) : Int)), .ref (md 1), .ref (md 2), .ref (md 3), .int (eI sh), .int (eI ra), .ref (md 4), .ref (md 5), .ref (md 6), .ref (md 7), .ref (md 8), .long (eL up), .long (eL lw), .ref (md 9), .ref (md 10), .ref (md 11), .ref (md 12), .ref (md 13), .ref (md 14), .ref (md 15), .int (eI kn), .int (eI fo)])), ((md 11), aL cL 42 fw), ((md 12), aI cI 42 cs), ((md 13), aL cL 13 (eh_upd G1 i 0)), ((md 14), aL cL 13 (eh_upd G2 i 0)), ((md 15), aI cI 13 BY)] H := hP
      have hD : va_D A [((md 0), .inr (5, [.int (eI co), .int (eI ((n : Nat) : Int)), .ref (md 1), .ref (md 2), .ref (md 3), .int (eI sh), .int (eI ra), .ref (md 4), .ref (md 5), .ref (md 6), .ref (md 7), .ref (md 8), .long (eL up), .long (eL lw), .ref (md 9), .ref (md 10), .ref (md 11), .ref (md 12), .ref (md 13), .ref (md 14), .ref (md 15), .int (eI kn), .int (eI fo)])), ((md 11), aL cL 42 fw), ((md 12), aI cI 42 cs), ((md 13), aL cL 13 (eh_upd G1 i 0)), ((md 14), aL cL 13 (eh_upd G2 i 0)), ((md 15), aI cI 13 BY)] := hD
      refine lv_aload_n hx hb d_M_better_22 rfl (lv_at hl 1 rfl) ?_
      refine va_get (D := D) (ci := 5) (v := .ref (md 15)) (C := R_M) (T := T_M) (N := 23) hx hb htb in_M hown hK hP 0 rfl rfl 20 (by decide) (htb _ tb_608) (fun _ h9 => h9) rfl d_M_better_23 ?_
      refine lv_iload_n hx hb d_M_better_26 rfl (lv_at hl 0 rfl) ?_
      refine lv_iconst (v := eI (-1)) hx hb d_M_better_27 rfl ?_
      refine we_iast hx hb hK hP hD hS 5 0 rfl rfl i rfl (by omega) (by decide) d_M_better_28 (fun H locs hP hD hS => ?_)
      have hP : va_P D classes [((md 0), .inr (5, [.int (eI co), .int (eI ((n : Nat) : Int)), .ref (md 1), .ref (md 2), .ref (md 3), .int (eI sh), .int (eI ra), .ref (md 4), .ref (md 5), .ref (md 6), .ref (md 7), .ref (md 8), .long (eL up), .long (eL lw), .ref (md 9), .ref (md 10), .ref (md 11), .ref (md 12), .ref (md 13), .ref (md 14), .ref (md 15), .int (eI kn), .int (eI fo)])), ((md 11), aL cL 42 fw), ((md 12), aI cI 42 cs), ((md 13), aL cL 13 (eh_upd G1 i 0)), ((md 14), aL cL 13 (eh_upd G2 i 0)), ((md 15), aI cI 13 (eh_upd BY i (-1)))] H := hP
      have hD : va_D A [((md 0), .inr (5, [.int (eI co), .int (eI ((n : Nat) : Int)), .ref (md 1), .ref (md 2), .ref (md 3), .int (eI sh), .int (eI ra), .ref (md 4), .ref (md 5), .ref (md 6), .ref (md 7), .ref (md 8), .long (eL up), .long (eL lw), .ref (md 9), .ref (md 10), .ref (md 11), .ref (md 12), .ref (md 13), .ref (md 14), .ref (md 15), .int (eI kn), .int (eI fo)])), ((md 11), aL cL 42 fw), ((md 12), aI cI 42 cs), ((md 13), aL cL 13 (eh_upd G1 i 0)), ((md 14), aL cL 13 (eh_upd G2 i 0)), ((md 15), aI cI 13 (eh_upd BY i (-1)))] := hD
      refine lv_iinc (v := eI (((i : Nat) : Int) + 1)) hx hb d_M_better_29 hl (k := 0) rfl (eI_add _ _) (by decide) rfl (fun ls hl => ?_)
      have hl : lv_has ls 8 [(1, .int (eI (((i : Nat) : Int) + 1))), (0, .ref (md 0))] := hl
      refine lv_goto (tgt := 2) hx hb d_M_better_32 rfl ?_
      exact ih (i + 1) _ _ _ H locs ls (by omega) (by omega) (fun v hv => by
        by_cases w : v = i
        · rw [w, eh_upd_s, eh_upd_s, eh_upd_s]; exact ⟨rfl, rfl, rfl⟩
        · rw [eh_upd_n _ _ w, eh_upd_n _ _ w, eh_upd_n _ _ w]; exact hB v (by omega)) (lv_sub hl [0, 1] rfl) hP hD hS
  exact init 13 0 G10 G20 BY0 s.heap [] ls (by omega) (by omega) (fun v hv => by omega) (lv_sub hl [0, 1] rfl) hP hD hS
