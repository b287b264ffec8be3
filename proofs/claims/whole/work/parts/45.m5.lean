abbrev c_M_shift : ByteArray := prog_7_method_32_code
def y_M_shift : MethodName := ⟨"EarthHaulsModel", "shift", "(I)V"⟩
abbrev k_M_shift : Cond := .code y_M_shift c_M_shift 7 none
theorem kin_M_shift : k_M_shift ∈ ew_t := tb_789
theorem dv_M_shift : eh_dV y_M_shift "EarthHaulsModel" 1 := ⟨rfl, by decide, by decide, by decide +kernel⟩
theorem d_M_shift_0 : decode c_M_shift 0 = .ok (.aload_n 0, 1) := by decide +kernel
theorem d_M_shift_1 : decode c_M_shift 1 = .ok (.getfield 46, 3) := by decide +kernel
theorem d_M_shift_4 : decode c_M_shift 4 = .ok (.iload_n 1, 1) := by decide +kernel
theorem d_M_shift_5 : decode c_M_shift 5 = .ok (.laload, 1) := by decide +kernel
theorem d_M_shift_6 : decode c_M_shift 6 = .ok (.lstore_n 2, 1) := by decide +kernel
theorem d_M_shift_7 : decode c_M_shift 7 = .ok (.iload_n 1, 1) := by decide +kernel
theorem d_M_shift_8 : decode c_M_shift 8 = .ok (.istore 4, 2) := by decide +kernel
theorem d_M_shift_10 : decode c_M_shift 10 = .ok (.aload_n 0, 1) := by decide +kernel
theorem d_M_shift_11 : decode c_M_shift 11 = .ok (.getfield 61, 3) := by decide +kernel
theorem d_M_shift_14 : decode c_M_shift 14 = .ok (.bipush 7, 2) := by decide +kernel
theorem d_M_shift_16 : decode c_M_shift 16 = .ok (.iload 4, 2) := by decide +kernel
theorem d_M_shift_18 : decode c_M_shift 18 = .ok (.iadd, 1) := by decide +kernel
theorem d_M_shift_19 : decode c_M_shift 19 = .ok (.iaload, 1) := by decide +kernel
theorem d_M_shift_20 : decode c_M_shift 20 = .ok (.istore 5, 2) := by decide +kernel
theorem d_M_shift_22 : decode c_M_shift 22 = .ok (.aload_n 0, 1) := by decide +kernel
theorem d_M_shift_23 : decode c_M_shift 23 = .ok (.getfield 61, 3) := by decide +kernel
theorem d_M_shift_26 : decode c_M_shift 26 = .ok (.iload 5, 2) := by decide +kernel
theorem d_M_shift_28 : decode c_M_shift 28 = .ok (.iaload, 1) := by decide +kernel
theorem d_M_shift_29 : decode c_M_shift 29 = .ok (.iload 5, 2) := by decide +kernel
theorem d_M_shift_31 : decode c_M_shift 31 = .ok (.if_icmp .eq 66, 3) := by decide +kernel
theorem d_M_shift_34 : decode c_M_shift 34 = .ok (.aload_n 0, 1) := by decide +kernel
theorem d_M_shift_35 : decode c_M_shift 35 = .ok (.getfield 61, 3) := by decide +kernel
theorem d_M_shift_38 : decode c_M_shift 38 = .ok (.iload 5, 2) := by decide +kernel
theorem d_M_shift_40 : decode c_M_shift 40 = .ok (.iaload, 1) := by decide +kernel
theorem d_M_shift_41 : decode c_M_shift 41 = .ok (.bipush 7, 2) := by decide +kernel
theorem d_M_shift_43 : decode c_M_shift 43 = .ok (.isub, 1) := by decide +kernel
theorem d_M_shift_44 : decode c_M_shift 44 = .ok (.istore 6, 2) := by decide +kernel
theorem d_M_shift_46 : decode c_M_shift 46 = .ok (.aload_n 0, 1) := by decide +kernel
theorem d_M_shift_47 : decode c_M_shift 47 = .ok (.getfield 49, 3) := by decide +kernel
theorem d_M_shift_50 : decode c_M_shift 50 = .ok (.bipush 6, 2) := by decide +kernel
theorem d_M_shift_52 : decode c_M_shift 52 = .ok (.iload 5, 2) := by decide +kernel
theorem d_M_shift_54 : decode c_M_shift 54 = .ok (.imul, 1) := by decide +kernel
theorem d_M_shift_55 : decode c_M_shift 55 = .ok (.iload 6, 2) := by decide +kernel
theorem d_M_shift_57 : decode c_M_shift 57 = .ok (.iadd, 1) := by decide +kernel
theorem d_M_shift_58 : decode c_M_shift 58 = .ok (.laload, 1) := by decide +kernel
theorem d_M_shift_59 : decode c_M_shift 59 = .ok (.lload_n 2, 1) := by decide +kernel
theorem d_M_shift_60 : decode c_M_shift 60 = .ok (.lcmp, 1) := by decide +kernel
theorem d_M_shift_61 : decode c_M_shift 61 = .ok (.ifCond .ge 19, 3) := by decide +kernel
theorem d_M_shift_64 : decode c_M_shift 64 = .ok (.aload_n 0, 1) := by decide +kernel
theorem d_M_shift_65 : decode c_M_shift 65 = .ok (.getfield 49, 3) := by decide +kernel
theorem d_M_shift_68 : decode c_M_shift 68 = .ok (.bipush 6, 2) := by decide +kernel
theorem d_M_shift_70 : decode c_M_shift 70 = .ok (.iload 5, 2) := by decide +kernel
theorem d_M_shift_72 : decode c_M_shift 72 = .ok (.imul, 1) := by decide +kernel
theorem d_M_shift_73 : decode c_M_shift 73 = .ok (.iload 6, 2) := by decide +kernel
theorem d_M_shift_75 : decode c_M_shift 75 = .ok (.iadd, 1) := by decide +kernel
theorem d_M_shift_76 : decode c_M_shift 76 = .ok (.laload, 1) := by decide +kernel
theorem d_M_shift_77 : decode c_M_shift 77 = .ok (.goto 4, 3) := by decide +kernel
theorem d_M_shift_80 : decode c_M_shift 80 = .ok (.lload_n 2, 1) := by decide +kernel
theorem d_M_shift_81 : decode c_M_shift 81 = .ok (.lstore_n 2, 1) := by decide +kernel
theorem d_M_shift_82 : decode c_M_shift 82 = .ok (.aload_n 0, 1) := by decide +kernel
theorem d_M_shift_83 : decode c_M_shift 83 = .ok (.getfield 61, 3) := by decide +kernel
theorem d_M_shift_86 : decode c_M_shift 86 = .ok (.bipush 7, 2) := by decide +kernel
theorem d_M_shift_88 : decode c_M_shift 88 = .ok (.iload 6, 2) := by decide +kernel
theorem d_M_shift_90 : decode c_M_shift 90 = .ok (.iadd, 1) := by decide +kernel
theorem d_M_shift_91 : decode c_M_shift 91 = .ok (.iaload, 1) := by decide +kernel
theorem d_M_shift_92 : decode c_M_shift 92 = .ok (.istore 5, 2) := by decide +kernel
theorem d_M_shift_94 : decode c_M_shift 94 = .ok (.goto (-72), 3) := by decide +kernel
theorem d_M_shift_97 : decode c_M_shift 97 = .ok (.aload_n 0, 1) := by decide +kernel
theorem d_M_shift_98 : decode c_M_shift 98 = .ok (.getfield 42, 3) := by decide +kernel
theorem d_M_shift_101 : decode c_M_shift 101 = .ok (.iload 5, 2) := by decide +kernel
theorem d_M_shift_103 : decode c_M_shift 103 = .ok (.laload, 1) := by decide +kernel
theorem d_M_shift_104 : decode c_M_shift 104 = .ok (.lload_n 2, 1) := by decide +kernel
theorem d_M_shift_105 : decode c_M_shift 105 = .ok (.lcmp, 1) := by decide +kernel
theorem d_M_shift_106 : decode c_M_shift 106 = .ok (.ifCond .ge 13, 3) := by decide +kernel
theorem d_M_shift_109 : decode c_M_shift 109 = .ok (.aload_n 0, 1) := by decide +kernel
theorem d_M_shift_110 : decode c_M_shift 110 = .ok (.getfield 42, 3) := by decide +kernel
theorem d_M_shift_113 : decode c_M_shift 113 = .ok (.iload 5, 2) := by decide +kernel
theorem d_M_shift_115 : decode c_M_shift 115 = .ok (.laload, 1) := by decide +kernel
theorem d_M_shift_116 : decode c_M_shift 116 = .ok (.goto 4, 3) := by decide +kernel
theorem d_M_shift_119 : decode c_M_shift 119 = .ok (.lload_n 2, 1) := by decide +kernel
theorem d_M_shift_120 : decode c_M_shift 120 = .ok (.lstore_n 2, 1) := by decide +kernel
theorem d_M_shift_121 : decode c_M_shift 121 = .ok (.aload_n 0, 1) := by decide +kernel
theorem d_M_shift_122 : decode c_M_shift 122 = .ok (.getfield 42, 3) := by decide +kernel
theorem d_M_shift_125 : decode c_M_shift 125 = .ok (.iload 5, 2) := by decide +kernel
theorem d_M_shift_127 : decode c_M_shift 127 = .ok (.aload_n 0, 1) := by decide +kernel
theorem d_M_shift_128 : decode c_M_shift 128 = .ok (.getfield 42, 3) := by decide +kernel
theorem d_M_shift_131 : decode c_M_shift 131 = .ok (.iload 5, 2) := by decide +kernel
theorem d_M_shift_133 : decode c_M_shift 133 = .ok (.laload, 1) := by decide +kernel
theorem d_M_shift_134 : decode c_M_shift 134 = .ok (.lload_n 2, 1) := by decide +kernel
theorem d_M_shift_135 : decode c_M_shift 135 = .ok (.lsub, 1) := by decide +kernel
theorem d_M_shift_136 : decode c_M_shift 136 = .ok (.lastore, 1) := by decide +kernel
theorem d_M_shift_137 : decode c_M_shift 137 = .ok (.aload_n 0, 1) := by decide +kernel
theorem d_M_shift_138 : decode c_M_shift 138 = .ok (.getfield 46, 3) := by decide +kernel
theorem d_M_shift_141 : decode c_M_shift 141 = .ok (.iload_n 1, 1) := by decide +kernel
theorem d_M_shift_142 : decode c_M_shift 142 = .ok (.aload_n 0, 1) := by decide +kernel
theorem d_M_shift_143 : decode c_M_shift 143 = .ok (.getfield 46, 3) := by decide +kernel
theorem d_M_shift_146 : decode c_M_shift 146 = .ok (.iload_n 1, 1) := by decide +kernel
theorem d_M_shift_147 : decode c_M_shift 147 = .ok (.laload, 1) := by decide +kernel
theorem d_M_shift_148 : decode c_M_shift 148 = .ok (.lload_n 2, 1) := by decide +kernel
theorem d_M_shift_149 : decode c_M_shift 149 = .ok (.lsub, 1) := by decide +kernel
theorem d_M_shift_150 : decode c_M_shift 150 = .ok (.lastore, 1) := by decide +kernel
theorem d_M_shift_151 : decode c_M_shift 151 = .ok (.aload_n 0, 1) := by decide +kernel
theorem d_M_shift_152 : decode c_M_shift 152 = .ok (.getfield 61, 3) := by decide +kernel
theorem d_M_shift_155 : decode c_M_shift 155 = .ok (.bipush 7, 2) := by decide +kernel
theorem d_M_shift_157 : decode c_M_shift 157 = .ok (.iload 4, 2) := by decide +kernel
theorem d_M_shift_159 : decode c_M_shift 159 = .ok (.iadd, 1) := by decide +kernel
theorem d_M_shift_160 : decode c_M_shift 160 = .ok (.iaload, 1) := by decide +kernel
theorem d_M_shift_161 : decode c_M_shift 161 = .ok (.istore 5, 2) := by decide +kernel
theorem d_M_shift_163 : decode c_M_shift 163 = .ok (.aload_n 0, 1) := by decide +kernel
theorem d_M_shift_164 : decode c_M_shift 164 = .ok (.getfield 49, 3) := by decide +kernel
theorem d_M_shift_167 : decode c_M_shift 167 = .ok (.bipush 6, 2) := by decide +kernel
theorem d_M_shift_169 : decode c_M_shift 169 = .ok (.iload 5, 2) := by decide +kernel
theorem d_M_shift_171 : decode c_M_shift 171 = .ok (.imul, 1) := by decide +kernel
theorem d_M_shift_172 : decode c_M_shift 172 = .ok (.iload 4, 2) := by decide +kernel
theorem d_M_shift_174 : decode c_M_shift 174 = .ok (.iadd, 1) := by decide +kernel
theorem d_M_shift_175 : decode c_M_shift 175 = .ok (.aload_n 0, 1) := by decide +kernel
theorem d_M_shift_176 : decode c_M_shift 176 = .ok (.getfield 49, 3) := by decide +kernel
theorem d_M_shift_179 : decode c_M_shift 179 = .ok (.bipush 6, 2) := by decide +kernel
theorem d_M_shift_181 : decode c_M_shift 181 = .ok (.iload 5, 2) := by decide +kernel
theorem d_M_shift_183 : decode c_M_shift 183 = .ok (.imul, 1) := by decide +kernel
theorem d_M_shift_184 : decode c_M_shift 184 = .ok (.iload 4, 2) := by decide +kernel
theorem d_M_shift_186 : decode c_M_shift 186 = .ok (.iadd, 1) := by decide +kernel
theorem d_M_shift_187 : decode c_M_shift 187 = .ok (.laload, 1) := by decide +kernel
theorem d_M_shift_188 : decode c_M_shift 188 = .ok (.lload_n 2, 1) := by decide +kernel
theorem d_M_shift_189 : decode c_M_shift 189 = .ok (.ladd, 1) := by decide +kernel
theorem d_M_shift_190 : decode c_M_shift 190 = .ok (.lastore, 1) := by decide +kernel
theorem d_M_shift_191 : decode c_M_shift 191 = .ok (.aload_n 0, 1) := by decide +kernel
theorem d_M_shift_192 : decode c_M_shift 192 = .ok (.getfield 61, 3) := by decide +kernel
theorem d_M_shift_195 : decode c_M_shift 195 = .ok (.iload 5, 2) := by decide +kernel
theorem d_M_shift_197 : decode c_M_shift 197 = .ok (.iaload, 1) := by decide +kernel
theorem d_M_shift_198 : decode c_M_shift 198 = .ok (.iload 5, 2) := by decide +kernel
theorem d_M_shift_200 : decode c_M_shift 200 = .ok (.if_icmp .eq 86, 3) := by decide +kernel
theorem d_M_shift_203 : decode c_M_shift 203 = .ok (.aload_n 0, 1) := by decide +kernel
theorem d_M_shift_204 : decode c_M_shift 204 = .ok (.getfield 61, 3) := by decide +kernel
theorem d_M_shift_207 : decode c_M_shift 207 = .ok (.iload 5, 2) := by decide +kernel
theorem d_M_shift_209 : decode c_M_shift 209 = .ok (.iaload, 1) := by decide +kernel
theorem d_M_shift_210 : decode c_M_shift 210 = .ok (.bipush 7, 2) := by decide +kernel
theorem d_M_shift_212 : decode c_M_shift 212 = .ok (.isub, 1) := by decide +kernel
theorem d_M_shift_213 : decode c_M_shift 213 = .ok (.istore 4, 2) := by decide +kernel
theorem d_M_shift_215 : decode c_M_shift 215 = .ok (.aload_n 0, 1) := by decide +kernel
theorem d_M_shift_216 : decode c_M_shift 216 = .ok (.getfield 49, 3) := by decide +kernel
theorem d_M_shift_219 : decode c_M_shift 219 = .ok (.bipush 6, 2) := by decide +kernel
theorem d_M_shift_221 : decode c_M_shift 221 = .ok (.iload 5, 2) := by decide +kernel
theorem d_M_shift_223 : decode c_M_shift 223 = .ok (.imul, 1) := by decide +kernel
theorem d_M_shift_224 : decode c_M_shift 224 = .ok (.iload 4, 2) := by decide +kernel
theorem d_M_shift_226 : decode c_M_shift 226 = .ok (.iadd, 1) := by decide +kernel
theorem d_M_shift_227 : decode c_M_shift 227 = .ok (.aload_n 0, 1) := by decide +kernel
theorem d_M_shift_228 : decode c_M_shift 228 = .ok (.getfield 49, 3) := by decide +kernel
theorem d_M_shift_231 : decode c_M_shift 231 = .ok (.bipush 6, 2) := by decide +kernel
theorem d_M_shift_233 : decode c_M_shift 233 = .ok (.iload 5, 2) := by decide +kernel
theorem d_M_shift_235 : decode c_M_shift 235 = .ok (.imul, 1) := by decide +kernel
theorem d_M_shift_236 : decode c_M_shift 236 = .ok (.iload 4, 2) := by decide +kernel
theorem d_M_shift_238 : decode c_M_shift 238 = .ok (.iadd, 1) := by decide +kernel
theorem d_M_shift_239 : decode c_M_shift 239 = .ok (.laload, 1) := by decide +kernel
theorem d_M_shift_240 : decode c_M_shift 240 = .ok (.lload_n 2, 1) := by decide +kernel
theorem d_M_shift_241 : decode c_M_shift 241 = .ok (.lsub, 1) := by decide +kernel
theorem d_M_shift_242 : decode c_M_shift 242 = .ok (.lastore, 1) := by decide +kernel
theorem d_M_shift_243 : decode c_M_shift 243 = .ok (.aload_n 0, 1) := by decide +kernel
theorem d_M_shift_244 : decode c_M_shift 244 = .ok (.getfield 61, 3) := by decide +kernel
theorem d_M_shift_247 : decode c_M_shift 247 = .ok (.bipush 7, 2) := by decide +kernel
theorem d_M_shift_249 : decode c_M_shift 249 = .ok (.iload 4, 2) := by decide +kernel
theorem d_M_shift_251 : decode c_M_shift 251 = .ok (.iadd, 1) := by decide +kernel
theorem d_M_shift_252 : decode c_M_shift 252 = .ok (.iaload, 1) := by decide +kernel
theorem d_M_shift_253 : decode c_M_shift 253 = .ok (.istore 5, 2) := by decide +kernel
theorem d_M_shift_255 : decode c_M_shift 255 = .ok (.aload_n 0, 1) := by decide +kernel
theorem d_M_shift_256 : decode c_M_shift 256 = .ok (.getfield 49, 3) := by decide +kernel
theorem d_M_shift_259 : decode c_M_shift 259 = .ok (.bipush 6, 2) := by decide +kernel
theorem d_M_shift_261 : decode c_M_shift 261 = .ok (.iload 5, 2) := by decide +kernel
theorem d_M_shift_263 : decode c_M_shift 263 = .ok (.imul, 1) := by decide +kernel
theorem d_M_shift_264 : decode c_M_shift 264 = .ok (.iload 4, 2) := by decide +kernel
theorem d_M_shift_266 : decode c_M_shift 266 = .ok (.iadd, 1) := by decide +kernel
theorem d_M_shift_267 : decode c_M_shift 267 = .ok (.aload_n 0, 1) := by decide +kernel
theorem d_M_shift_268 : decode c_M_shift 268 = .ok (.getfield 49, 3) := by decide +kernel
theorem d_M_shift_271 : decode c_M_shift 271 = .ok (.bipush 6, 2) := by decide +kernel
theorem d_M_shift_273 : decode c_M_shift 273 = .ok (.iload 5, 2) := by decide +kernel
theorem d_M_shift_275 : decode c_M_shift 275 = .ok (.imul, 1) := by decide +kernel
theorem d_M_shift_276 : decode c_M_shift 276 = .ok (.iload 4, 2) := by decide +kernel
theorem d_M_shift_278 : decode c_M_shift 278 = .ok (.iadd, 1) := by decide +kernel
theorem d_M_shift_279 : decode c_M_shift 279 = .ok (.laload, 1) := by decide +kernel
theorem d_M_shift_280 : decode c_M_shift 280 = .ok (.lload_n 2, 1) := by decide +kernel
theorem d_M_shift_281 : decode c_M_shift 281 = .ok (.ladd, 1) := by decide +kernel
theorem d_M_shift_282 : decode c_M_shift 282 = .ok (.lastore, 1) := by decide +kernel
theorem d_M_shift_283 : decode c_M_shift 283 = .ok (.goto (-92), 3) := by decide +kernel
theorem d_M_shift_286 : decode c_M_shift 286 = .ok (.return_, 1) := by decide +kernel
set_option maxHeartbeats 1000000 in
set_option maxRecDepth 100000 in
theorem m_M_shift (l : Launch) (D : va_G) (cI cL cZ : ClassId) (md : Nat → Nat) (co : Int) (n : Nat) (sh ra up lw kn fo : Int) (cc9 Sv Dv su de fw cs BY : Nat → Int) (rk : Nat → Nat) (tk : Nat) (htk : tk < 6) (hf : eh_rf cc9 Sv Dv fw su de) (hcs : ∀ y z, y < 7 → z < 6 → cs (6 * y + z) = eh_rc cc9 y z) (hbt : eh_bt cs fw su BY rk) (hby : 0 ≤ BY (7 + tk)) (hde : 0 < de tk ∧ de tk ≤ 1000000000000) (hsu : ∀ y, y < 7 → 0 ≤ su y ∧ su y ≤ 1000000000000) (hfw : ∀ k, k < 42 → 0 ≤ fw k ∧ fw k ≤ 1000000000000) : eh_M (S := (Nat → Int) × (Nat → Int) × (Nat → Int)) l y_M_shift k_M_shift 0 0 D classes [(cI, .int), (cL, .long), (cZ, .boolean)] [.ref (md 0), .int (eI ((tk : Nat) : Int))] [((md 0), .inr (5, [.int (eI co), .int (eI ((n : Nat) : Int)), .ref (md 1), .ref (md 2), .ref (md 3), .int (eI sh), .int (eI ra), .ref (md 4), .ref (md 5), .ref (md 6), .ref (md 7), .ref (md 8), .long (eL up), .long (eL lw), .ref (md 9), .ref (md 10), .ref (md 11), .ref (md 12), .ref (md 13), .ref (md 14), .ref (md 15), .int (eI kn), .int (eI fo)])), ((md 9), aL cL 7 su), ((md 10), aL cL 6 de), ((md 11), aL cL 42 fw), ((md 15), aI cI 13 BY)] (fun u => eh_rf cc9 Sv Dv u.2.2 u.1 u.2.1 ∧ eh_sm u.2.1 6 < eh_sm de 6) (fun _ => none) (fun u => [((md 0), .inr (5, [.int (eI co), .int (eI ((n : Nat) : Int)), .ref (md 1), .ref (md 2), .ref (md 3), .int (eI sh), .int (eI ra), .ref (md 4), .ref (md 5), .ref (md 6), .ref (md 7), .ref (md 8), .long (eL up), .long (eL lw), .ref (md 9), .ref (md 10), .ref (md 11), .ref (md 12), .ref (md 13), .ref (md 14), .ref (md 15), .int (eI kn), .int (eI fo)])), ((md 9), aL cL 7 u.1), ((md 10), aL cL 6 u.2.1), ((md 11), aL cL 42 u.2.2), ((md 15), aI cI 13 BY)]) := by
  intro sz
  refine Met.ofW (cc := c_M_shift) (maxL := 7) (ret := none) (by decide) rfl ?_
  intro p e s m args below meth c s₁ B hml hv
  obtain ⟨hargs, hsz, hP, hK, hD0, hN⟩ := hv
  have hx := B.exec
  have hb := B.bytes
  have hrt := B.returns
  have hts := atoms_spec (ws := k_M_shift :: ew_t) B.pre
  have htb : ∀ w ∈ ew_t, w.before args s = true := fun w h => hts w (List.mem_cons_of_mem _ h)
  have hown : s.vm.findClass "EarthHaulsModel" = some m.cls := findClass_of_methodNamed B.named
  have hlocks := B.notSynchronized
  have hE : entryFrame m args 7 = entryFrame m ([.ref (md 0), .int (eI ((tk : Nat) : Int))] : List Value).toArray 7 := by rw [hargs]
  rw [hE]
  clear hE hts B hargs
  generalize hRe : (headSpec _ _).room = R
  have hR1 : R.frames = 0 := by rw [← hRe]; rfl
  have hR2 : R.locals = 0 := by rw [← hRe]; rfl
  clear hRe
  generalize hQ : MQ below _ _ s 0 0 _ = Q
  subst hsz
  have hD := hD0.self (sz := s.heap.size)
  generalize hAe : va_A [((md 0), .inr (5, [.int (eI co), .int (eI ((n : Nat) : Int)), .ref (md 1), .ref (md 2), .ref (md 3), .int (eI sh), .int (eI ra), .ref (md 4), .ref (md 5), .ref (md 6), .ref (md 7), .ref (md 8), .long (eL up), .long (eL lw), .ref (md 9), .ref (md 10), .ref (md 11), .ref (md 12), .ref (md 13), .ref (md 14), .ref (md 15), .int (eI kn), .int (eI fo)])), ((md 9), aL cL 7 su), ((md 10), aL cL 6 de), ((md 11), aL cL 42 fw), ((md 15), aI cI 13 BY)] s.heap.size = A at hD hQ
  have hA : ∀ q : Nat, s.heap.size ≤ q → A q := fun q h => by rw [← hAe]; exact Or.inr h
  have hS : va_S A s.heap s.heap [] := va_S.rf
  have hP : va_P D classes [((md 0), .inr (5, [.int (eI co), .int (eI ((n : Nat) : Int)), .ref (md 1), .ref (md 2), .ref (md 3), .int (eI sh), .int (eI ra), .ref (md 4), .ref (md 5), .ref (md 6), .ref (md 7), .ref (md 8), .long (eL up), .long (eL lw), .ref (md 9), .ref (md 10), .ref (md 11), .ref (md 12), .ref (md 13), .ref (md 14), .ref (md 15), .int (eI kn), .int (eI fo)])), ((md 9), aL cL 7 su), ((md 10), aL cL 6 de), ((md 11), aL cL 42 fw), ((md 15), aI cI 13 BY)] s.heap := hP
  have hl := lv_entry ([.ref (md 0), .int (eI ((tk : Nat) : Int))]) (n := 7) (Nat.le_of_ble_eq_true rfl)
  rw [lg_entry_eq]
  generalize (lg_sl ([.ref (md 0), .int (eI ((tk : Nat) : Int))]) ++ List.replicate (7 - (lg_sl ([.ref (md 0), .int (eI ((tk : Nat) : Int))])).length) Slot.unset).toArray = ls at hl ⊢
  have hl : lv_has ls 7 [(0, .ref (md 0)), (1, .int (eI ((tk : Nat) : Int)))] := hl
  obtain ⟨s0, hs0, hb0, hc0, hb00, hr0⟩ := hbt.2.2 tk htk hby
  have hBd := hbt.1
  have loop2 : ∀ (nn : Int) (sK : Nat) (V : Nat → Prop), eh_V fw BY nn s0 sK V → ((sK : Nat) : Int) = BY sK → (0 < nn ∧ nn ≤ su sK ∧ nn ≤ de tk) → ∀ (q y : Nat) (G : Nat → Int) (H : Heap) (locs : List Loc) (ls : Array Slot), rk y = q → eh_s2 cs fw BY rk nn tk sK V y G → lv_has ls 7 [(5, .int (eI ((y : Nat) : Int))), (2, .long (eL nn)), (0, .ref (md 0))] → va_P D classes [((md 0), .inr (5, [.int (eI co), .int (eI ((n : Nat) : Int)), .ref (md 1), .ref (md 2), .ref (md 3), .int (eI sh), .int (eI ra), .ref (md 4), .ref (md 5), .ref (md 6), .ref (md 7), .ref (md 8), .long (eL up), .long (eL lw), .ref (md 9), .ref (md 10), .ref (md 11), .ref (md 12), .ref (md 13), .ref (md 14), .ref (md 15), .int (eI kn), .int (eI fo)])), ((md 9), aL cL 7 (eh_upd su sK (su sK - nn))), ((md 10), aL cL 6 (eh_upd de tk (de tk - nn))), ((md 11), aL cL 42 G), ((md 15), aI cI 13 BY)] H → va_D A [((md 0), .inr (5, [.int (eI co), .int (eI ((n : Nat) : Int)), .ref (md 1), .ref (md 2), .ref (md 3), .int (eI sh), .int (eI ra), .ref (md 4), .ref (md 5), .ref (md 6), .ref (md 7), .ref (md 8), .long (eL up), .long (eL lw), .ref (md 9), .ref (md 10), .ref (md 11), .ref (md 12), .ref (md 13), .ref (md 14), .ref (md 15), .int (eI kn), .int (eI fo)])), ((md 9), aL cL 7 (eh_upd su sK (su sK - nn))), ((md 10), aL cL 6 (eh_upd de tk (de tk - nn))), ((md 11), aL cL 42 G), ((md 15), aI cI 13 BY)] → va_S A s.heap H locs → W p l e R s m args below meth c H locs 0 0 Q (F0 m 191 ls []) := by
    intro nn sK V hV hKy hnn q
    induction q using Nat.strongRecOn with
    | ind q ih =>
      intro y G H locs ls hq h2 hl hP hD hS
      have hy7 := h2.1
      have hby1 := h2.2.1
      have hBy := hBd y (by omega)
      refine lv_aload_n hx hb d_M_shift_191 rfl (lv_at hl 2 rfl) ?_
      refine va_get (D := D) (ci := 5) (v := .ref (md 15)) (C := R_M) (T := T_M) (N := 23) hx hb htb in_M hown hK hP 0 rfl rfl 20 (by decide) (htb _ tb_608) (fun _ h9 => h9) rfl d_M_shift_192 ?_
      refine lv_iload hx hb d_M_shift_195 (lv_at hl 0 rfl) ?_
      refine we_iald hx hb hK hP 4 0 rfl rfl y rfl (by omega) (by decide) d_M_shift_197 ?_
      refine lv_iload hx hb d_M_shift_198 (lv_at hl 0 rfl) ?_
      refine we_icmp_eq (tgt := 286) hx hb (by constructor <;> omega) (by constructor <;> omega) d_M_shift_200 rfl (fun hc200 => ?_) (fun hc200 => ?_)
      ·
        have hend := eh_s2_end h2 hV (by omega) hf hcs hnn htk
        subst hQ
        exact W.vret hx hb hrt (fun t9 ht hW => ⟨⟨((eh_upd su sK (su sK - nn)), (eh_upd de tk (de tk - nn)), G), rfl, hend, by rw [ht]; exact hP, hD⟩, hS.F ht⟩) hS.2.2 d_M_shift_286
      ·
        obtain ⟨t1, y1, ht1, hy1, hb1, hb2, hf1, hc1, hb3, hr1⟩ := eh_bt_step hbt hy7 hby1 (by omega)
        refine lv_aload_n hx hb d_M_shift_203 rfl (lv_at hl 2 rfl) ?_
        refine va_get (D := D) (ci := 5) (v := .ref (md 15)) (C := R_M) (T := T_M) (N := 23) hx hb htb in_M hown hK hP 0 rfl rfl 20 (by decide) (htb _ tb_608) (fun _ h9 => h9) rfl d_M_shift_204 ?_
        refine lv_iload hx hb d_M_shift_207 (lv_at hl 0 rfl) ?_
        refine we_iald hx hb hK hP 4 0 rfl rfl y rfl (by omega) (by decide) d_M_shift_209 ?_
        refine lv_bipush (v := eI 7) hx hb d_M_shift_210 (by decide) ?_
        refine we_isub hx hb d_M_shift_212 ?_
        refine lv_istore hx hb d_M_shift_213 hl (by decide) rfl (fun ls hl => ?_)
        have hl : lv_has ls 7 [(4, .int (eI ((BY y) - 7))), (5, .int (eI ((y : Nat) : Int))), (2, .long (eL nn)), (0, .ref (md 0))] := hl
        refine lv_aload_n hx hb d_M_shift_215 rfl (lv_at hl 3 rfl) ?_
        refine va_get (D := D) (ci := 5) (v := .ref (md 11)) (C := R_M) (T := T_M) (N := 23) hx hb htb in_M hown hK hP 0 rfl rfl 16 (by decide) (htb _ tb_604) (fun _ h9 => h9) rfl d_M_shift_216 ?_
        refine lv_bipush (v := eI 6) hx hb d_M_shift_219 (by decide) ?_
        refine lv_iload hx hb d_M_shift_221 (lv_at hl 1 rfl) ?_
        refine we_imul hx hb d_M_shift_223 ?_
        refine lv_iload hx hb d_M_shift_224 (lv_at hl 0 rfl) ?_
        refine we_iadd hx hb d_M_shift_226 ?_
        refine lv_aload_n hx hb d_M_shift_227 rfl (lv_at hl 3 rfl) ?_
        refine va_get (D := D) (ci := 5) (v := .ref (md 11)) (C := R_M) (T := T_M) (N := 23) hx hb htb in_M hown hK hP 0 rfl rfl 16 (by decide) (htb _ tb_604) (fun _ h9 => h9) rfl d_M_shift_228 ?_
        refine lv_bipush (v := eI 6) hx hb d_M_shift_231 (by decide) ?_
        refine lv_iload hx hb d_M_shift_233 (lv_at hl 1 rfl) ?_
        refine we_imul hx hb d_M_shift_235 ?_
        refine lv_iload hx hb d_M_shift_236 (lv_at hl 0 rfl) ?_
        refine we_iadd hx hb d_M_shift_238 ?_
        refine we_lald hx hb hK hP 3 1 rfl rfl (6 * y + t1) (by omega) (by omega) (by decide) d_M_shift_239 ?_
        refine lv_lload_n hx hb d_M_shift_240 rfl (lv_at hl 2 rfl) ?_
        refine we_lsub hx hb d_M_shift_241 ?_
        refine we_last hx hb hK hP hD hS 3 1 rfl rfl (6 * y + t1) (by omega) (by omega) (by decide) d_M_shift_242 (fun H locs hP hD hS => ?_)
        have hP : va_P D classes [((md 0), .inr (5, [.int (eI co), .int (eI ((n : Nat) : Int)), .ref (md 1), .ref (md 2), .ref (md 3), .int (eI sh), .int (eI ra), .ref (md 4), .ref (md 5), .ref (md 6), .ref (md 7), .ref (md 8), .long (eL up), .long (eL lw), .ref (md 9), .ref (md 10), .ref (md 11), .ref (md 12), .ref (md 13), .ref (md 14), .ref (md 15), .int (eI kn), .int (eI fo)])), ((md 9), aL cL 7 (eh_upd su sK (su sK - nn))), ((md 10), aL cL 6 (eh_upd de tk (de tk - nn))), ((md 11), aL cL 42 (eh_upd G (6 * y + t1) ((G (6 * y + t1)) - nn))), ((md 15), aI cI 13 BY)] H := hP
        have hD : va_D A [((md 0), .inr (5, [.int (eI co), .int (eI ((n : Nat) : Int)), .ref (md 1), .ref (md 2), .ref (md 3), .int (eI sh), .int (eI ra), .ref (md 4), .ref (md 5), .ref (md 6), .ref (md 7), .ref (md 8), .long (eL up), .long (eL lw), .ref (md 9), .ref (md 10), .ref (md 11), .ref (md 12), .ref (md 13), .ref (md 14), .ref (md 15), .int (eI kn), .int (eI fo)])), ((md 9), aL cL 7 (eh_upd su sK (su sK - nn))), ((md 10), aL cL 6 (eh_upd de tk (de tk - nn))), ((md 11), aL cL 42 (eh_upd G (6 * y + t1) ((G (6 * y + t1)) - nn))), ((md 15), aI cI 13 BY)] := hD
        refine lv_aload_n hx hb d_M_shift_243 rfl (lv_at hl 3 rfl) ?_
        refine va_get (D := D) (ci := 5) (v := .ref (md 15)) (C := R_M) (T := T_M) (N := 23) hx hb htb in_M hown hK hP 0 rfl rfl 20 (by decide) (htb _ tb_608) (fun _ h9 => h9) rfl d_M_shift_244 ?_
        refine lv_bipush (v := eI 7) hx hb d_M_shift_247 (by decide) ?_
        refine lv_iload hx hb d_M_shift_249 (lv_at hl 0 rfl) ?_
        refine we_iadd hx hb d_M_shift_251 ?_
        refine we_iald hx hb hK hP 4 0 rfl rfl (7 + t1) (by omega) (by omega) (by decide) d_M_shift_252 ?_
        refine lv_istore hx hb d_M_shift_253 hl (by decide) rfl (fun ls hl => ?_)
        have hl : lv_has ls 7 [(5, .int (eI (BY (7 + t1)))), (4, .int (eI ((BY y) - 7))), (2, .long (eL nn)), (0, .ref (md 0))] := hl
        refine lv_aload_n hx hb d_M_shift_255 rfl (lv_at hl 3 rfl) ?_
        refine va_get (D := D) (ci := 5) (v := .ref (md 11)) (C := R_M) (T := T_M) (N := 23) hx hb htb in_M hown hK hP 0 rfl rfl 16 (by decide) (htb _ tb_604) (fun _ h9 => h9) rfl d_M_shift_256 ?_
        refine lv_bipush (v := eI 6) hx hb d_M_shift_259 (by decide) ?_
        refine lv_iload hx hb d_M_shift_261 (lv_at hl 0 rfl) ?_
        refine we_imul hx hb d_M_shift_263 ?_
        refine lv_iload hx hb d_M_shift_264 (lv_at hl 1 rfl) ?_
        refine we_iadd hx hb d_M_shift_266 ?_
        refine lv_aload_n hx hb d_M_shift_267 rfl (lv_at hl 3 rfl) ?_
        refine va_get (D := D) (ci := 5) (v := .ref (md 11)) (C := R_M) (T := T_M) (N := 23) hx hb htb in_M hown hK hP 0 rfl rfl 16 (by decide) (htb _ tb_604) (fun _ h9 => h9) rfl d_M_shift_268 ?_
        refine lv_bipush (v := eI 6) hx hb d_M_shift_271 (by decide) ?_
        refine lv_iload hx hb d_M_shift_273 (lv_at hl 0 rfl) ?_
        refine we_imul hx hb d_M_shift_275 ?_
        refine lv_iload hx hb d_M_shift_276 (lv_at hl 1 rfl) ?_
        refine we_iadd hx hb d_M_shift_278 ?_
        refine we_lald hx hb hK hP 3 1 rfl rfl (6 * y1 + t1) (by omega) (by omega) (by decide) d_M_shift_279 ?_
        refine lv_lload_n hx hb d_M_shift_280 rfl (lv_at hl 2 rfl) ?_
        refine we_ladd hx hb d_M_shift_281 ?_
        refine we_last hx hb hK hP hD hS 3 1 rfl rfl (6 * y1 + t1) (by omega) (by omega) (by decide) d_M_shift_282 (fun H locs hP hD hS => ?_)
        have hP : va_P D classes [((md 0), .inr (5, [.int (eI co), .int (eI ((n : Nat) : Int)), .ref (md 1), .ref (md 2), .ref (md 3), .int (eI sh), .int (eI ra), .ref (md 4), .ref (md 5), .ref (md 6), .ref (md 7), .ref (md 8), .long (eL up), .long (eL lw), .ref (md 9), .ref (md 10), .ref (md 11), .ref (md 12), .ref (md 13), .ref (md 14), .ref (md 15), .int (eI kn), .int (eI fo)])), ((md 9), aL cL 7 (eh_upd su sK (su sK - nn))), ((md 10), aL cL 6 (eh_upd de tk (de tk - nn))), ((md 11), aL cL 42 (eh_upd (eh_upd G (6 * y + t1) ((G (6 * y + t1)) - nn)) (6 * y1 + t1) (((eh_upd G (6 * y + t1) ((G (6 * y + t1)) - nn)) (6 * y1 + t1)) + nn))), ((md 15), aI cI 13 BY)] H := hP
        have hD : va_D A [((md 0), .inr (5, [.int (eI co), .int (eI ((n : Nat) : Int)), .ref (md 1), .ref (md 2), .ref (md 3), .int (eI sh), .int (eI ra), .ref (md 4), .ref (md 5), .ref (md 6), .ref (md 7), .ref (md 8), .long (eL up), .long (eL lw), .ref (md 9), .ref (md 10), .ref (md 11), .ref (md 12), .ref (md 13), .ref (md 14), .ref (md 15), .int (eI kn), .int (eI fo)])), ((md 9), aL cL 7 (eh_upd su sK (su sK - nn))), ((md 10), aL cL 6 (eh_upd de tk (de tk - nn))), ((md 11), aL cL 42 (eh_upd (eh_upd G (6 * y + t1) ((G (6 * y + t1)) - nn)) (6 * y1 + t1) (((eh_upd G (6 * y + t1) ((G (6 * y + t1)) - nn)) (6 * y1 + t1)) + nn))), ((md 15), aI cI 13 BY)] := hD
        refine lv_goto (tgt := 191) hx hb d_M_shift_283 rfl ?_
        rw [hb2] at hl
        exact ih (rk y1) (by omega) y1 _ H locs ls rfl (eh_s2_step h2 hV hnn.1 hKy ht1 hy1 hb1 hb2 hc1 hb3 hr1) (lv_sub hl [0, 2, 3] rfl) hP hD hS
  have hf0 : ∀ v t, v < 7 → t < 6 → 0 ≤ fw (6 * v + t) ∧ (cs (6 * v + t) < 0 → fw (6 * v + t) = 0) := fun v t hv ht => by rw [hcs v t hv ht]; exact hf.1 v t hv ht
  refine lv_aload_n hx hb d_M_shift_0 rfl (lv_at hl 0 rfl) ?_
  refine va_get (D := D) (ci := 5) (v := .ref (md 10)) (C := R_M) (T := T_M) (N := 23) hx hb htb in_M hown hK hP 0 rfl rfl 15 (by decide) (htb _ tb_603) (fun _ h9 => h9) rfl d_M_shift_1 ?_
  refine lv_iload_n hx hb d_M_shift_4 rfl (lv_at hl 1 rfl) ?_
  refine we_lald hx hb hK hP 2 1 rfl rfl tk rfl (by omega) (by decide) d_M_shift_5 ?_
  refine lv_lstore_n hx hb d_M_shift_6 rfl hl (by decide) rfl (fun ls hl => ?_)
  have hl : lv_has ls 7 [(2, .long (eL (de tk))), (0, .ref (md 0)), (1, .int (eI ((tk : Nat) : Int)))] := hl
  refine lv_iload_n hx hb d_M_shift_7 rfl (lv_at hl 2 rfl) ?_
  refine lv_istore hx hb d_M_shift_8 hl (by decide) rfl (fun ls hl => ?_)
  have hl : lv_has ls 7 [(4, .int (eI ((tk : Nat) : Int))), (2, .long (eL (de tk))), (0, .ref (md 0)), (1, .int (eI ((tk : Nat) : Int)))] := hl
  refine lv_aload_n hx hb d_M_shift_10 rfl (lv_at hl 2 rfl) ?_
  refine va_get (D := D) (ci := 5) (v := .ref (md 15)) (C := R_M) (T := T_M) (N := 23) hx hb htb in_M hown hK hP 0 rfl rfl 20 (by decide) (htb _ tb_608) (fun _ h9 => h9) rfl d_M_shift_11 ?_
  refine lv_bipush (v := eI 7) hx hb d_M_shift_14 (by decide) ?_
  refine lv_iload hx hb d_M_shift_16 (lv_at hl 0 rfl) ?_
  refine we_iadd hx hb d_M_shift_18 ?_
  refine we_iald hx hb hK hP 4 0 rfl rfl (7 + tk) (by omega) (by omega) (by decide) d_M_shift_19 ?_
  refine lv_istore hx hb d_M_shift_20 hl (by decide) rfl (fun ls hl => ?_)
  have hl : lv_has ls 7 [(5, .int (eI (BY (7 + tk)))), (4, .int (eI ((tk : Nat) : Int))), (2, .long (eL (de tk))), (0, .ref (md 0)), (1, .int (eI ((tk : Nat) : Int)))] := hl
  have loop1 : ∀ (q y : Nat) (nn : Int) (V : Nat → Prop) (ls : Array Slot), rk y = q → y < 7 → 0 ≤ BY y → (0 < nn ∧ nn ≤ de tk) → eh_V fw BY nn s0 y V → lv_has ls 7 [(5, .int (eI ((y : Nat) : Int))), (2, .long (eL nn)), (0, .ref (md 0)), (1, .int (eI ((tk : Nat) : Int))), (4, .int (eI ((tk : Nat) : Int)))] → W p l e R s m args below meth c s.heap [] 0 0 Q (F0 m 22 ls []) := by
    intro q
    induction q using Nat.strongRecOn with
    | ind q ih =>
      intro y nn V ls hq hy7 hby1 hnn hV hl
      have hBy := hBd y (by omega)
      have hsy := hsu y hy7
      refine lv_aload_n hx hb d_M_shift_22 rfl (lv_at hl 2 rfl) ?_
      refine va_get (D := D) (ci := 5) (v := .ref (md 15)) (C := R_M) (T := T_M) (N := 23) hx hb htb in_M hown hK hP 0 rfl rfl 20 (by decide) (htb _ tb_608) (fun _ h9 => h9) rfl d_M_shift_23 ?_
      refine lv_iload hx hb d_M_shift_26 (lv_at hl 0 rfl) ?_
      refine we_iald hx hb hK hP 4 0 rfl rfl y rfl (by omega) (by decide) d_M_shift_28 ?_
      refine lv_iload hx hb d_M_shift_29 (lv_at hl 0 rfl) ?_
      refine we_icmp_eq (tgt := 97) hx hb (by constructor <;> omega) (by constructor <;> omega) d_M_shift_31 rfl (fun hc31 => ?_) (fun hc31 => ?_)
      ·
        have hsp : 0 < su y := by
          rcases hbt.2.1 y hy7 hby1 with q9 | ⟨t9, _, q9, _⟩
          · exact q9.2
          · omega
        refine lv_aload_n hx hb d_M_shift_97 rfl (lv_at hl 2 rfl) ?_
        refine va_get (D := D) (ci := 5) (v := .ref (md 9)) (C := R_M) (T := T_M) (N := 23) hx hb htb in_M hown hK hP 0 rfl rfl 14 (by decide) (htb _ tb_602) (fun _ h9 => h9) rfl d_M_shift_98 ?_
        refine lv_iload hx hb d_M_shift_101 (lv_at hl 0 rfl) ?_
        refine we_lald hx hb hK hP 1 1 rfl rfl y rfl (by omega) (by decide) d_M_shift_103 ?_
        refine lv_lload_n hx hb d_M_shift_104 rfl (lv_at hl 1 rfl) ?_
        refine we_lcmp_ge (pc2 := 106) (tgt := 119) hx hb (by constructor <;> omega) (by constructor <;> omega) d_M_shift_105 rfl d_M_shift_106 rfl (fun hc105 => ?_) (fun hc105 => ?_)
        ·
          refine lv_lload_n hx hb d_M_shift_119 rfl (lv_at hl 1 rfl) ?_
          refine lv_lstore_n hx hb d_M_shift_120 rfl hl (by decide) rfl (fun ls hl => ?_)
          have hl : lv_has ls 7 [(2, .long (eL nn)), (5, .int (eI ((y : Nat) : Int))), (0, .ref (md 0)), (1, .int (eI ((tk : Nat) : Int))), (4, .int (eI ((tk : Nat) : Int)))] := hl
          refine lv_aload_n hx hb d_M_shift_121 rfl (lv_at hl 2 rfl) ?_
          refine va_get (D := D) (ci := 5) (v := .ref (md 9)) (C := R_M) (T := T_M) (N := 23) hx hb htb in_M hown hK hP 0 rfl rfl 14 (by decide) (htb _ tb_602) (fun _ h9 => h9) rfl d_M_shift_122 ?_
          refine lv_iload hx hb d_M_shift_125 (lv_at hl 1 rfl) ?_
          refine lv_aload_n hx hb d_M_shift_127 rfl (lv_at hl 2 rfl) ?_
          refine va_get (D := D) (ci := 5) (v := .ref (md 9)) (C := R_M) (T := T_M) (N := 23) hx hb htb in_M hown hK hP 0 rfl rfl 14 (by decide) (htb _ tb_602) (fun _ h9 => h9) rfl d_M_shift_128 ?_
          refine lv_iload hx hb d_M_shift_131 (lv_at hl 1 rfl) ?_
          refine we_lald hx hb hK hP 1 1 rfl rfl y rfl (by omega) (by decide) d_M_shift_133 ?_
          refine lv_lload_n hx hb d_M_shift_134 rfl (lv_at hl 0 rfl) ?_
          refine we_lsub hx hb d_M_shift_135 ?_
          refine we_last hx hb hK hP hD hS 1 1 rfl rfl y rfl (by omega) (by decide) d_M_shift_136 (fun H locs hP hD hS => ?_)
          have hP : va_P D classes [((md 0), .inr (5, [.int (eI co), .int (eI ((n : Nat) : Int)), .ref (md 1), .ref (md 2), .ref (md 3), .int (eI sh), .int (eI ra), .ref (md 4), .ref (md 5), .ref (md 6), .ref (md 7), .ref (md 8), .long (eL up), .long (eL lw), .ref (md 9), .ref (md 10), .ref (md 11), .ref (md 12), .ref (md 13), .ref (md 14), .ref (md 15), .int (eI kn), .int (eI fo)])), ((md 9), aL cL 7 (eh_upd su y ((su y) - nn))), ((md 10), aL cL 6 de), ((md 11), aL cL 42 fw), ((md 15), aI cI 13 BY)] H := hP
          have hD : va_D A [((md 0), .inr (5, [.int (eI co), .int (eI ((n : Nat) : Int)), .ref (md 1), .ref (md 2), .ref (md 3), .int (eI sh), .int (eI ra), .ref (md 4), .ref (md 5), .ref (md 6), .ref (md 7), .ref (md 8), .long (eL up), .long (eL lw), .ref (md 9), .ref (md 10), .ref (md 11), .ref (md 12), .ref (md 13), .ref (md 14), .ref (md 15), .int (eI kn), .int (eI fo)])), ((md 9), aL cL 7 (eh_upd su y ((su y) - nn))), ((md 10), aL cL 6 de), ((md 11), aL cL 42 fw), ((md 15), aI cI 13 BY)] := hD
          refine lv_aload_n hx hb d_M_shift_137 rfl (lv_at hl 2 rfl) ?_
          refine va_get (D := D) (ci := 5) (v := .ref (md 10)) (C := R_M) (T := T_M) (N := 23) hx hb htb in_M hown hK hP 0 rfl rfl 15 (by decide) (htb _ tb_603) (fun _ h9 => h9) rfl d_M_shift_138 ?_
          refine lv_iload_n hx hb d_M_shift_141 rfl (lv_at hl 3 rfl) ?_
          refine lv_aload_n hx hb d_M_shift_142 rfl (lv_at hl 2 rfl) ?_
          refine va_get (D := D) (ci := 5) (v := .ref (md 10)) (C := R_M) (T := T_M) (N := 23) hx hb htb in_M hown hK hP 0 rfl rfl 15 (by decide) (htb _ tb_603) (fun _ h9 => h9) rfl d_M_shift_143 ?_
          refine lv_iload_n hx hb d_M_shift_146 rfl (lv_at hl 3 rfl) ?_
          refine we_lald hx hb hK hP 2 1 rfl rfl tk rfl (by omega) (by decide) d_M_shift_147 ?_
          refine lv_lload_n hx hb d_M_shift_148 rfl (lv_at hl 0 rfl) ?_
          refine we_lsub hx hb d_M_shift_149 ?_
          refine we_last hx hb hK hP hD hS 2 1 rfl rfl tk rfl (by omega) (by decide) d_M_shift_150 (fun H locs hP hD hS => ?_)
          have hP : va_P D classes [((md 0), .inr (5, [.int (eI co), .int (eI ((n : Nat) : Int)), .ref (md 1), .ref (md 2), .ref (md 3), .int (eI sh), .int (eI ra), .ref (md 4), .ref (md 5), .ref (md 6), .ref (md 7), .ref (md 8), .long (eL up), .long (eL lw), .ref (md 9), .ref (md 10), .ref (md 11), .ref (md 12), .ref (md 13), .ref (md 14), .ref (md 15), .int (eI kn), .int (eI fo)])), ((md 9), aL cL 7 (eh_upd su y ((su y) - nn))), ((md 10), aL cL 6 (eh_upd de tk ((de tk) - nn))), ((md 11), aL cL 42 fw), ((md 15), aI cI 13 BY)] H := hP
          have hD : va_D A [((md 0), .inr (5, [.int (eI co), .int (eI ((n : Nat) : Int)), .ref (md 1), .ref (md 2), .ref (md 3), .int (eI sh), .int (eI ra), .ref (md 4), .ref (md 5), .ref (md 6), .ref (md 7), .ref (md 8), .long (eL up), .long (eL lw), .ref (md 9), .ref (md 10), .ref (md 11), .ref (md 12), .ref (md 13), .ref (md 14), .ref (md 15), .int (eI kn), .int (eI fo)])), ((md 9), aL cL 7 (eh_upd su y ((su y) - nn))), ((md 10), aL cL 6 (eh_upd de tk ((de tk) - nn))), ((md 11), aL cL 42 fw), ((md 15), aI cI 13 BY)] := hD
          refine lv_aload_n hx hb d_M_shift_151 rfl (lv_at hl 2 rfl) ?_
          refine va_get (D := D) (ci := 5) (v := .ref (md 15)) (C := R_M) (T := T_M) (N := 23) hx hb htb in_M hown hK hP 0 rfl rfl 20 (by decide) (htb _ tb_608) (fun _ h9 => h9) rfl d_M_shift_152 ?_
          refine lv_bipush (v := eI 7) hx hb d_M_shift_155 (by decide) ?_
          refine lv_iload hx hb d_M_shift_157 (lv_at hl 4 rfl) ?_
          refine we_iadd hx hb d_M_shift_159 ?_
          refine we_iald hx hb hK hP 4 0 rfl rfl (7 + tk) (by omega) (by omega) (by decide) d_M_shift_160 ?_
          refine lv_istore hx hb d_M_shift_161 hl (by decide) rfl (fun ls hl => ?_)
          have hl : lv_has ls 7 [(5, .int (eI (BY (7 + tk)))), (2, .long (eL nn)), (0, .ref (md 0)), (1, .int (eI ((tk : Nat) : Int))), (4, .int (eI ((tk : Nat) : Int)))] := hl
          refine lv_aload_n hx hb d_M_shift_163 rfl (lv_at hl 2 rfl) ?_
          refine va_get (D := D) (ci := 5) (v := .ref (md 11)) (C := R_M) (T := T_M) (N := 23) hx hb htb in_M hown hK hP 0 rfl rfl 16 (by decide) (htb _ tb_604) (fun _ h9 => h9) rfl d_M_shift_164 ?_
          refine lv_bipush (v := eI 6) hx hb d_M_shift_167 (by decide) ?_
          refine lv_iload hx hb d_M_shift_169 (lv_at hl 0 rfl) ?_
          refine we_imul hx hb d_M_shift_171 ?_
          refine lv_iload hx hb d_M_shift_172 (lv_at hl 4 rfl) ?_
          refine we_iadd hx hb d_M_shift_174 ?_
          refine lv_aload_n hx hb d_M_shift_175 rfl (lv_at hl 2 rfl) ?_
          refine va_get (D := D) (ci := 5) (v := .ref (md 11)) (C := R_M) (T := T_M) (N := 23) hx hb htb in_M hown hK hP 0 rfl rfl 16 (by decide) (htb _ tb_604) (fun _ h9 => h9) rfl d_M_shift_176 ?_
          refine lv_bipush (v := eI 6) hx hb d_M_shift_179 (by decide) ?_
          refine lv_iload hx hb d_M_shift_181 (lv_at hl 0 rfl) ?_
          refine we_imul hx hb d_M_shift_183 ?_
          refine lv_iload hx hb d_M_shift_184 (lv_at hl 4 rfl) ?_
          refine we_iadd hx hb d_M_shift_186 ?_
          refine we_lald hx hb hK hP 3 1 rfl rfl (6 * s0 + tk) (by omega) (by omega) (by decide) d_M_shift_187 ?_
          refine lv_lload_n hx hb d_M_shift_188 rfl (lv_at hl 1 rfl) ?_
          refine we_ladd hx hb d_M_shift_189 ?_
          refine we_last hx hb hK hP hD hS 3 1 rfl rfl (6 * s0 + tk) (by omega) (by omega) (by decide) d_M_shift_190 (fun H locs hP hD hS => ?_)
          have hP : va_P D classes [((md 0), .inr (5, [.int (eI co), .int (eI ((n : Nat) : Int)), .ref (md 1), .ref (md 2), .ref (md 3), .int (eI sh), .int (eI ra), .ref (md 4), .ref (md 5), .ref (md 6), .ref (md 7), .ref (md 8), .long (eL up), .long (eL lw), .ref (md 9), .ref (md 10), .ref (md 11), .ref (md 12), .ref (md 13), .ref (md 14), .ref (md 15), .int (eI kn), .int (eI fo)])), ((md 9), aL cL 7 (eh_upd su y ((su y) - nn))), ((md 10), aL cL 6 (eh_upd de tk ((de tk) - nn))), ((md 11), aL cL 42 (eh_upd fw (6 * s0 + tk) ((fw (6 * s0 + tk)) + nn))), ((md 15), aI cI 13 BY)] H := hP
          have hD : va_D A [((md 0), .inr (5, [.int (eI co), .int (eI ((n : Nat) : Int)), .ref (md 1), .ref (md 2), .ref (md 3), .int (eI sh), .int (eI ra), .ref (md 4), .ref (md 5), .ref (md 6), .ref (md 7), .ref (md 8), .long (eL up), .long (eL lw), .ref (md 9), .ref (md 10), .ref (md 11), .ref (md 12), .ref (md 13), .ref (md 14), .ref (md 15), .int (eI kn), .int (eI fo)])), ((md 9), aL cL 7 (eh_upd su y ((su y) - nn))), ((md 10), aL cL 6 (eh_upd de tk ((de tk) - nn))), ((md 11), aL cL 42 (eh_upd fw (6 * s0 + tk) ((fw (6 * s0 + tk)) + nn))), ((md 15), aI cI 13 BY)] := hD
          rw [hb0] at hl
          have hV2 : eh_V fw BY nn s0 y V := eh_V_le hV (by omega)
          exact loop2 nn y V hV2 (by omega) (by omega) (rk s0) s0 _ H locs ls rfl (eh_s2_0 hV2 hs0 htk (by omega) hb00 hc0 hf0) (lv_sub hl [0, 1, 2] rfl) hP hD hS
        ·
          refine lv_aload_n hx hb d_M_shift_109 rfl (lv_at hl 2 rfl) ?_
          refine va_get (D := D) (ci := 5) (v := .ref (md 9)) (C := R_M) (T := T_M) (N := 23) hx hb htb in_M hown hK hP 0 rfl rfl 14 (by decide) (htb _ tb_602) (fun _ h9 => h9) rfl d_M_shift_110 ?_
          refine lv_iload hx hb d_M_shift_113 (lv_at hl 0 rfl) ?_
          refine we_lald hx hb hK hP 1 1 rfl rfl y rfl (by omega) (by decide) d_M_shift_115 ?_
          refine lv_goto (tgt := 120) hx hb d_M_shift_116 rfl ?_
          refine lv_lstore_n hx hb d_M_shift_120 rfl hl (by decide) rfl (fun ls hl => ?_)
          have hl : lv_has ls 7 [(2, .long (eL (su y))), (5, .int (eI ((y : Nat) : Int))), (0, .ref (md 0)), (1, .int (eI ((tk : Nat) : Int))), (4, .int (eI ((tk : Nat) : Int)))] := hl
          refine lv_aload_n hx hb d_M_shift_121 rfl (lv_at hl 2 rfl) ?_
          refine va_get (D := D) (ci := 5) (v := .ref (md 9)) (C := R_M) (T := T_M) (N := 23) hx hb htb in_M hown hK hP 0 rfl rfl 14 (by decide) (htb _ tb_602) (fun _ h9 => h9) rfl d_M_shift_122 ?_
          refine lv_iload hx hb d_M_shift_125 (lv_at hl 1 rfl) ?_
          refine lv_aload_n hx hb d_M_shift_127 rfl (lv_at hl 2 rfl) ?_
          refine va_get (D := D) (ci := 5) (v := .ref (md 9)) (C := R_M) (T := T_M) (N := 23) hx hb htb in_M hown hK hP 0 rfl rfl 14 (by decide) (htb _ tb_602) (fun _ h9 => h9) rfl d_M_shift_128 ?_
          refine lv_iload hx hb d_M_shift_131 (lv_at hl 1 rfl) ?_
          refine we_lald hx hb hK hP 1 1 rfl rfl y rfl (by omega) (by decide) d_M_shift_133 ?_
          refine lv_lload_n hx hb d_M_shift_134 rfl (lv_at hl 0 rfl) ?_
          refine we_lsub hx hb d_M_shift_135 ?_
          refine we_last hx hb hK hP hD hS 1 1 rfl rfl y rfl (by omega) (by decide) d_M_shift_136 (fun H locs hP hD hS => ?_)
          have hP : va_P D classes [((md 0), .inr (5, [.int (eI co), .int (eI ((n : Nat) : Int)), .ref (md 1), .ref (md 2), .ref (md 3), .int (eI sh), .int (eI ra), .ref (md 4), .ref (md 5), .ref (md 6), .ref (md 7), .ref (md 8), .long (eL up), .long (eL lw), .ref (md 9), .ref (md 10), .ref (md 11), .ref (md 12), .ref (md 13), .ref (md 14), .ref (md 15), .int (eI kn), .int (eI fo)])), ((md 9), aL cL 7 (eh_upd su y ((su y) - (su y)))), ((md 10), aL cL 6 de), ((md 11), aL cL 42 fw), ((md 15), aI cI 13 BY)] H := hP
          have hD : va_D A [((md 0), .inr (5, [.int (eI co), .int (eI ((n : Nat) : Int)), .ref (md 1), .ref (md 2), .ref (md 3), .int (eI sh), .int (eI ra), .ref (md 4), .ref (md 5), .ref (md 6), .ref (md 7), .ref (md 8), .long (eL up), .long (eL lw), .ref (md 9), .ref (md 10), .ref (md 11), .ref (md 12), .ref (md 13), .ref (md 14), .ref (md 15), .int (eI kn), .int (eI fo)])), ((md 9), aL cL 7 (eh_upd su y ((su y) - (su y)))), ((md 10), aL cL 6 de), ((md 11), aL cL 42 fw), ((md 15), aI cI 13 BY)] := hD
          refine lv_aload_n hx hb d_M_shift_137 rfl (lv_at hl 2 rfl) ?_
          refine va_get (D := D) (ci := 5) (v := .ref (md 10)) (C := R_M) (T := T_M) (N := 23) hx hb htb in_M hown hK hP 0 rfl rfl 15 (by decide) (htb _ tb_603) (fun _ h9 => h9) rfl d_M_shift_138 ?_
          refine lv_iload_n hx hb d_M_shift_141 rfl (lv_at hl 3 rfl) ?_
          refine lv_aload_n hx hb d_M_shift_142 rfl (lv_at hl 2 rfl) ?_
          refine va_get (D := D) (ci := 5) (v := .ref (md 10)) (C := R_M) (T := T_M) (N := 23) hx hb htb in_M hown hK hP 0 rfl rfl 15 (by decide) (htb _ tb_603) (fun _ h9 => h9) rfl d_M_shift_143 ?_
          refine lv_iload_n hx hb d_M_shift_146 rfl (lv_at hl 3 rfl) ?_
          refine we_lald hx hb hK hP 2 1 rfl rfl tk rfl (by omega) (by decide) d_M_shift_147 ?_
          refine lv_lload_n hx hb d_M_shift_148 rfl (lv_at hl 0 rfl) ?_
          refine we_lsub hx hb d_M_shift_149 ?_
          refine we_last hx hb hK hP hD hS 2 1 rfl rfl tk rfl (by omega) (by decide) d_M_shift_150 (fun H locs hP hD hS => ?_)
          have hP : va_P D classes [((md 0), .inr (5, [.int (eI co), .int (eI ((n : Nat) : Int)), .ref (md 1), .ref (md 2), .ref (md 3), .int (eI sh), .int (eI ra), .ref (md 4), .ref (md 5), .ref (md 6), .ref (md 7), .ref (md 8), .long (eL up), .long (eL lw), .ref (md 9), .ref (md 10), .ref (md 11), .ref (md 12), .ref (md 13), .ref (md 14), .ref (md 15), .int (eI kn), .int (eI fo)])), ((md 9), aL cL 7 (eh_upd su y ((su y) - (su y)))), ((md 10), aL cL 6 (eh_upd de tk ((de tk) - (su y)))), ((md 11), aL cL 42 fw), ((md 15), aI cI 13 BY)] H := hP
          have hD : va_D A [((md 0), .inr (5, [.int (eI co), .int (eI ((n : Nat) : Int)), .ref (md 1), .ref (md 2), .ref (md 3), .int (eI sh), .int (eI ra), .ref (md 4), .ref (md 5), .ref (md 6), .ref (md 7), .ref (md 8), .long (eL up), .long (eL lw), .ref (md 9), .ref (md 10), .ref (md 11), .ref (md 12), .ref (md 13), .ref (md 14), .ref (md 15), .int (eI kn), .int (eI fo)])), ((md 9), aL cL 7 (eh_upd su y ((su y) - (su y)))), ((md 10), aL cL 6 (eh_upd de tk ((de tk) - (su y)))), ((md 11), aL cL 42 fw), ((md 15), aI cI 13 BY)] := hD
          refine lv_aload_n hx hb d_M_shift_151 rfl (lv_at hl 2 rfl) ?_
          refine va_get (D := D) (ci := 5) (v := .ref (md 15)) (C := R_M) (T := T_M) (N := 23) hx hb htb in_M hown hK hP 0 rfl rfl 20 (by decide) (htb _ tb_608) (fun _ h9 => h9) rfl d_M_shift_152 ?_
          refine lv_bipush (v := eI 7) hx hb d_M_shift_155 (by decide) ?_
          refine lv_iload hx hb d_M_shift_157 (lv_at hl 4 rfl) ?_
          refine we_iadd hx hb d_M_shift_159 ?_
          refine we_iald hx hb hK hP 4 0 rfl rfl (7 + tk) (by omega) (by omega) (by decide) d_M_shift_160 ?_
          refine lv_istore hx hb d_M_shift_161 hl (by decide) rfl (fun ls hl => ?_)
          have hl : lv_has ls 7 [(5, .int (eI (BY (7 + tk)))), (2, .long (eL (su y))), (0, .ref (md 0)), (1, .int (eI ((tk : Nat) : Int))), (4, .int (eI ((tk : Nat) : Int)))] := hl
          refine lv_aload_n hx hb d_M_shift_163 rfl (lv_at hl 2 rfl) ?_
          refine va_get (D := D) (ci := 5) (v := .ref (md 11)) (C := R_M) (T := T_M) (N := 23) hx hb htb in_M hown hK hP 0 rfl rfl 16 (by decide) (htb _ tb_604) (fun _ h9 => h9) rfl d_M_shift_164 ?_
          refine lv_bipush (v := eI 6) hx hb d_M_shift_167 (by decide) ?_
          refine lv_iload hx hb d_M_shift_169 (lv_at hl 0 rfl) ?_
          refine we_imul hx hb d_M_shift_171 ?_
          refine lv_iload hx hb d_M_shift_172 (lv_at hl 4 rfl) ?_
          refine we_iadd hx hb d_M_shift_174 ?_
          refine lv_aload_n hx hb d_M_shift_175 rfl (lv_at hl 2 rfl) ?_
          refine va_get (D := D) (ci := 5) (v := .ref (md 11)) (C := R_M) (T := T_M) (N := 23) hx hb htb in_M hown hK hP 0 rfl rfl 16 (by decide) (htb _ tb_604) (fun _ h9 => h9) rfl d_M_shift_176 ?_
          refine lv_bipush (v := eI 6) hx hb d_M_shift_179 (by decide) ?_
          refine lv_iload hx hb d_M_shift_181 (lv_at hl 0 rfl) ?_
          refine we_imul hx hb d_M_shift_183 ?_
          refine lv_iload hx hb d_M_shift_184 (lv_at hl 4 rfl) ?_
          refine we_iadd hx hb d_M_shift_186 ?_
          refine we_lald hx hb hK hP 3 1 rfl rfl (6 * s0 + tk) (by omega) (by omega) (by decide) d_M_shift_187 ?_
          refine lv_lload_n hx hb d_M_shift_188 rfl (lv_at hl 1 rfl) ?_
          refine we_ladd hx hb d_M_shift_189 ?_
          refine we_last hx hb hK hP hD hS 3 1 rfl rfl (6 * s0 + tk) (by omega) (by omega) (by decide) d_M_shift_190 (fun H locs hP hD hS => ?_)
          have hP : va_P D classes [((md 0), .inr (5, [.int (eI co), .int (eI ((n : Nat) : Int)), .ref (md 1), .ref (md 2), .ref (md 3), .int (eI sh), .int (eI ra), .ref (md 4), .ref (md 5), .ref (md 6), .ref (md 7), .ref (md 8), .long (eL up), .long (eL lw), .ref (md 9), .ref (md 10), .ref (md 11), .ref (md 12), .ref (md 13), .ref (md 14), .ref (md 15), .int (eI kn), .int (eI fo)])), ((md 9), aL cL 7 (eh_upd su y ((su y) - (su y)))), ((md 10), aL cL 6 (eh_upd de tk ((de tk) - (su y)))), ((md 11), aL cL 42 (eh_upd fw (6 * s0 + tk) ((fw (6 * s0 + tk)) + (su y)))), ((md 15), aI cI 13 BY)] H := hP
          have hD : va_D A [((md 0), .inr (5, [.int (eI co), .int (eI ((n : Nat) : Int)), .ref (md 1), .ref (md 2), .ref (md 3), .int (eI sh), .int (eI ra), .ref (md 4), .ref (md 5), .ref (md 6), .ref (md 7), .ref (md 8), .long (eL up), .long (eL lw), .ref (md 9), .ref (md 10), .ref (md 11), .ref (md 12), .ref (md 13), .ref (md 14), .ref (md 15), .int (eI kn), .int (eI fo)])), ((md 9), aL cL 7 (eh_upd su y ((su y) - (su y)))), ((md 10), aL cL 6 (eh_upd de tk ((de tk) - (su y)))), ((md 11), aL cL 42 (eh_upd fw (6 * s0 + tk) ((fw (6 * s0 + tk)) + (su y)))), ((md 15), aI cI 13 BY)] := hD
          rw [hb0] at hl
          have hV2 : eh_V fw BY (su y) s0 y V := eh_V_le hV (by omega)
          exact loop2 (su y) y V hV2 (by omega) (by omega) (rk s0) s0 _ H locs ls rfl (eh_s2_0 hV2 hs0 htk (by omega) hb00 hc0 hf0) (lv_sub hl [0, 1, 2] rfl) hP hD hS
      ·
        obtain ⟨t1, y1, ht1, hy1, hb1, hb2, hf1, hc1, hb3, hr1⟩ := eh_bt_step hbt hy7 hby1 (by omega)
        have hfb := hfw (6 * y + t1) (by omega)
        refine lv_aload_n hx hb d_M_shift_34 rfl (lv_at hl 2 rfl) ?_
        refine va_get (D := D) (ci := 5) (v := .ref (md 15)) (C := R_M) (T := T_M) (N := 23) hx hb htb in_M hown hK hP 0 rfl rfl 20 (by decide) (htb _ tb_608) (fun _ h9 => h9) rfl d_M_shift_35 ?_
        refine lv_iload hx hb d_M_shift_38 (lv_at hl 0 rfl) ?_
        refine we_iald hx hb hK hP 4 0 rfl rfl y rfl (by omega) (by decide) d_M_shift_40 ?_
        refine lv_bipush (v := eI 7) hx hb d_M_shift_41 (by decide) ?_
        refine we_isub hx hb d_M_shift_43 ?_
        refine lv_istore hx hb d_M_shift_44 hl (by decide) rfl (fun ls hl => ?_)
        have hl : lv_has ls 7 [(6, .int (eI ((BY y) - 7))), (5, .int (eI ((y : Nat) : Int))), (2, .long (eL nn)), (0, .ref (md 0)), (1, .int (eI ((tk : Nat) : Int))), (4, .int (eI ((tk : Nat) : Int)))] := hl
        refine lv_aload_n hx hb d_M_shift_46 rfl (lv_at hl 3 rfl) ?_
        refine va_get (D := D) (ci := 5) (v := .ref (md 11)) (C := R_M) (T := T_M) (N := 23) hx hb htb in_M hown hK hP 0 rfl rfl 16 (by decide) (htb _ tb_604) (fun _ h9 => h9) rfl d_M_shift_47 ?_
        refine lv_bipush (v := eI 6) hx hb d_M_shift_50 (by decide) ?_
        refine lv_iload hx hb d_M_shift_52 (lv_at hl 1 rfl) ?_
        refine we_imul hx hb d_M_shift_54 ?_
        refine lv_iload hx hb d_M_shift_55 (lv_at hl 0 rfl) ?_
        refine we_iadd hx hb d_M_shift_57 ?_
        refine we_lald hx hb hK hP 3 1 rfl rfl (6 * y + t1) (by omega) (by omega) (by decide) d_M_shift_58 ?_
        refine lv_lload_n hx hb d_M_shift_59 rfl (lv_at hl 2 rfl) ?_
        refine we_lcmp_ge (pc2 := 61) (tgt := 80) hx hb (by constructor <;> omega) (by constructor <;> omega) d_M_shift_60 rfl d_M_shift_61 rfl (fun hc60 => ?_) (fun hc60 => ?_)
        ·
          refine lv_lload_n hx hb d_M_shift_80 rfl (lv_at hl 2 rfl) ?_
          refine lv_lstore_n hx hb d_M_shift_81 rfl hl (by decide) rfl (fun ls hl => ?_)
          have hl : lv_has ls 7 [(2, .long (eL nn)), (6, .int (eI ((BY y) - 7))), (5, .int (eI ((y : Nat) : Int))), (0, .ref (md 0)), (1, .int (eI ((tk : Nat) : Int))), (4, .int (eI ((tk : Nat) : Int)))] := hl
          refine lv_aload_n hx hb d_M_shift_82 rfl (lv_at hl 3 rfl) ?_
          refine va_get (D := D) (ci := 5) (v := .ref (md 15)) (C := R_M) (T := T_M) (N := 23) hx hb htb in_M hown hK hP 0 rfl rfl 20 (by decide) (htb _ tb_608) (fun _ h9 => h9) rfl d_M_shift_83 ?_
          refine lv_bipush (v := eI 7) hx hb d_M_shift_86 (by decide) ?_
          refine lv_iload hx hb d_M_shift_88 (lv_at hl 1 rfl) ?_
          refine we_iadd hx hb d_M_shift_90 ?_
          refine we_iald hx hb hK hP 4 0 rfl rfl (7 + t1) (by omega) (by omega) (by decide) d_M_shift_91 ?_
          refine lv_istore hx hb d_M_shift_92 hl (by decide) rfl (fun ls hl => ?_)
          have hl : lv_has ls 7 [(5, .int (eI (BY (7 + t1)))), (2, .long (eL nn)), (6, .int (eI ((BY y) - 7))), (0, .ref (md 0)), (1, .int (eI ((tk : Nat) : Int))), (4, .int (eI ((tk : Nat) : Int)))] := hl
          refine lv_goto (tgt := 22) hx hb d_M_shift_94 rfl ?_
          rw [hb2] at hl
          exact ih (rk y1) (by omega) y1 nn _ ls rfl hy1 hb3 (by omega) (eh_V_step (n' := nn) hV hy7 hb1 hb2 (by omega) (by omega)) (lv_sub hl [0, 1, 3, 4, 5] rfl)
        ·
          refine lv_aload_n hx hb d_M_shift_64 rfl (lv_at hl 3 rfl) ?_
          refine va_get (D := D) (ci := 5) (v := .ref (md 11)) (C := R_M) (T := T_M) (N := 23) hx hb htb in_M hown hK hP 0 rfl rfl 16 (by decide) (htb _ tb_604) (fun _ h9 => h9) rfl d_M_shift_65 ?_
          refine lv_bipush (v := eI 6) hx hb d_M_shift_68 (by decide) ?_
          refine lv_iload hx hb d_M_shift_70 (lv_at hl 1 rfl) ?_
          refine we_imul hx hb d_M_shift_72 ?_
          refine lv_iload hx hb d_M_shift_73 (lv_at hl 0 rfl) ?_
          refine we_iadd hx hb d_M_shift_75 ?_
          refine we_lald hx hb hK hP 3 1 rfl rfl (6 * y + t1) (by omega) (by omega) (by decide) d_M_shift_76 ?_
          refine lv_goto (tgt := 81) hx hb d_M_shift_77 rfl ?_
          refine lv_lstore_n hx hb d_M_shift_81 rfl hl (by decide) rfl (fun ls hl => ?_)
          have hl : lv_has ls 7 [(2, .long (eL (fw (6 * y + t1)))), (6, .int (eI ((BY y) - 7))), (5, .int (eI ((y : Nat) : Int))), (0, .ref (md 0)), (1, .int (eI ((tk : Nat) : Int))), (4, .int (eI ((tk : Nat) : Int)))] := hl
          refine lv_aload_n hx hb d_M_shift_82 rfl (lv_at hl 3 rfl) ?_
          refine va_get (D := D) (ci := 5) (v := .ref (md 15)) (C := R_M) (T := T_M) (N := 23) hx hb htb in_M hown hK hP 0 rfl rfl 20 (by decide) (htb _ tb_608) (fun _ h9 => h9) rfl d_M_shift_83 ?_
          refine lv_bipush (v := eI 7) hx hb d_M_shift_86 (by decide) ?_
          refine lv_iload hx hb d_M_shift_88 (lv_at hl 1 rfl) ?_
          refine we_iadd hx hb d_M_shift_90 ?_
          refine we_iald hx hb hK hP 4 0 rfl rfl (7 + t1) (by omega) (by omega) (by decide) d_M_shift_91 ?_
          refine lv_istore hx hb d_M_shift_92 hl (by decide) rfl (fun ls hl => ?_)
          have hl : lv_has ls 7 [(5, .int (eI (BY (7 + t1)))), (2, .long (eL (fw (6 * y + t1)))), (6, .int (eI ((BY y) - 7))), (0, .ref (md 0)), (1, .int (eI ((tk : Nat) : Int))), (4, .int (eI ((tk : Nat) : Int)))] := hl
          refine lv_goto (tgt := 22) hx hb d_M_shift_94 rfl ?_
          rw [hb2] at hl
          exact ih (rk y1) (by omega) y1 (fw (6 * y + t1)) _ ls rfl hy1 hb3 (by omega) (eh_V_step (n' := (fw (6 * y + t1))) hV hy7 hb1 hb2 (by omega) (by omega)) (lv_sub hl [0, 1, 3, 4, 5] rfl)
  rw [hb0] at hl
  exact loop1 (rk s0) s0 (de tk) (fun _ => False) ls rfl hs0 hb00 (by omega) ⟨Or.inl rfl, fun v q => q.elim⟩ (lv_sub hl [0, 2, 3, 4, 1] rfl)
