abbrev c_M_station : ByteArray := prog_7_method_12_code
def y_M_station : MethodName := ⟨"EarthHaulsModel", "station", "(IIIII)I"⟩
abbrev k_M_station : Cond := .code y_M_station c_M_station 7 (some .int)
theorem kin_M_station : k_M_station ∈ ew_t := tb_669
theorem dv_M_station : eh_dV y_M_station "EarthHaulsModel" 5 := ⟨rfl, by decide, by decide, by decide +kernel⟩
theorem d_M_station_0 : decode c_M_station 0 = .ok (.aload_n 0, 1) := by decide +kernel
theorem d_M_station_1 : decode c_M_station 1 = .ok (.getfield 86, 3) := by decide +kernel
theorem d_M_station_4 : decode c_M_station 4 = .ok (.ifCond .ne 15, 3) := by decide +kernel
theorem d_M_station_7 : decode c_M_station 7 = .ok (.iload_n 1, 1) := by decide +kernel
theorem d_M_station_8 : decode c_M_station 8 = .ok (.ifCond .ne 7, 3) := by decide +kernel
theorem d_M_station_11 : decode c_M_station 11 = .ok (.iconst 1, 1) := by decide +kernel
theorem d_M_station_12 : decode c_M_station 12 = .ok (.goto 14, 3) := by decide +kernel
theorem d_M_station_15 : decode c_M_station 15 = .ok (.iconst 0, 1) := by decide +kernel
theorem d_M_station_16 : decode c_M_station 16 = .ok (.goto 10, 3) := by decide +kernel
theorem d_M_station_19 : decode c_M_station 19 = .ok (.iload_n 1, 1) := by decide +kernel
theorem d_M_station_20 : decode c_M_station 20 = .ok (.iconst 1, 1) := by decide +kernel
theorem d_M_station_21 : decode c_M_station 21 = .ok (.bipush 100, 2) := by decide +kernel
theorem d_M_station_23 : decode c_M_station 23 = .ok (.invokestatic 107, 3) := by decide +kernel
theorem d_M_station_26 : decode c_M_station 26 = .ok (.istore 6, 2) := by decide +kernel
theorem d_M_station_28 : decode c_M_station 28 = .ok (.iload 6, 2) := by decide +kernel
theorem d_M_station_30 : decode c_M_station 30 = .ok (.ifCond .eq 74, 3) := by decide +kernel
theorem d_M_station_33 : decode c_M_station 33 = .ok (.iload_n 2, 1) := by decide +kernel
theorem d_M_station_34 : decode c_M_station 34 = .ok (.bipush (-100), 2) := by decide +kernel
theorem d_M_station_36 : decode c_M_station 36 = .ok (.bipush 100, 2) := by decide +kernel
theorem d_M_station_38 : decode c_M_station 38 = .ok (.invokestatic 107, 3) := by decide +kernel
theorem d_M_station_41 : decode c_M_station 41 = .ok (.ifCond .eq 63, 3) := by decide +kernel
theorem d_M_station_44 : decode c_M_station 44 = .ok (.iload_n 3, 1) := by decide +kernel
theorem d_M_station_45 : decode c_M_station 45 = .ok (.bipush (-100), 2) := by decide +kernel
theorem d_M_station_47 : decode c_M_station 47 = .ok (.bipush 100, 2) := by decide +kernel
theorem d_M_station_49 : decode c_M_station 49 = .ok (.invokestatic 107, 3) := by decide +kernel
theorem d_M_station_52 : decode c_M_station 52 = .ok (.ifCond .eq 52, 3) := by decide +kernel
theorem d_M_station_55 : decode c_M_station 55 = .ok (.iload 4, 2) := by decide +kernel
theorem d_M_station_57 : decode c_M_station 57 = .ok (.bipush (-100), 2) := by decide +kernel
theorem d_M_station_59 : decode c_M_station 59 = .ok (.bipush 100, 2) := by decide +kernel
theorem d_M_station_61 : decode c_M_station 61 = .ok (.invokestatic 107, 3) := by decide +kernel
theorem d_M_station_64 : decode c_M_station 64 = .ok (.ifCond .eq 40, 3) := by decide +kernel
theorem d_M_station_67 : decode c_M_station 67 = .ok (.iload 5, 2) := by decide +kernel
theorem d_M_station_69 : decode c_M_station 69 = .ok (.ifCond .lt 35, 3) := by decide +kernel
theorem d_M_station_72 : decode c_M_station 72 = .ok (.iload 5, 2) := by decide +kernel
theorem d_M_station_74 : decode c_M_station 74 = .ok (.bipush 100, 2) := by decide +kernel
theorem d_M_station_76 : decode c_M_station 76 = .ok (.idiv, 1) := by decide +kernel
theorem d_M_station_77 : decode c_M_station 77 = .ok (.iconst 1, 1) := by decide +kernel
theorem d_M_station_78 : decode c_M_station 78 = .ok (.bipush 50, 2) := by decide +kernel
theorem d_M_station_80 : decode c_M_station 80 = .ok (.invokestatic 107, 3) := by decide +kernel
theorem d_M_station_83 : decode c_M_station 83 = .ok (.ifCond .eq 21, 3) := by decide +kernel
theorem d_M_station_86 : decode c_M_station 86 = .ok (.iload 5, 2) := by decide +kernel
theorem d_M_station_88 : decode c_M_station 88 = .ok (.bipush 100, 2) := by decide +kernel
theorem d_M_station_90 : decode c_M_station 90 = .ok (.irem, 1) := by decide +kernel
theorem d_M_station_91 : decode c_M_station 91 = .ok (.iconst 1, 1) := by decide +kernel
theorem d_M_station_92 : decode c_M_station 92 = .ok (.bipush 50, 2) := by decide +kernel
theorem d_M_station_94 : decode c_M_station 94 = .ok (.invokestatic 107, 3) := by decide +kernel
theorem d_M_station_97 : decode c_M_station 97 = .ok (.ifCond .eq 7, 3) := by decide +kernel
theorem d_M_station_100 : decode c_M_station 100 = .ok (.iconst 1, 1) := by decide +kernel
theorem d_M_station_101 : decode c_M_station 101 = .ok (.goto 4, 3) := by decide +kernel
theorem d_M_station_104 : decode c_M_station 104 = .ok (.iconst 0, 1) := by decide +kernel
theorem d_M_station_105 : decode c_M_station 105 = .ok (.istore 6, 2) := by decide +kernel
theorem d_M_station_107 : decode c_M_station 107 = .ok (.aload_n 0, 1) := by decide +kernel
theorem d_M_station_108 : decode c_M_station 108 = .ok (.iload 6, 2) := by decide +kernel
theorem d_M_station_110 : decode c_M_station 110 = .ok (.ifCond .ne 7, 3) := by decide +kernel
theorem d_M_station_113 : decode c_M_station 113 = .ok (.iconst 1, 1) := by decide +kernel
theorem d_M_station_114 : decode c_M_station 114 = .ok (.goto 16, 3) := by decide +kernel
theorem d_M_station_117 : decode c_M_station 117 = .ok (.aload_n 0, 1) := by decide +kernel
theorem d_M_station_118 : decode c_M_station 118 = .ok (.getfield 86, 3) := by decide +kernel
theorem d_M_station_121 : decode c_M_station 121 = .ok (.iconst 5, 1) := by decide +kernel
theorem d_M_station_122 : decode c_M_station 122 = .ok (.if_icmp .ne 7, 3) := by decide +kernel
theorem d_M_station_125 : decode c_M_station 125 = .ok (.iconst 2, 1) := by decide +kernel
theorem d_M_station_126 : decode c_M_station 126 = .ok (.goto 4, 3) := by decide +kernel
theorem d_M_station_129 : decode c_M_station 129 = .ok (.iconst 0, 1) := by decide +kernel
theorem d_M_station_130 : decode c_M_station 130 = .ok (.putfield 64, 3) := by decide +kernel
theorem d_M_station_133 : decode c_M_station 133 = .ok (.aload_n 0, 1) := by decide +kernel
theorem d_M_station_134 : decode c_M_station 134 = .ok (.getfield 64, 3) := by decide +kernel
theorem d_M_station_137 : decode c_M_station 137 = .ok (.ifCond .le 5, 3) := by decide +kernel
theorem d_M_station_140 : decode c_M_station 140 = .ok (.iconst 0, 1) := by decide +kernel
theorem d_M_station_141 : decode c_M_station 141 = .ok (.ireturn, 1) := by decide +kernel
theorem d_M_station_142 : decode c_M_station 142 = .ok (.aload_n 0, 1) := by decide +kernel
theorem d_M_station_143 : decode c_M_station 143 = .ok (.getfield 7, 3) := by decide +kernel
theorem d_M_station_146 : decode c_M_station 146 = .ok (.iconst 5, 1) := by decide +kernel
theorem d_M_station_147 : decode c_M_station 147 = .ok (.aload_n 0, 1) := by decide +kernel
theorem d_M_station_148 : decode c_M_station 148 = .ok (.getfield 86, 3) := by decide +kernel
theorem d_M_station_151 : decode c_M_station 151 = .ok (.imul, 1) := by decide +kernel
theorem d_M_station_152 : decode c_M_station 152 = .ok (.iload_n 2, 1) := by decide +kernel
theorem d_M_station_153 : decode c_M_station 153 = .ok (.iastore, 1) := by decide +kernel
theorem d_M_station_154 : decode c_M_station 154 = .ok (.aload_n 0, 1) := by decide +kernel
theorem d_M_station_155 : decode c_M_station 155 = .ok (.getfield 7, 3) := by decide +kernel
theorem d_M_station_158 : decode c_M_station 158 = .ok (.iconst 5, 1) := by decide +kernel
theorem d_M_station_159 : decode c_M_station 159 = .ok (.aload_n 0, 1) := by decide +kernel
theorem d_M_station_160 : decode c_M_station 160 = .ok (.getfield 86, 3) := by decide +kernel
theorem d_M_station_163 : decode c_M_station 163 = .ok (.imul, 1) := by decide +kernel
theorem d_M_station_164 : decode c_M_station 164 = .ok (.iconst 1, 1) := by decide +kernel
theorem d_M_station_165 : decode c_M_station 165 = .ok (.iadd, 1) := by decide +kernel
theorem d_M_station_166 : decode c_M_station 166 = .ok (.iload_n 3, 1) := by decide +kernel
theorem d_M_station_167 : decode c_M_station 167 = .ok (.iastore, 1) := by decide +kernel
theorem d_M_station_168 : decode c_M_station 168 = .ok (.aload_n 0, 1) := by decide +kernel
theorem d_M_station_169 : decode c_M_station 169 = .ok (.getfield 7, 3) := by decide +kernel
theorem d_M_station_172 : decode c_M_station 172 = .ok (.iconst 5, 1) := by decide +kernel
theorem d_M_station_173 : decode c_M_station 173 = .ok (.aload_n 0, 1) := by decide +kernel
theorem d_M_station_174 : decode c_M_station 174 = .ok (.getfield 86, 3) := by decide +kernel
theorem d_M_station_177 : decode c_M_station 177 = .ok (.imul, 1) := by decide +kernel
theorem d_M_station_178 : decode c_M_station 178 = .ok (.iconst 2, 1) := by decide +kernel
theorem d_M_station_179 : decode c_M_station 179 = .ok (.iadd, 1) := by decide +kernel
theorem d_M_station_180 : decode c_M_station 180 = .ok (.iload 4, 2) := by decide +kernel
theorem d_M_station_182 : decode c_M_station 182 = .ok (.iastore, 1) := by decide +kernel
theorem d_M_station_183 : decode c_M_station 183 = .ok (.aload_n 0, 1) := by decide +kernel
theorem d_M_station_184 : decode c_M_station 184 = .ok (.getfield 7, 3) := by decide +kernel
theorem d_M_station_187 : decode c_M_station 187 = .ok (.iconst 5, 1) := by decide +kernel
theorem d_M_station_188 : decode c_M_station 188 = .ok (.aload_n 0, 1) := by decide +kernel
theorem d_M_station_189 : decode c_M_station 189 = .ok (.getfield 86, 3) := by decide +kernel
theorem d_M_station_192 : decode c_M_station 192 = .ok (.imul, 1) := by decide +kernel
theorem d_M_station_193 : decode c_M_station 193 = .ok (.iconst 3, 1) := by decide +kernel
theorem d_M_station_194 : decode c_M_station 194 = .ok (.iadd, 1) := by decide +kernel
theorem d_M_station_195 : decode c_M_station 195 = .ok (.iload 5, 2) := by decide +kernel
theorem d_M_station_197 : decode c_M_station 197 = .ok (.bipush 100, 2) := by decide +kernel
theorem d_M_station_199 : decode c_M_station 199 = .ok (.idiv, 1) := by decide +kernel
theorem d_M_station_200 : decode c_M_station 200 = .ok (.iastore, 1) := by decide +kernel
theorem d_M_station_201 : decode c_M_station 201 = .ok (.aload_n 0, 1) := by decide +kernel
theorem d_M_station_202 : decode c_M_station 202 = .ok (.getfield 7, 3) := by decide +kernel
theorem d_M_station_205 : decode c_M_station 205 = .ok (.iconst 5, 1) := by decide +kernel
theorem d_M_station_206 : decode c_M_station 206 = .ok (.aload_n 0, 1) := by decide +kernel
theorem d_M_station_207 : decode c_M_station 207 = .ok (.getfield 86, 3) := by decide +kernel
theorem d_M_station_210 : decode c_M_station 210 = .ok (.imul, 1) := by decide +kernel
theorem d_M_station_211 : decode c_M_station 211 = .ok (.iconst 4, 1) := by decide +kernel
theorem d_M_station_212 : decode c_M_station 212 = .ok (.iadd, 1) := by decide +kernel
theorem d_M_station_213 : decode c_M_station 213 = .ok (.iload 5, 2) := by decide +kernel
theorem d_M_station_215 : decode c_M_station 215 = .ok (.bipush 100, 2) := by decide +kernel
theorem d_M_station_217 : decode c_M_station 217 = .ok (.irem, 1) := by decide +kernel
theorem d_M_station_218 : decode c_M_station 218 = .ok (.iastore, 1) := by decide +kernel
theorem d_M_station_219 : decode c_M_station 219 = .ok (.aload_n 0, 1) := by decide +kernel
theorem d_M_station_220 : decode c_M_station 220 = .ok (.getfield 86, 3) := by decide +kernel
theorem d_M_station_223 : decode c_M_station 223 = .ok (.ifCond .le 15, 3) := by decide +kernel
theorem d_M_station_226 : decode c_M_station 226 = .ok (.aload_n 0, 1) := by decide +kernel
theorem d_M_station_227 : decode c_M_station 227 = .ok (.getfield 13, 3) := by decide +kernel
theorem d_M_station_230 : decode c_M_station 230 = .ok (.aload_n 0, 1) := by decide +kernel
theorem d_M_station_231 : decode c_M_station 231 = .ok (.getfield 86, 3) := by decide +kernel
theorem d_M_station_234 : decode c_M_station 234 = .ok (.iconst 1, 1) := by decide +kernel
theorem d_M_station_235 : decode c_M_station 235 = .ok (.isub, 1) := by decide +kernel
theorem d_M_station_236 : decode c_M_station 236 = .ok (.iload_n 1, 1) := by decide +kernel
theorem d_M_station_237 : decode c_M_station 237 = .ok (.iastore, 1) := by decide +kernel
theorem d_M_station_238 : decode c_M_station 238 = .ok (.aload_n 0, 1) := by decide +kernel
theorem d_M_station_239 : decode c_M_station 239 = .ok (.iconst 0, 1) := by decide +kernel
theorem d_M_station_240 : decode c_M_station 240 = .ok (.putfield 103, 3) := by decide +kernel
theorem d_M_station_243 : decode c_M_station 243 = .ok (.aload_n 0, 1) := by decide +kernel
theorem d_M_station_244 : decode c_M_station 244 = .ok (.dup, 1) := by decide +kernel
theorem d_M_station_245 : decode c_M_station 245 = .ok (.getfield 86, 3) := by decide +kernel
theorem d_M_station_248 : decode c_M_station 248 = .ok (.iconst 1, 1) := by decide +kernel
theorem d_M_station_249 : decode c_M_station 249 = .ok (.iadd, 1) := by decide +kernel
theorem d_M_station_250 : decode c_M_station 250 = .ok (.putfield 86, 3) := by decide +kernel
theorem d_M_station_253 : decode c_M_station 253 = .ok (.aload_n 0, 1) := by decide +kernel
theorem d_M_station_254 : decode c_M_station 254 = .ok (.getfield 86, 3) := by decide +kernel
theorem d_M_station_257 : decode c_M_station 257 = .ok (.iconst 1, 1) := by decide +kernel
theorem d_M_station_258 : decode c_M_station 258 = .ok (.isub, 1) := by decide +kernel
theorem d_M_station_259 : decode c_M_station 259 = .ok (.ireturn, 1) := by decide +kernel
set_option maxHeartbeats 1000000 in
set_option maxRecDepth 100000 in
theorem m_M_station (l : Launch) (D : va_G) (cI cL cZ : ClassId) (md : Nat → Nat) (co : Int) (n : Nat) (sh ra up lw kn fo : Int) (sc ln cb th pl lo pr la : Nat → Int) (cu cl fu fl : Nat → Nat) (ys yl yp : Nat → Int) (y x1 x2 x3 w : Int) (hy : -2147483648 ≤ y ∧ y < 2147483648) (hx1 : -2147483648 ≤ x1 ∧ x1 < 2147483648) (hx2 : -2147483648 ≤ x2 ∧ x2 < 2147483648) (hx3 : -2147483648 ≤ x3 ∧ x3 < 2147483648) (hw : -2147483648 ≤ w ∧ w < 2147483648) (hM : eh_MS n sh ra sc ln cb th pl lo pr la cu cl fu fl ys yl yp) : eh_M (S := Int × Int × Int × (Nat → Int) × (Nat → Int)) l y_M_station k_M_station 1 22 D classes [(cI, .int), (cL, .long), (cZ, .boolean)] [.ref (md 0), .int (eI y), .int (eI x1), .int (eI x2), .int (eI x3), .int (eI w)] [((md 0), .inr (5, [.int (eI co), .int (eI ((n : Nat) : Int)), .ref (md 1), .ref (md 2), .ref (md 3), .int (eI sh), .int (eI ra), .ref (md 4), .ref (md 5), .ref (md 6), .ref (md 7), .ref (md 8), .long (eL up), .long (eL lw), .ref (md 9), .ref (md 10), .ref (md 11), .ref (md 12), .ref (md 13), .ref (md 14), .ref (md 15), .int (eI kn), .int (eI fo)])), ((md 1), aI cI 25 sc), ((md 2), aI cI 4 ln), ((md 3), aI cZ 4 cb), ((md 4), aI cZ 3 th), ((md 5), aI cI 3 pl), ((md 6), aI cI 3 lo), ((md 7), aI cI 3 pr), ((md 8), aI cI 30 la)] (fun u => (¬ (((n = 0 ∧ y = 0) ∨ (n ≠ 0 ∧ 1 ≤ y ∧ y ≤ 100)) ∧ (-100 ≤ x1 ∧ x1 ≤ 100) ∧ (-100 ≤ x2 ∧ x2 ≤ 100) ∧ (-100 ≤ x3 ∧ x3 ≤ 100) ∧ 0 ≤ w ∧ (1 ≤ w / 100 ∧ w / 100 ≤ 50) ∧ (1 ≤ w % 100 ∧ w % 100 ≤ 50)) ∧ u = (1, kn, ((n : Nat) : Int), sc, ln)) ∨ ((((n = 0 ∧ y = 0) ∨ (n ≠ 0 ∧ 1 ≤ y ∧ y ≤ 100)) ∧ (-100 ≤ x1 ∧ x1 ≤ 100) ∧ (-100 ≤ x2 ∧ x2 ≤ 100) ∧ (-100 ≤ x3 ∧ x3 ≤ 100) ∧ 0 ≤ w ∧ (1 ≤ w / 100 ∧ w / 100 ≤ 50) ∧ (1 ≤ w % 100 ∧ w % 100 ≤ 50)) ∧ n = 5 ∧ u = (2, kn, ((n : Nat) : Int), sc, ln)) ∨ ((((n = 0 ∧ y = 0) ∨ (n ≠ 0 ∧ 1 ≤ y ∧ y ≤ 100)) ∧ (-100 ≤ x1 ∧ x1 ≤ 100) ∧ (-100 ≤ x2 ∧ x2 ≤ 100) ∧ (-100 ≤ x3 ∧ x3 ≤ 100) ∧ 0 ≤ w ∧ (1 ≤ w / 100 ∧ w / 100 ≤ 50) ∧ (1 ≤ w % 100 ∧ w % 100 ≤ 50)) ∧ n ≠ 5 ∧ u.1 = 0 ∧ u.2.1 = 0 ∧ u.2.2.1 = ((n : Nat) : Int) + 1 ∧ u.2.2.2.1 = (eh_upd (eh_upd (eh_upd (eh_upd (eh_upd sc (5 * n) x1) (5 * n + 1) x2) (5 * n + 2) x3) (5 * n + 3) (w / 100)) (5 * n + 4) (w % 100)) ∧ u.2.2.2.2 = (if n = 0 then ln else eh_upd ln (n - 1) y))) (fun u => some (.int (eI (if u.1 = 0 then ((n : Nat) : Int) else 0)))) (fun u => [((md 0), .inr (5, [.int (eI u.1), .int (eI u.2.2.1), .ref (md 1), .ref (md 2), .ref (md 3), .int (eI sh), .int (eI ra), .ref (md 4), .ref (md 5), .ref (md 6), .ref (md 7), .ref (md 8), .long (eL up), .long (eL lw), .ref (md 9), .ref (md 10), .ref (md 11), .ref (md 12), .ref (md 13), .ref (md 14), .ref (md 15), .int (eI u.2.1), .int (eI fo)])), ((md 1), aI cI 25 u.2.2.2.1), ((md 2), aI cI 4 u.2.2.2.2), ((md 3), aI cZ 4 cb), ((md 4), aI cZ 3 th), ((md 5), aI cI 3 pl), ((md 6), aI cI 3 lo), ((md 7), aI cI 3 pr), ((md 8), aI cI 30 la)]) := by
  intro sz
  refine Met.ofW (cc := c_M_station) (maxL := 7) (ret := (some .int)) (by decide) rfl ?_
  intro p e s m args below meth c s₁ B hml hv
  obtain ⟨hargs, hsz, hP, hK, hD0, hN⟩ := hv
  have hx := B.exec
  have hb := B.bytes
  have hrt := B.returns
  have hts := atoms_spec (ws := k_M_station :: ew_t) B.pre
  have htb : ∀ w ∈ ew_t, w.before args s = true := fun w h => hts w (List.mem_cons_of_mem _ h)
  have hown : s.vm.findClass "EarthHaulsModel" = some m.cls := findClass_of_methodNamed B.named
  have hlocks := B.notSynchronized
  have hE : entryFrame m args 7 = entryFrame m ([.ref (md 0), .int (eI y), .int (eI x1), .int (eI x2), .int (eI x3), .int (eI w)] : List Value).toArray 7 := by rw [hargs]
  rw [hE]
  clear hE hts B hargs
  generalize hRe : (headSpec _ _).room = R
  have hR1 : R.frames = 1 := by rw [← hRe]; rfl
  have hR2 : R.locals = 22 := by rw [← hRe]; rfl
  clear hRe
  generalize hQ : MQ below _ _ s 0 0 _ = Q
  subst hsz
  have hD := hD0.self (sz := s.heap.size)
  generalize hAe : va_A [((md 0), .inr (5, [.int (eI co), .int (eI ((n : Nat) : Int)), .ref (md 1), .ref (md 2), .ref (md 3), .int (eI sh), .int (eI ra), .ref (md 4), .ref (md 5), .ref (md 6), .ref (md 7), .ref (md 8), .long (eL up), .long (eL lw), .ref (md 9), .ref (md 10), .ref (md 11), .ref (md 12), .ref (md 13), .ref (md 14), .ref (md 15), .int (eI kn), .int (eI fo)])), ((md 1), aI cI 25 sc), ((md 2), aI cI 4 ln), ((md 3), aI cZ 4 cb), ((md 4), aI cZ 3 th), ((md 5), aI cI 3 pl), ((md 6), aI cI 3 lo), ((md 7), aI cI 3 pr), ((md 8), aI cI 30 la)] s.heap.size = A at hD hQ
  have hA : ∀ q : Nat, s.heap.size ≤ q → A q := fun q h => by rw [← hAe]; exact Or.inr h
  have hS : va_S A s.heap s.heap [] := va_S.rf
  have hP : va_P D classes [((md 0), .inr (5, [.int (eI co), .int (eI ((n : Nat) : Int)), .ref (md 1), .ref (md 2), .ref (md 3), .int (eI sh), .int (eI ra), .ref (md 4), .ref (md 5), .ref (md 6), .ref (md 7), .ref (md 8), .long (eL up), .long (eL lw), .ref (md 9), .ref (md 10), .ref (md 11), .ref (md 12), .ref (md 13), .ref (md 14), .ref (md 15), .int (eI kn), .int (eI fo)])), ((md 1), aI cI 25 sc), ((md 2), aI cI 4 ln), ((md 3), aI cZ 4 cb), ((md 4), aI cZ 3 th), ((md 5), aI cI 3 pl), ((md 6), aI cI 3 lo), ((md 7), aI cI 3 pr), ((md 8), aI cI 30 la)] s.heap := hP
  have hl := lv_entry ([.ref (md 0), .int (eI y), .int (eI x1), .int (eI x2), .int (eI x3), .int (eI w)]) (n := 7) (Nat.le_of_ble_eq_true rfl)
  rw [lg_entry_eq]
  generalize (lg_sl ([.ref (md 0), .int (eI y), .int (eI x1), .int (eI x2), .int (eI x3), .int (eI w)]) ++ List.replicate (7 - (lg_sl ([.ref (md 0), .int (eI y), .int (eI x1), .int (eI x2), .int (eI x3), .int (eI w)])).length) Slot.unset).toArray = ls at hl ⊢
  have hl : lv_has ls 7 [(0, .ref (md 0)), (1, .int (eI y)), (2, .int (eI x1)), (3, .int (eI x2)), (4, .int (eI x3)), (5, .int (eI w))] := hl
  have hn5 := hM.1.1
  rcases (show (n = 0 ∧ y = 0) ∨ (n = 0 ∧ y ≠ 0) ∨ (n ≠ 0 ∧ (1 ≤ y ∧ y ≤ 100)) ∨ (n ≠ 0 ∧ ¬ (1 ≤ y ∧ y ≤ 100)) by omega) with hcas | hcas | hcas | hcas
  ·
    by_cases hx19 : (-100 ≤ x1 ∧ x1 ≤ 100)
    ·
      by_cases hx29 : (-100 ≤ x2 ∧ x2 ≤ 100)
      ·
        by_cases hx39 : (-100 ≤ x3 ∧ x3 ≤ 100)
        ·
          by_cases hw09 : (0 ≤ w)
          ·
            by_cases hd19 : (1 ≤ w / 100 ∧ w / 100 ≤ 50)
            ·
              by_cases hd29 : (1 ≤ w % 100 ∧ w % 100 ≤ 50)
              ·
                by_cases hn9 : n = 5
                ·
                  omega
                ·
                  refine lv_aload_n hx hb d_M_station_0 rfl (lv_at hl 0 rfl) ?_
                  refine va_get (D := D) (ci := 5) (v := .int (eI ((n : Nat) : Int))) (C := R_M) (T := T_M) (N := 23) hx hb htb in_M hown hK hP 0 rfl rfl 1 (by decide) (htb _ tb_589) (fun _ h9 => h9) rfl d_M_station_1 ?_
                  refine we_if_ne (tgt := 19) hx hb (by constructor <;> omega) d_M_station_4 rfl (fun hc4 => absurd hc4 (by omega)) (fun hc4 => ?_)
                  refine lv_iload_n hx hb d_M_station_7 rfl (lv_at hl 1 rfl) ?_
                  refine we_if_ne (tgt := 15) hx hb (by constructor <;> omega) d_M_station_8 rfl (fun hc8 => absurd hc8 (by omega)) (fun hc8 => ?_)
                  refine lv_iconst (v := eI 1) hx hb d_M_station_11 rfl ?_
                  refine lv_goto (tgt := 26) hx hb d_M_station_12 rfl ?_
                  refine lv_istore hx hb d_M_station_26 hl (by decide) rfl (fun ls hl => ?_)
                  have hl : lv_has ls 7 [(6, .int (eI 1)), (0, .ref (md 0)), (1, .int (eI y)), (2, .int (eI x1)), (3, .int (eI x2)), (4, .int (eI x3)), (5, .int (eI w))] := hl
                  refine lv_iload hx hb d_M_station_28 (lv_at hl 0 rfl) ?_
                  refine we_if_eq (tgt := 104) hx hb (by constructor <;> omega) d_M_station_30 rfl (fun hc30 => absurd hc30 (by omega)) (fun hc30 => ?_)
                  refine lv_iload_n hx hb d_M_station_33 rfl (lv_at hl 3 rfl) ?_
                  refine lv_bipush (v := eI (-100)) hx hb d_M_station_34 (by decide) ?_
                  refine lv_bipush (v := eI 100) hx hb d_M_station_36 (by decide) ?_
                  refine eh_cRS (As := [.int (eI x1), .int (eI (-100)), .int (eI 100)]) (rest := []) (v := .int (eI (if (-100) ≤ x1 ∧ x1 ≤ 100 then 1 else 0))) hx hb hml hown htb hN (r_M_within l D x1 (-100) 100 hx1 (by omega) (by omega)) 3 ⟨tb_670, tb_671, tb_7, kin_M_within⟩ dv_M_within ⟨by rw [hR1]; decide, by rw [hR2]; decide⟩ hK hP [] rfl [] rfl rfl rfl hl.1 (Nat.le_of_ble_eq_true rfl) d_M_station_38 ⟨Nat.zero_le _, Nat.zero_le _⟩ ?_
                  refine we_if_eq (tgt := 104) hx hb (by constructor <;> split <;> omega) d_M_station_41 rfl (fun hc41 => absurd hc41 (by rw [if_pos hx19]; omega)) (fun hc41 => ?_)
                  refine lv_iload_n hx hb d_M_station_44 rfl (lv_at hl 4 rfl) ?_
                  refine lv_bipush (v := eI (-100)) hx hb d_M_station_45 (by decide) ?_
                  refine lv_bipush (v := eI 100) hx hb d_M_station_47 (by decide) ?_
                  refine eh_cRS (As := [.int (eI x2), .int (eI (-100)), .int (eI 100)]) (rest := []) (v := .int (eI (if (-100) ≤ x2 ∧ x2 ≤ 100 then 1 else 0))) hx hb hml hown htb hN (r_M_within l D x2 (-100) 100 hx2 (by omega) (by omega)) 3 ⟨tb_670, tb_671, tb_7, kin_M_within⟩ dv_M_within ⟨by rw [hR1]; decide, by rw [hR2]; decide⟩ hK hP [] rfl [] rfl rfl rfl hl.1 (Nat.le_of_ble_eq_true rfl) d_M_station_49 ⟨Nat.zero_le _, Nat.zero_le _⟩ ?_
                  refine we_if_eq (tgt := 104) hx hb (by constructor <;> split <;> omega) d_M_station_52 rfl (fun hc52 => absurd hc52 (by rw [if_pos hx29]; omega)) (fun hc52 => ?_)
                  refine lv_iload hx hb d_M_station_55 (lv_at hl 5 rfl) ?_
                  refine lv_bipush (v := eI (-100)) hx hb d_M_station_57 (by decide) ?_
                  refine lv_bipush (v := eI 100) hx hb d_M_station_59 (by decide) ?_
                  refine eh_cRS (As := [.int (eI x3), .int (eI (-100)), .int (eI 100)]) (rest := []) (v := .int (eI (if (-100) ≤ x3 ∧ x3 ≤ 100 then 1 else 0))) hx hb hml hown htb hN (r_M_within l D x3 (-100) 100 hx3 (by omega) (by omega)) 3 ⟨tb_670, tb_671, tb_7, kin_M_within⟩ dv_M_within ⟨by rw [hR1]; decide, by rw [hR2]; decide⟩ hK hP [] rfl [] rfl rfl rfl hl.1 (Nat.le_of_ble_eq_true rfl) d_M_station_61 ⟨Nat.zero_le _, Nat.zero_le _⟩ ?_
                  refine we_if_eq (tgt := 104) hx hb (by constructor <;> split <;> omega) d_M_station_64 rfl (fun hc64 => absurd hc64 (by rw [if_pos hx39]; omega)) (fun hc64 => ?_)
                  refine lv_iload hx hb d_M_station_67 (lv_at hl 6 rfl) ?_
                  refine we_if_lt (tgt := 104) hx hb (by constructor <;> omega) d_M_station_69 rfl (fun hc69 => absurd hc69 (by omega)) (fun hc69 => ?_)
                  refine lv_iload hx hb d_M_station_72 (lv_at hl 6 rfl) ?_
                  refine lv_bipush (v := eI 100) hx hb d_M_station_74 (by decide) ?_
                  refine we_idiv hx hb (by constructor <;> omega) (by constructor <;> omega) (by omega) (by omega) d_M_station_76 ?_
                  refine lv_iconst (v := eI 1) hx hb d_M_station_77 rfl ?_
                  refine lv_bipush (v := eI 50) hx hb d_M_station_78 (by decide) ?_
                  refine eh_cRS (As := [.int (eI (w / 100)), .int (eI 1), .int (eI 50)]) (rest := []) (v := .int (eI (if 1 ≤ (w / 100) ∧ (w / 100) ≤ 50 then 1 else 0))) hx hb hml hown htb hN (r_M_within l D (w / 100) 1 50 (by omega) (by omega) (by omega)) 3 ⟨tb_670, tb_671, tb_7, kin_M_within⟩ dv_M_within ⟨by rw [hR1]; decide, by rw [hR2]; decide⟩ hK hP [] rfl [] rfl rfl rfl hl.1 (Nat.le_of_ble_eq_true rfl) d_M_station_80 ⟨Nat.zero_le _, Nat.zero_le _⟩ ?_
                  refine we_if_eq (tgt := 104) hx hb (by constructor <;> split <;> omega) d_M_station_83 rfl (fun hc83 => absurd hc83 (by rw [if_pos hd19]; omega)) (fun hc83 => ?_)
                  refine lv_iload hx hb d_M_station_86 (lv_at hl 6 rfl) ?_
                  refine lv_bipush (v := eI 100) hx hb d_M_station_88 (by decide) ?_
                  refine we_irem hx hb (by constructor <;> omega) (by constructor <;> omega) (by omega) (by omega) d_M_station_90 ?_
                  refine lv_iconst (v := eI 1) hx hb d_M_station_91 rfl ?_
                  refine lv_bipush (v := eI 50) hx hb d_M_station_92 (by decide) ?_
                  refine eh_cRS (As := [.int (eI (w % 100)), .int (eI 1), .int (eI 50)]) (rest := []) (v := .int (eI (if 1 ≤ (w % 100) ∧ (w % 100) ≤ 50 then 1 else 0))) hx hb hml hown htb hN (r_M_within l D (w % 100) 1 50 (by omega) (by omega) (by omega)) 3 ⟨tb_670, tb_671, tb_7, kin_M_within⟩ dv_M_within ⟨by rw [hR1]; decide, by rw [hR2]; decide⟩ hK hP [] rfl [] rfl rfl rfl hl.1 (Nat.le_of_ble_eq_true rfl) d_M_station_94 ⟨Nat.zero_le _, Nat.zero_le _⟩ ?_
                  refine we_if_eq (tgt := 104) hx hb (by constructor <;> split <;> omega) d_M_station_97 rfl (fun hc97 => absurd hc97 (by rw [if_pos hd29]; omega)) (fun hc97 => ?_)
                  refine lv_iconst (v := eI 1) hx hb d_M_station_100 rfl ?_
                  refine lv_goto (tgt := 105) hx hb d_M_station_101 rfl ?_
                  refine lv_istore hx hb d_M_station_105 hl (by decide) rfl (fun ls hl => ?_)
                  have hl : lv_has ls 7 [(6, .int (eI 1)), (0, .ref (md 0)), (1, .int (eI y)), (2, .int (eI x1)), (3, .int (eI x2)), (4, .int (eI x3)), (5, .int (eI w))] := hl
                  refine lv_aload_n hx hb d_M_station_107 rfl (lv_at hl 1 rfl) ?_
                  refine lv_iload hx hb d_M_station_108 (lv_at hl 0 rfl) ?_
                  refine we_if_ne (tgt := 117) hx hb (by constructor <;> omega) d_M_station_110 rfl (fun hc110 => ?_) (fun hc110 => absurd hc110 (by omega))
                  refine lv_aload_n hx hb d_M_station_117 rfl (lv_at hl 1 rfl) ?_
                  refine va_get (D := D) (ci := 5) (v := .int (eI ((n : Nat) : Int))) (C := R_M) (T := T_M) (N := 23) hx hb htb in_M hown hK hP 0 rfl rfl 1 (by decide) (htb _ tb_589) (fun _ h9 => h9) rfl d_M_station_118 ?_
                  refine lv_iconst (v := eI 5) hx hb d_M_station_121 rfl ?_
                  refine we_icmp_ne (tgt := 129) hx hb (by constructor <;> omega) (by constructor <;> omega) d_M_station_122 rfl (fun hc122 => ?_) (fun hc122 => absurd hc122 (by omega))
                  refine lv_iconst (v := eI 0) hx hb d_M_station_129 rfl ?_
                  refine va_put (D := D) (ci := 5) (v := .int (eI 0)) (ty := .int) (C := R_M) (T := T_M) (N := 23) hx hb htb in_M t_M t_M_ok n_M hown hK hP hD hS 0 rfl rfl 0 (by decide) (htb _ tb_588) (fun _ h9 => h9) rfl (by decide +kernel) rfl rfl (Nat.le_of_ble_eq_true rfl) d_M_station_130 (fun H locs hP hD hS => ?_)
                  have hP : va_P D classes [((md 0), .inr (5, [.int (eI 0), .int (eI ((n : Nat) : Int)), .ref (md 1), .ref (md 2), .ref (md 3), .int (eI sh), .int (eI ra), .ref (md 4), .ref (md 5), .ref (md 6), .ref (md 7), .ref (md 8), .long (eL up), .long (eL lw), .ref (md 9), .ref (md 10), .ref (md 11), .ref (md 12), .ref (md 13), .ref (md 14), .ref (md 15), .int (eI kn), .int (eI fo)])), ((md 1), aI cI 25 sc), ((md 2), aI cI 4 ln), ((md 3), aI cZ 4 cb), ((md 4), aI cZ 3 th), ((md 5), aI cI 3 pl), ((md 6), aI cI 3 lo), ((md 7), aI cI 3 pr), ((md 8), aI cI 30 la)] H := hP
                  have hD : va_D A [((md 0), .inr (5, [.int (eI 0), .int (eI ((n : Nat) : Int)), .ref (md 1), .ref (md 2), .ref (md 3), .int (eI sh), .int (eI ra), .ref (md 4), .ref (md 5), .ref (md 6), .ref (md 7), .ref (md 8), .long (eL up), .long (eL lw), .ref (md 9), .ref (md 10), .ref (md 11), .ref (md 12), .ref (md 13), .ref (md 14), .ref (md 15), .int (eI kn), .int (eI fo)])), ((md 1), aI cI 25 sc), ((md 2), aI cI 4 ln), ((md 3), aI cZ 4 cb), ((md 4), aI cZ 3 th), ((md 5), aI cI 3 pl), ((md 6), aI cI 3 lo), ((md 7), aI cI 3 pr), ((md 8), aI cI 30 la)] := hD
                  refine lv_aload_n hx hb d_M_station_133 rfl (lv_at hl 1 rfl) ?_
                  refine va_get (D := D) (ci := 5) (v := .int (eI 0)) (C := R_M) (T := T_M) (N := 23) hx hb htb in_M hown hK hP 0 rfl rfl 0 (by decide) (htb _ tb_588) (fun _ h9 => h9) rfl d_M_station_134 ?_
                  refine we_if_le (tgt := 142) hx hb (by constructor <;> omega) d_M_station_137 rfl (fun hc137 => ?_) (fun hc137 => absurd hc137 (by omega))
                  refine lv_aload_n hx hb d_M_station_142 rfl (lv_at hl 1 rfl) ?_
                  refine va_get (D := D) (ci := 5) (v := .ref (md 1)) (C := R_M) (T := T_M) (N := 23) hx hb htb in_M hown hK hP 0 rfl rfl 2 (by decide) (htb _ tb_590) (fun _ h9 => h9) rfl d_M_station_143 ?_
                  refine lv_iconst (v := eI 5) hx hb d_M_station_146 rfl ?_
                  refine lv_aload_n hx hb d_M_station_147 rfl (lv_at hl 1 rfl) ?_
                  refine va_get (D := D) (ci := 5) (v := .int (eI ((n : Nat) : Int))) (C := R_M) (T := T_M) (N := 23) hx hb htb in_M hown hK hP 0 rfl rfl 1 (by decide) (htb _ tb_589) (fun _ h9 => h9) rfl d_M_station_148 ?_
                  refine we_imul hx hb d_M_station_151 ?_
                  refine lv_iload_n hx hb d_M_station_152 rfl (lv_at hl 3 rfl) ?_
                  refine we_iast hx hb hK hP hD hS 1 0 rfl rfl (5 * n) (by omega) (by omega) (by decide) d_M_station_153 (fun H locs hP hD hS => ?_)
                  have hP : va_P D classes [((md 0), .inr (5, [.int (eI 0), .int (eI ((n : Nat) : Int)), .ref (md 1), .ref (md 2), .ref (md 3), .int (eI sh), .int (eI ra), .ref (md 4), .ref (md 5), .ref (md 6), .ref (md 7), .ref (md 8), .long (eL up), .long (eL lw), .ref (md 9), .ref (md 10), .ref (md 11), .ref (md 12), .ref (md 13), .ref (md 14), .ref (md 15), .int (eI kn), .int (eI fo)])), ((md 1), aI cI 25 (eh_upd sc (5 * n) x1)), ((md 2), aI cI 4 ln), ((md 3), aI cZ 4 cb), ((md 4), aI cZ 3 th), ((md 5), aI cI 3 pl), ((md 6), aI cI 3 lo), ((md 7), aI cI 3 pr), ((md 8), aI cI 30 la)] H := hP
                  have hD : va_D A [((md 0), .inr (5, [.int (eI 0), .int (eI ((n : Nat) : Int)), .ref (md 1), .ref (md 2), .ref (md 3), .int (eI sh), .int (eI ra), .ref (md 4), .ref (md 5), .ref (md 6), .ref (md 7), .ref (md 8), .long (eL up), .long (eL lw), .ref (md 9), .ref (md 10), .ref (md 11), .ref (md 12), .ref (md 13), .ref (md 14), .ref (md 15), .int (eI kn), .int (eI fo)])), ((md 1), aI cI 25 (eh_upd sc (5 * n) x1)), ((md 2), aI cI 4 ln), ((md 3), aI cZ 4 cb), ((md 4), aI cZ 3 th), ((md 5), aI cI 3 pl), ((md 6), aI cI 3 lo), ((md 7), aI cI 3 pr), ((md 8), aI cI 30 la)] := hD
                  refine lv_aload_n hx hb d_M_station_154 rfl (lv_at hl 1 rfl) ?_
                  refine va_get (D := D) (ci := 5) (v := .ref (md 1)) (C := R_M) (T := T_M) (N := 23) hx hb htb in_M hown hK hP 0 rfl rfl 2 (by decide) (htb _ tb_590) (fun _ h9 => h9) rfl d_M_station_155 ?_
                  refine lv_iconst (v := eI 5) hx hb d_M_station_158 rfl ?_
                  refine lv_aload_n hx hb d_M_station_159 rfl (lv_at hl 1 rfl) ?_
                  refine va_get (D := D) (ci := 5) (v := .int (eI ((n : Nat) : Int))) (C := R_M) (T := T_M) (N := 23) hx hb htb in_M hown hK hP 0 rfl rfl 1 (by decide) (htb _ tb_589) (fun _ h9 => h9) rfl d_M_station_160 ?_
                  refine we_imul hx hb d_M_station_163 ?_
                  refine lv_iconst (v := eI 1) hx hb d_M_station_164 rfl ?_
                  refine we_iadd hx hb d_M_station_165 ?_
                  refine lv_iload_n hx hb d_M_station_166 rfl (lv_at hl 4 rfl) ?_
                  refine we_iast hx hb hK hP hD hS 1 0 rfl rfl (5 * n + 1) (by omega) (by omega) (by decide) d_M_station_167 (fun H locs hP hD hS => ?_)
                  have hP : va_P D classes [((md 0), .inr (5, [.int (eI 0), .int (eI ((n : Nat) : Int)), .ref (md 1), .ref (md 2), .ref (md 3), .int (eI sh), .int (eI ra), .ref (md 4), .ref (md 5), .ref (md 6), .ref (md 7), .ref (md 8), .long (eL up), .long (eL lw), .ref (md 9), .ref (md 10), .ref (md 11), .ref (md 12), .ref (md 13), .ref (md 14), .ref (md 15), .int (eI kn), .int (eI fo)])), ((md 1), aI cI 25 (eh_upd (eh_upd sc (5 * n) x1) (5 * n + 1) x2)), ((md 2), aI cI 4 ln), ((md 3), aI cZ 4 cb), ((md 4), aI cZ 3 th), ((md 5), aI cI 3 pl), ((md 6), aI cI 3 lo), ((md 7), aI cI 3 pr), ((md 8), aI cI 30 la)] H := hP
                  have hD : va_D A [((md 0), .inr (5, [.int (eI 0), .int (eI ((n : Nat) : Int)), .ref (md 1), .ref (md 2), .ref (md 3), .int (eI sh), .int (eI ra), .ref (md 4), .ref (md 5), .ref (md 6), .ref (md 7), .ref (md 8), .long (eL up), .long (eL lw), .ref (md 9), .ref (md 10), .ref (md 11), .ref (md 12), .ref (md 13), .ref (md 14), .ref (md 15), .int (eI kn), .int (eI fo)])), ((md 1), aI cI 25 (eh_upd (eh_upd sc (5 * n) x1) (5 * n + 1) x2)), ((md 2), aI cI 4 ln), ((md 3), aI cZ 4 cb), ((md 4), aI cZ 3 th), ((md 5), aI cI 3 pl), ((md 6), aI cI 3 lo), ((md 7), aI cI 3 pr), ((md 8), aI cI 30 la)] := hD
                  refine lv_aload_n hx hb d_M_station_168 rfl (lv_at hl 1 rfl) ?_
                  refine va_get (D := D) (ci := 5) (v := .ref (md 1)) (C := R_M) (T := T_M) (N := 23) hx hb htb in_M hown hK hP 0 rfl rfl 2 (by decide) (htb _ tb_590) (fun _ h9 => h9) rfl d_M_station_169 ?_
                  refine lv_iconst (v := eI 5) hx hb d_M_station_172 rfl ?_
                  refine lv_aload_n hx hb d_M_station_173 rfl (lv_at hl 1 rfl) ?_
                  refine va_get (D := D) (ci := 5) (v := .int (eI ((n : Nat) : Int))) (C := R_M) (T := T_M) (N := 23) hx hb htb in_M hown hK hP 0 rfl rfl 1 (by decide) (htb _ tb_589) (fun _ h9 => h9) rfl d_M_station_174 ?_
                  refine we_imul hx hb d_M_station_177 ?_
                  refine lv_iconst (v := eI 2) hx hb d_M_station_178 rfl ?_
                  refine we_iadd hx hb d_M_station_179 ?_
                  refine lv_iload hx hb d_M_station_180 (lv_at hl 5 rfl) ?_
                  refine we_iast hx hb hK hP hD hS 1 0 rfl rfl (5 * n + 2) (by omega) (by omega) (by decide) d_M_station_182 (fun H locs hP hD hS => ?_)
                  have hP : va_P D classes [((md 0), .inr (5, [.int (eI 0), .int (eI ((n : Nat) : Int)), .ref (md 1), .ref (md 2), .ref (md 3), .int (eI sh), .int (eI ra), .ref (md 4), .ref (md 5), .ref (md 6), .ref (md 7), .ref (md 8), .long (eL up), .long (eL lw), .ref (md 9), .ref (md 10), .ref (md 11), .ref (md 12), .ref (md 13), .ref (md 14), .ref (md 15), .int (eI kn), .int (eI fo)])), ((md 1), aI cI 25 (eh_upd (eh_upd (eh_upd sc (5 * n) x1) (5 * n + 1) x2) (5 * n + 2) x3)), ((md 2), aI cI 4 ln), ((md 3), aI cZ 4 cb), ((md 4), aI cZ 3 th), ((md 5), aI cI 3 pl), ((md 6), aI cI 3 lo), ((md 7), aI cI 3 pr), ((md 8), aI cI 30 la)] H := hP
                  have hD : va_D A [((md 0), .inr (5, [.int (eI 0), .int (eI ((n : Nat) : Int)), .ref (md 1), .ref (md 2), .ref (md 3), .int (eI sh), .int (eI ra), .ref (md 4), .ref (md 5), .ref (md 6), .ref (md 7), .ref (md 8), .long (eL up), .long (eL lw), .ref (md 9), .ref (md 10), .ref (md 11), .ref (md 12), .ref (md 13), .ref (md 14), .ref (md 15), .int (eI kn), .int (eI fo)])), ((md 1), aI cI 25 (eh_upd (eh_upd (eh_upd sc (5 * n) x1) (5 * n + 1) x2) (5 * n + 2) x3)), ((md 2), aI cI 4 ln), ((md 3), aI cZ 4 cb), ((md 4), aI cZ 3 th), ((md 5), aI cI 3 pl), ((md 6), aI cI 3 lo), ((md 7), aI cI 3 pr), ((md 8), aI cI 30 la)] := hD
                  refine lv_aload_n hx hb d_M_station_183 rfl (lv_at hl 1 rfl) ?_
                  refine va_get (D := D) (ci := 5) (v := .ref (md 1)) (C := R_M) (T := T_M) (N := 23) hx hb htb in_M hown hK hP 0 rfl rfl 2 (by decide) (htb _ tb_590) (fun _ h9 => h9) rfl d_M_station_184 ?_
                  refine lv_iconst (v := eI 5) hx hb d_M_station_187 rfl ?_
                  refine lv_aload_n hx hb d_M_station_188 rfl (lv_at hl 1 rfl) ?_
                  refine va_get (D := D) (ci := 5) (v := .int (eI ((n : Nat) : Int))) (C := R_M) (T := T_M) (N := 23) hx hb htb in_M hown hK hP 0 rfl rfl 1 (by decide) (htb _ tb_589) (fun _ h9 => h9) rfl d_M_station_189 ?_
                  refine we_imul hx hb d_M_station_192 ?_
                  refine lv_iconst (v := eI 3) hx hb d_M_station_193 rfl ?_
                  refine we_iadd hx hb d_M_station_194 ?_
                  refine lv_iload hx hb d_M_station_195 (lv_at hl 6 rfl) ?_
                  refine lv_bipush (v := eI 100) hx hb d_M_station_197 (by decide) ?_
                  refine we_idiv hx hb (by constructor <;> omega) (by constructor <;> omega) (by omega) (by omega) d_M_station_199 ?_
                  refine we_iast hx hb hK hP hD hS 1 0 rfl rfl (5 * n + 3) (by omega) (by omega) (by decide) d_M_station_200 (fun H locs hP hD hS => ?_)
                  have hP : va_P D classes [((md 0), .inr (5, [.int (eI 0), .int (eI ((n : Nat) : Int)), .ref (md 1), .ref (md 2), .ref (md 3), .int (eI sh), .int (eI ra), .ref (md 4), .ref (md 5), .ref (md 6), .ref (md 7), .ref (md 8), .long (eL up), .long (eL lw), .ref (md 9), .ref (md 10), .ref (md 11), .ref (md 12), .ref (md 13), .ref (md 14), .ref (md 15), .int (eI kn), .int (eI fo)])), ((md 1), aI cI 25 (eh_upd (eh_upd (eh_upd (eh_upd sc (5 * n) x1) (5 * n + 1) x2) (5 * n + 2) x3) (5 * n + 3) (w / 100))), ((md 2), aI cI 4 ln), ((md 3), aI cZ 4 cb), ((md 4), aI cZ 3 th), ((md 5), aI cI 3 pl), ((md 6), aI cI 3 lo), ((md 7), aI cI 3 pr), ((md 8), aI cI 30 la)] H := hP
                  have hD : va_D A [((md 0), .inr (5, [.int (eI 0), .int (eI ((n : Nat) : Int)), .ref (md 1), .ref (md 2), .ref (md 3), .int (eI sh), .int (eI ra), .ref (md 4), .ref (md 5), .ref (md 6), .ref (md 7), .ref (md 8), .long (eL up), .long (eL lw), .ref (md 9), .ref (md 10), .ref (md 11), .ref (md 12), .ref (md 13), .ref (md 14), .ref (md 15), .int (eI kn), .int (eI fo)])), ((md 1), aI cI 25 (eh_upd (eh_upd (eh_upd (eh_upd sc (5 * n) x1) (5 * n + 1) x2) (5 * n + 2) x3) (5 * n + 3) (w / 100))), ((md 2), aI cI 4 ln), ((md 3), aI cZ 4 cb), ((md 4), aI cZ 3 th), ((md 5), aI cI 3 pl), ((md 6), aI cI 3 lo), ((md 7), aI cI 3 pr), ((md 8), aI cI 30 la)] := hD
                  refine lv_aload_n hx hb d_M_station_201 rfl (lv_at hl 1 rfl) ?_
                  refine va_get (D := D) (ci := 5) (v := .ref (md 1)) (C := R_M) (T := T_M) (N := 23) hx hb htb in_M hown hK hP 0 rfl rfl 2 (by decide) (htb _ tb_590) (fun _ h9 => h9) rfl d_M_station_202 ?_
                  refine lv_iconst (v := eI 5) hx hb d_M_station_205 rfl ?_
                  refine lv_aload_n hx hb d_M_station_206 rfl (lv_at hl 1 rfl) ?_
                  refine va_get (D := D) (ci := 5) (v := .int (eI ((n : Nat) : Int))) (C := R_M) (T := T_M) (N := 23) hx hb htb in_M hown hK hP 0 rfl rfl 1 (by decide) (htb _ tb_589) (fun _ h9 => h9) rfl d_M_station_207 ?_
                  refine we_imul hx hb d_M_station_210 ?_
                  refine lv_iconst (v := eI 4) hx hb d_M_station_211 rfl ?_
                  refine we_iadd hx hb d_M_station_212 ?_
                  refine lv_iload hx hb d_M_station_213 (lv_at hl 6 rfl) ?_
                  refine lv_bipush (v := eI 100) hx hb d_M_station_215 (by decide) ?_
                  refine we_irem hx hb (by constructor <;> omega) (by constructor <;> omega) (by omega) (by omega) d_M_station_217 ?_
                  refine we_iast hx hb hK hP hD hS 1 0 rfl rfl (5 * n + 4) (by omega) (by omega) (by decide) d_M_station_218 (fun H locs hP hD hS => ?_)
                  have hP : va_P D classes [((md 0), .inr (5, [.int (eI 0), .int (eI ((n : Nat) : Int)), .ref (md 1), .ref (md 2), .ref (md 3), .int (eI sh), .int (eI ra), .ref (md 4), .ref (md 5), .ref (md 6), .ref (md 7), .ref (md 8), .long (eL up), .long (eL lw), .ref (md 9), .ref (md 10), .ref (md 11), .ref (md 12), .ref (md 13), .ref (md 14), .ref (md 15), .int (eI kn), .int (eI fo)])), ((md 1), aI cI 25 (eh_upd (eh_upd (eh_upd (eh_upd (eh_upd sc (5 * n) x1) (5 * n + 1) x2) (5 * n + 2) x3) (5 * n + 3) (w / 100)) (5 * n + 4) (w % 100))), ((md 2), aI cI 4 ln), ((md 3), aI cZ 4 cb), ((md 4), aI cZ 3 th), ((md 5), aI cI 3 pl), ((md 6), aI cI 3 lo), ((md 7), aI cI 3 pr), ((md 8), aI cI 30 la)] H := hP
                  have hD : va_D A [((md 0), .inr (5, [.int (eI 0), .int (eI ((n : Nat) : Int)), .ref (md 1), .ref (md 2), .ref (md 3), .int (eI sh), .int (eI ra), .ref (md 4), .ref (md 5), .ref (md 6), .ref (md 7), .ref (md 8), .long (eL up), .long (eL lw), .ref (md 9), .ref (md 10), .ref (md 11), .ref (md 12), .ref (md 13), .ref (md 14), .ref (md 15), .int (eI kn), .int (eI fo)])), ((md 1), aI cI 25 (eh_upd (eh_upd (eh_upd (eh_upd (eh_upd sc (5 * n) x1) (5 * n + 1) x2) (5 * n + 2) x3) (5 * n + 3) (w / 100)) (5 * n + 4) (w % 100))), ((md 2), aI cI 4 ln), ((md 3), aI cZ 4 cb), ((md 4), aI cZ 3 th), ((md 5), aI cI 3 pl), ((md 6), aI cI 3 lo), ((md 7), aI cI 3 pr), ((md 8), aI cI 30 la)] := hD
                  refine lv_aload_n hx hb d_M_station_219 rfl (lv_at hl 1 rfl) ?_
                  refine va_get (D := D) (ci := 5) (v := .int (eI ((n : Nat) : Int))) (C := R_M) (T := T_M) (N := 23) hx hb htb in_M hown hK hP 0 rfl rfl 1 (by decide) (htb _ tb_589) (fun _ h9 => h9) rfl d_M_station_220 ?_
                  refine we_if_le (tgt := 238) hx hb (by constructor <;> omega) d_M_station_223 rfl (fun hc223 => ?_) (fun hc223 => absurd hc223 (by omega))
                  refine lv_aload_n hx hb d_M_station_238 rfl (lv_at hl 1 rfl) ?_
                  refine lv_iconst (v := eI 0) hx hb d_M_station_239 rfl ?_
                  refine va_put (D := D) (ci := 5) (v := .int (eI 0)) (ty := .boolean) (C := R_M) (T := T_M) (N := 23) hx hb htb in_M t_M t_M_ok n_M hown hK hP hD hS 0 rfl rfl 21 (by decide) (htb _ tb_609) (fun _ h9 => h9) rfl (by decide +kernel) rfl rfl (Nat.le_of_ble_eq_true rfl) d_M_station_240 (fun H locs hP hD hS => ?_)
                  have hP : va_P D classes [((md 0), .inr (5, [.int (eI 0), .int (eI ((n : Nat) : Int)), .ref (md 1), .ref (md 2), .ref (md 3), .int (eI sh), .int (eI ra), .ref (md 4), .ref (md 5), .ref (md 6), .ref (md 7), .ref (md 8), .long (eL up), .long (eL lw), .ref (md 9), .ref (md 10), .ref (md 11), .ref (md 12), .ref (md 13), .ref (md 14), .ref (md 15), .int (eI 0), .int (eI fo)])), ((md 1), aI cI 25 (eh_upd (eh_upd (eh_upd (eh_upd (eh_upd sc (5 * n) x1) (5 * n + 1) x2) (5 * n + 2) x3) (5 * n + 3) (w / 100)) (5 * n + 4) (w % 100))), ((md 2), aI cI 4 ln), ((md 3), aI cZ 4 cb), ((md 4), aI cZ 3 th), ((md 5), aI cI 3 pl), ((md 6), aI cI 3 lo), ((md 7), aI cI 3 pr), ((md 8), aI cI 30 la)] H := hP
                  have hD : va_D A [((md 0), .inr (5, [.int (eI 0), .int (eI ((n : Nat) : Int)), .ref (md 1), .ref (md 2), .ref (md 3), .int (eI sh), .int (eI ra), .ref (md 4), .ref (md 5), .ref (md 6), .ref (md 7), .ref (md 8), .long (eL up), .long (eL lw), .ref (md 9), .ref (md 10), .ref (md 11), .ref (md 12), .ref (md 13), .ref (md 14), .ref (md 15), .int (eI 0), .int (eI fo)])), ((md 1), aI cI 25 (eh_upd (eh_upd (eh_upd (eh_upd (eh_upd sc (5 * n) x1) (5 * n + 1) x2) (5 * n + 2) x3) (5 * n + 3) (w / 100)) (5 * n + 4) (w % 100))), ((md 2), aI cI 4 ln), ((md 3), aI cZ 4 cb), ((md 4), aI cZ 3 th), ((md 5), aI cI 3 pl), ((md 6), aI cI 3 lo), ((md 7), aI cI 3 pr), ((md 8), aI cI 30 la)] := hD
                  refine lv_aload_n hx hb d_M_station_243 rfl (lv_at hl 1 rfl) ?_
                  refine lv_dup hx hb d_M_station_244 rfl ?_
                  refine va_get (D := D) (ci := 5) (v := .int (eI ((n : Nat) : Int))) (C := R_M) (T := T_M) (N := 23) hx hb htb in_M hown hK hP 0 rfl rfl 1 (by decide) (htb _ tb_589) (fun _ h9 => h9) rfl d_M_station_245 ?_
                  refine lv_iconst (v := eI 1) hx hb d_M_station_248 rfl ?_
                  refine we_iadd hx hb d_M_station_249 ?_
                  refine va_put (D := D) (ci := 5) (v := .int (eI (((n : Nat) : Int) + 1))) (ty := .int) (C := R_M) (T := T_M) (N := 23) hx hb htb in_M t_M t_M_ok n_M hown hK hP hD hS 0 rfl rfl 1 (by decide) (htb _ tb_589) (fun _ h9 => h9) rfl (by decide +kernel) rfl rfl (Nat.le_of_ble_eq_true rfl) d_M_station_250 (fun H locs hP hD hS => ?_)
                  have hP : va_P D classes [((md 0), .inr (5, [.int (eI 0), .int (eI (((n : Nat) : Int) + 1)), .ref (md 1), .ref (md 2), .ref (md 3), .int (eI sh), .int (eI ra), .ref (md 4), .ref (md 5), .ref (md 6), .ref (md 7), .ref (md 8), .long (eL up), .long (eL lw), .ref (md 9), .ref (md 10), .ref (md 11), .ref (md 12), .ref (md 13), .ref (md 14), .ref (md 15), .int (eI 0), .int (eI fo)])), ((md 1), aI cI 25 (eh_upd (eh_upd (eh_upd (eh_upd (eh_upd sc (5 * n) x1) (5 * n + 1) x2) (5 * n + 2) x3) (5 * n + 3) (w / 100)) (5 * n + 4) (w % 100))), ((md 2), aI cI 4 ln), ((md 3), aI cZ 4 cb), ((md 4), aI cZ 3 th), ((md 5), aI cI 3 pl), ((md 6), aI cI 3 lo), ((md 7), aI cI 3 pr), ((md 8), aI cI 30 la)] H := hP
                  have hD : va_D A [((md 0), .inr (5, [.int (eI 0), .int (eI (((n : Nat) : Int) + 1)), .ref (md 1), .ref (md 2), .ref (md 3), .int (eI sh), .int (eI ra), .ref (md 4), .ref (md 5), .ref (md 6), .ref (md 7), .ref (md 8), .long (eL up), .long (eL lw), .ref (md 9), .ref (md 10), .ref (md 11), .ref (md 12), .ref (md 13), .ref (md 14), .ref (md 15), .int (eI 0), .int (eI fo)])), ((md 1), aI cI 25 (eh_upd (eh_upd (eh_upd (eh_upd (eh_upd sc (5 * n) x1) (5 * n + 1) x2) (5 * n + 2) x3) (5 * n + 3) (w / 100)) (5 * n + 4) (w % 100))), ((md 2), aI cI 4 ln), ((md 3), aI cZ 4 cb), ((md 4), aI cZ 3 th), ((md 5), aI cI 3 pl), ((md 6), aI cI 3 lo), ((md 7), aI cI 3 pr), ((md 8), aI cI 30 la)] := hD
                  refine lv_aload_n hx hb d_M_station_253 rfl (lv_at hl 1 rfl) ?_
                  refine va_get (D := D) (ci := 5) (v := .int (eI (((n : Nat) : Int) + 1))) (C := R_M) (T := T_M) (N := 23) hx hb htb in_M hown hK hP 0 rfl rfl 1 (by decide) (htb _ tb_589) (fun _ h9 => h9) rfl d_M_station_254 ?_
                  refine lv_iconst (v := eI 1) hx hb d_M_station_257 rfl ?_
                  refine we_isub hx hb d_M_station_258 ?_
                  have hres : (((((n : Nat) : Int) + 1) - 1) : Int) = (if (0 : Int) = 0 then ((n : Nat) : Int) else 0) := by rw [if_pos rfl]; omega
                  rw [hres]
                  subst hQ
                  exact W.iret hx hb hrt (fun t9 ht hW => ⟨⟨(0, 0, ((n : Nat) : Int) + 1, (eh_upd (eh_upd (eh_upd (eh_upd (eh_upd sc (5 * n) x1) (5 * n + 1) x2) (5 * n + 2) x3) (5 * n + 3) (w / 100)) (5 * n + 4) (w % 100)), ln), rfl, Or.inr (Or.inr ⟨⟨Or.inl hcas, hx19, hx29, hx39, hw09, hd19, hd29⟩, hn9, rfl, rfl, rfl, rfl, by rw [if_pos hcas.1]⟩), by rw [ht]; exact hP, hD⟩, hS.F ht⟩) hS.2.2 d_M_station_259
              ·
                have hng : ¬ (((n = 0 ∧ y = 0) ∨ (n ≠ 0 ∧ 1 ≤ y ∧ y ≤ 100)) ∧ (-100 ≤ x1 ∧ x1 ≤ 100) ∧ (-100 ≤ x2 ∧ x2 ≤ 100) ∧ (-100 ≤ x3 ∧ x3 ≤ 100) ∧ 0 ≤ w ∧ (1 ≤ w / 100 ∧ w / 100 ≤ 50) ∧ (1 ≤ w % 100 ∧ w % 100 ≤ 50)) := fun q9 => hd29 (by obtain ⟨q1, q2, q3, q4, q5, q6, q7⟩ := q9; exact q7)
                refine lv_aload_n hx hb d_M_station_0 rfl (lv_at hl 0 rfl) ?_
                refine va_get (D := D) (ci := 5) (v := .int (eI ((n : Nat) : Int))) (C := R_M) (T := T_M) (N := 23) hx hb htb in_M hown hK hP 0 rfl rfl 1 (by decide) (htb _ tb_589) (fun _ h9 => h9) rfl d_M_station_1 ?_
                refine we_if_ne (tgt := 19) hx hb (by constructor <;> omega) d_M_station_4 rfl (fun hc4 => absurd hc4 (by omega)) (fun hc4 => ?_)
                refine lv_iload_n hx hb d_M_station_7 rfl (lv_at hl 1 rfl) ?_
                refine we_if_ne (tgt := 15) hx hb (by constructor <;> omega) d_M_station_8 rfl (fun hc8 => absurd hc8 (by omega)) (fun hc8 => ?_)
                refine lv_iconst (v := eI 1) hx hb d_M_station_11 rfl ?_
                refine lv_goto (tgt := 26) hx hb d_M_station_12 rfl ?_
                refine lv_istore hx hb d_M_station_26 hl (by decide) rfl (fun ls hl => ?_)
                have hl : lv_has ls 7 [(6, .int (eI 1)), (0, .ref (md 0)), (1, .int (eI y)), (2, .int (eI x1)), (3, .int (eI x2)), (4, .int (eI x3)), (5, .int (eI w))] := hl
                refine lv_iload hx hb d_M_station_28 (lv_at hl 0 rfl) ?_
                refine we_if_eq (tgt := 104) hx hb (by constructor <;> omega) d_M_station_30 rfl (fun hc30 => absurd hc30 (by omega)) (fun hc30 => ?_)
                refine lv_iload_n hx hb d_M_station_33 rfl (lv_at hl 3 rfl) ?_
                refine lv_bipush (v := eI (-100)) hx hb d_M_station_34 (by decide) ?_
                refine lv_bipush (v := eI 100) hx hb d_M_station_36 (by decide) ?_
                refine eh_cRS (As := [.int (eI x1), .int (eI (-100)), .int (eI 100)]) (rest := []) (v := .int (eI (if (-100) ≤ x1 ∧ x1 ≤ 100 then 1 else 0))) hx hb hml hown htb hN (r_M_within l D x1 (-100) 100 hx1 (by omega) (by omega)) 3 ⟨tb_670, tb_671, tb_7, kin_M_within⟩ dv_M_within ⟨by rw [hR1]; decide, by rw [hR2]; decide⟩ hK hP [] rfl [] rfl rfl rfl hl.1 (Nat.le_of_ble_eq_true rfl) d_M_station_38 ⟨Nat.zero_le _, Nat.zero_le _⟩ ?_
                refine we_if_eq (tgt := 104) hx hb (by constructor <;> split <;> omega) d_M_station_41 rfl (fun hc41 => absurd hc41 (by rw [if_pos hx19]; omega)) (fun hc41 => ?_)
                refine lv_iload_n hx hb d_M_station_44 rfl (lv_at hl 4 rfl) ?_
                refine lv_bipush (v := eI (-100)) hx hb d_M_station_45 (by decide) ?_
                refine lv_bipush (v := eI 100) hx hb d_M_station_47 (by decide) ?_
                refine eh_cRS (As := [.int (eI x2), .int (eI (-100)), .int (eI 100)]) (rest := []) (v := .int (eI (if (-100) ≤ x2 ∧ x2 ≤ 100 then 1 else 0))) hx hb hml hown htb hN (r_M_within l D x2 (-100) 100 hx2 (by omega) (by omega)) 3 ⟨tb_670, tb_671, tb_7, kin_M_within⟩ dv_M_within ⟨by rw [hR1]; decide, by rw [hR2]; decide⟩ hK hP [] rfl [] rfl rfl rfl hl.1 (Nat.le_of_ble_eq_true rfl) d_M_station_49 ⟨Nat.zero_le _, Nat.zero_le _⟩ ?_
                refine we_if_eq (tgt := 104) hx hb (by constructor <;> split <;> omega) d_M_station_52 rfl (fun hc52 => absurd hc52 (by rw [if_pos hx29]; omega)) (fun hc52 => ?_)
                refine lv_iload hx hb d_M_station_55 (lv_at hl 5 rfl) ?_
                refine lv_bipush (v := eI (-100)) hx hb d_M_station_57 (by decide) ?_
                refine lv_bipush (v := eI 100) hx hb d_M_station_59 (by decide) ?_
                refine eh_cRS (As := [.int (eI x3), .int (eI (-100)), .int (eI 100)]) (rest := []) (v := .int (eI (if (-100) ≤ x3 ∧ x3 ≤ 100 then 1 else 0))) hx hb hml hown htb hN (r_M_within l D x3 (-100) 100 hx3 (by omega) (by omega)) 3 ⟨tb_670, tb_671, tb_7, kin_M_within⟩ dv_M_within ⟨by rw [hR1]; decide, by rw [hR2]; decide⟩ hK hP [] rfl [] rfl rfl rfl hl.1 (Nat.le_of_ble_eq_true rfl) d_M_station_61 ⟨Nat.zero_le _, Nat.zero_le _⟩ ?_
                refine we_if_eq (tgt := 104) hx hb (by constructor <;> split <;> omega) d_M_station_64 rfl (fun hc64 => absurd hc64 (by rw [if_pos hx39]; omega)) (fun hc64 => ?_)
                refine lv_iload hx hb d_M_station_67 (lv_at hl 6 rfl) ?_
                refine we_if_lt (tgt := 104) hx hb (by constructor <;> omega) d_M_station_69 rfl (fun hc69 => absurd hc69 (by omega)) (fun hc69 => ?_)
                refine lv_iload hx hb d_M_station_72 (lv_at hl 6 rfl) ?_
                refine lv_bipush (v := eI 100) hx hb d_M_station_74 (by decide) ?_
                refine we_idiv hx hb (by constructor <;> omega) (by constructor <;> omega) (by omega) (by omega) d_M_station_76 ?_
                refine lv_iconst (v := eI 1) hx hb d_M_station_77 rfl ?_
                refine lv_bipush (v := eI 50) hx hb d_M_station_78 (by decide) ?_
                refine eh_cRS (As := [.int (eI (w / 100)), .int (eI 1), .int (eI 50)]) (rest := []) (v := .int (eI (if 1 ≤ (w / 100) ∧ (w / 100) ≤ 50 then 1 else 0))) hx hb hml hown htb hN (r_M_within l D (w / 100) 1 50 (by omega) (by omega) (by omega)) 3 ⟨tb_670, tb_671, tb_7, kin_M_within⟩ dv_M_within ⟨by rw [hR1]; decide, by rw [hR2]; decide⟩ hK hP [] rfl [] rfl rfl rfl hl.1 (Nat.le_of_ble_eq_true rfl) d_M_station_80 ⟨Nat.zero_le _, Nat.zero_le _⟩ ?_
                refine we_if_eq (tgt := 104) hx hb (by constructor <;> split <;> omega) d_M_station_83 rfl (fun hc83 => absurd hc83 (by rw [if_pos hd19]; omega)) (fun hc83 => ?_)
                refine lv_iload hx hb d_M_station_86 (lv_at hl 6 rfl) ?_
                refine lv_bipush (v := eI 100) hx hb d_M_station_88 (by decide) ?_
                refine we_irem hx hb (by constructor <;> omega) (by constructor <;> omega) (by omega) (by omega) d_M_station_90 ?_
                refine lv_iconst (v := eI 1) hx hb d_M_station_91 rfl ?_
                refine lv_bipush (v := eI 50) hx hb d_M_station_92 (by decide) ?_
                refine eh_cRS (As := [.int (eI (w % 100)), .int (eI 1), .int (eI 50)]) (rest := []) (v := .int (eI (if 1 ≤ (w % 100) ∧ (w % 100) ≤ 50 then 1 else 0))) hx hb hml hown htb hN (r_M_within l D (w % 100) 1 50 (by omega) (by omega) (by omega)) 3 ⟨tb_670, tb_671, tb_7, kin_M_within⟩ dv_M_within ⟨by rw [hR1]; decide, by rw [hR2]; decide⟩ hK hP [] rfl [] rfl rfl rfl hl.1 (Nat.le_of_ble_eq_true rfl) d_M_station_94 ⟨Nat.zero_le _, Nat.zero_le _⟩ ?_
                refine we_if_eq (tgt := 104) hx hb (by constructor <;> split <;> omega) d_M_station_97 rfl (fun hc97 => ?_) (fun hc97 => absurd hc97 (by rw [if_neg hd29]; omega))
                refine lv_iconst (v := eI 0) hx hb d_M_station_104 rfl ?_
                refine lv_istore hx hb d_M_station_105 hl (by decide) rfl (fun ls hl => ?_)
                have hl : lv_has ls 7 [(6, .int (eI 0)), (0, .ref (md 0)), (1, .int (eI y)), (2, .int (eI x1)), (3, .int (eI x2)), (4, .int (eI x3)), (5, .int (eI w))] := hl
                refine lv_aload_n hx hb d_M_station_107 rfl (lv_at hl 1 rfl) ?_
                refine lv_iload hx hb d_M_station_108 (lv_at hl 0 rfl) ?_
                refine we_if_ne (tgt := 117) hx hb (by constructor <;> omega) d_M_station_110 rfl (fun hc110 => absurd hc110 (by omega)) (fun hc110 => ?_)
                refine lv_iconst (v := eI 1) hx hb d_M_station_113 rfl ?_
                refine lv_goto (tgt := 130) hx hb d_M_station_114 rfl ?_
                refine va_put (D := D) (ci := 5) (v := .int (eI 1)) (ty := .int) (C := R_M) (T := T_M) (N := 23) hx hb htb in_M t_M t_M_ok n_M hown hK hP hD hS 0 rfl rfl 0 (by decide) (htb _ tb_588) (fun _ h9 => h9) rfl (by decide +kernel) rfl rfl (Nat.le_of_ble_eq_true rfl) d_M_station_130 (fun H locs hP hD hS => ?_)
                have hP : va_P D classes [((md 0), .inr (5, [.int (eI 1), .int (eI ((n : Nat) : Int)), .ref (md 1), .ref (md 2), .ref (md 3), .int (eI sh), .int (eI ra), .ref (md 4), .ref (md 5), .ref (md 6), .ref (md 7), .ref (md 8), .long (eL up), .long (eL lw), .ref (md 9), .ref (md 10), .ref (md 11), .ref (md 12), .ref (md 13), .ref (md 14), .ref (md 15), .int (eI kn), .int (eI fo)])), ((md 1), aI cI 25 sc), ((md 2), aI cI 4 ln), ((md 3), aI cZ 4 cb), ((md 4), aI cZ 3 th), ((md 5), aI cI 3 pl), ((md 6), aI cI 3 lo), ((md 7), aI cI 3 pr), ((md 8), aI cI 30 la)] H := hP
                have hD : va_D A [((md 0), .inr (5, [.int (eI 1), .int (eI ((n : Nat) : Int)), .ref (md 1), .ref (md 2), .ref (md 3), .int (eI sh), .int (eI ra), .ref (md 4), .ref (md 5), .ref (md 6), .ref (md 7), .ref (md 8), .long (eL up), .long (eL lw), .ref (md 9), .ref (md 10), .ref (md 11), .ref (md 12), .ref (md 13), .ref (md 14), .ref (md 15), .int (eI kn), .int (eI fo)])), ((md 1), aI cI 25 sc), ((md 2), aI cI 4 ln), ((md 3), aI cZ 4 cb), ((md 4), aI cZ 3 th), ((md 5), aI cI 3 pl), ((md 6), aI cI 3 lo), ((md 7), aI cI 3 pr), ((md 8), aI cI 30 la)] := hD
                refine lv_aload_n hx hb d_M_station_133 rfl (lv_at hl 1 rfl) ?_
                refine va_get (D := D) (ci := 5) (v := .int (eI 1)) (C := R_M) (T := T_M) (N := 23) hx hb htb in_M hown hK hP 0 rfl rfl 0 (by decide) (htb _ tb_588) (fun _ h9 => h9) rfl d_M_station_134 ?_
                refine we_if_le (tgt := 142) hx hb (by constructor <;> omega) d_M_station_137 rfl (fun hc137 => absurd hc137 (by omega)) (fun hc137 => ?_)
                refine lv_iconst (v := eI 0) hx hb d_M_station_140 rfl ?_
                subst hQ
                exact W.iret hx hb hrt (fun t9 ht hW => ⟨⟨(1, kn, ((n : Nat) : Int), sc, ln), rfl, Or.inl ⟨hng, rfl⟩, by rw [ht]; exact hP, hD⟩, hS.F ht⟩) hS.2.2 d_M_station_141
            ·
              have hng : ¬ (((n = 0 ∧ y = 0) ∨ (n ≠ 0 ∧ 1 ≤ y ∧ y ≤ 100)) ∧ (-100 ≤ x1 ∧ x1 ≤ 100) ∧ (-100 ≤ x2 ∧ x2 ≤ 100) ∧ (-100 ≤ x3 ∧ x3 ≤ 100) ∧ 0 ≤ w ∧ (1 ≤ w / 100 ∧ w / 100 ≤ 50) ∧ (1 ≤ w % 100 ∧ w % 100 ≤ 50)) := fun q9 => hd19 (by obtain ⟨q1, q2, q3, q4, q5, q6, q7⟩ := q9; exact q6)
              refine lv_aload_n hx hb d_M_station_0 rfl (lv_at hl 0 rfl) ?_
              refine va_get (D := D) (ci := 5) (v := .int (eI ((n : Nat) : Int))) (C := R_M) (T := T_M) (N := 23) hx hb htb in_M hown hK hP 0 rfl rfl 1 (by decide) (htb _ tb_589) (fun _ h9 => h9) rfl d_M_station_1 ?_
              refine we_if_ne (tgt := 19) hx hb (by constructor <;> omega) d_M_station_4 rfl (fun hc4 => absurd hc4 (by omega)) (fun hc4 => ?_)
              refine lv_iload_n hx hb d_M_station_7 rfl (lv_at hl 1 rfl) ?_
              refine we_if_ne (tgt := 15) hx hb (by constructor <;> omega) d_M_station_8 rfl (fun hc8 => absurd hc8 (by omega)) (fun hc8 => ?_)
              refine lv_iconst (v := eI 1) hx hb d_M_station_11 rfl ?_
              refine lv_goto (tgt := 26) hx hb d_M_station_12 rfl ?_
              refine lv_istore hx hb d_M_station_26 hl (by decide) rfl (fun ls hl => ?_)
              have hl : lv_has ls 7 [(6, .int (eI 1)), (0, .ref (md 0)), (1, .int (eI y)), (2, .int (eI x1)), (3, .int (eI x2)), (4, .int (eI x3)), (5, .int (eI w))] := hl
              refine lv_iload hx hb d_M_station_28 (lv_at hl 0 rfl) ?_
              refine we_if_eq (tgt := 104) hx hb (by constructor <;> omega) d_M_station_30 rfl (fun hc30 => absurd hc30 (by omega)) (fun hc30 => ?_)
              refine lv_iload_n hx hb d_M_station_33 rfl (lv_at hl 3 rfl) ?_
              refine lv_bipush (v := eI (-100)) hx hb d_M_station_34 (by decide) ?_
              refine lv_bipush (v := eI 100) hx hb d_M_station_36 (by decide) ?_
              refine eh_cRS (As := [.int (eI x1), .int (eI (-100)), .int (eI 100)]) (rest := []) (v := .int (eI (if (-100) ≤ x1 ∧ x1 ≤ 100 then 1 else 0))) hx hb hml hown htb hN (r_M_within l D x1 (-100) 100 hx1 (by omega) (by omega)) 3 ⟨tb_670, tb_671, tb_7, kin_M_within⟩ dv_M_within ⟨by rw [hR1]; decide, by rw [hR2]; decide⟩ hK hP [] rfl [] rfl rfl rfl hl.1 (Nat.le_of_ble_eq_true rfl) d_M_station_38 ⟨Nat.zero_le _, Nat.zero_le _⟩ ?_
              refine we_if_eq (tgt := 104) hx hb (by constructor <;> split <;> omega) d_M_station_41 rfl (fun hc41 => absurd hc41 (by rw [if_pos hx19]; omega)) (fun hc41 => ?_)
              refine lv_iload_n hx hb d_M_station_44 rfl (lv_at hl 4 rfl) ?_
              refine lv_bipush (v := eI (-100)) hx hb d_M_station_45 (by decide) ?_
              refine lv_bipush (v := eI 100) hx hb d_M_station_47 (by decide) ?_
              refine eh_cRS (As := [.int (eI x2), .int (eI (-100)), .int (eI 100)]) (rest := []) (v := .int (eI (if (-100) ≤ x2 ∧ x2 ≤ 100 then 1 else 0))) hx hb hml hown htb hN (r_M_within l D x2 (-100) 100 hx2 (by omega) (by omega)) 3 ⟨tb_670, tb_671, tb_7, kin_M_within⟩ dv_M_within ⟨by rw [hR1]; decide, by rw [hR2]; decide⟩ hK hP [] rfl [] rfl rfl rfl hl.1 (Nat.le_of_ble_eq_true rfl) d_M_station_49 ⟨Nat.zero_le _, Nat.zero_le _⟩ ?_
              refine we_if_eq (tgt := 104) hx hb (by constructor <;> split <;> omega) d_M_station_52 rfl (fun hc52 => absurd hc52 (by rw [if_pos hx29]; omega)) (fun hc52 => ?_)
              refine lv_iload hx hb d_M_station_55 (lv_at hl 5 rfl) ?_
              refine lv_bipush (v := eI (-100)) hx hb d_M_station_57 (by decide) ?_
              refine lv_bipush (v := eI 100) hx hb d_M_station_59 (by decide) ?_
              refine eh_cRS (As := [.int (eI x3), .int (eI (-100)), .int (eI 100)]) (rest := []) (v := .int (eI (if (-100) ≤ x3 ∧ x3 ≤ 100 then 1 else 0))) hx hb hml hown htb hN (r_M_within l D x3 (-100) 100 hx3 (by omega) (by omega)) 3 ⟨tb_670, tb_671, tb_7, kin_M_within⟩ dv_M_within ⟨by rw [hR1]; decide, by rw [hR2]; decide⟩ hK hP [] rfl [] rfl rfl rfl hl.1 (Nat.le_of_ble_eq_true rfl) d_M_station_61 ⟨Nat.zero_le _, Nat.zero_le _⟩ ?_
              refine we_if_eq (tgt := 104) hx hb (by constructor <;> split <;> omega) d_M_station_64 rfl (fun hc64 => absurd hc64 (by rw [if_pos hx39]; omega)) (fun hc64 => ?_)
              refine lv_iload hx hb d_M_station_67 (lv_at hl 6 rfl) ?_
              refine we_if_lt (tgt := 104) hx hb (by constructor <;> omega) d_M_station_69 rfl (fun hc69 => absurd hc69 (by omega)) (fun hc69 => ?_)
              refine lv_iload hx hb d_M_station_72 (lv_at hl 6 rfl) ?_
              refine lv_bipush (v := eI 100) hx hb d_M_station_74 (by decide) ?_
              refine we_idiv hx hb (by constructor <;> omega) (by constructor <;> omega) (by omega) (by omega) d_M_station_76 ?_
              refine lv_iconst (v := eI 1) hx hb d_M_station_77 rfl ?_
              refine lv_bipush (v := eI 50) hx hb d_M_station_78 (by decide) ?_
              refine eh_cRS (As := [.int (eI (w / 100)), .int (eI 1), .int (eI 50)]) (rest := []) (v := .int (eI (if 1 ≤ (w / 100) ∧ (w / 100) ≤ 50 then 1 else 0))) hx hb hml hown htb hN (r_M_within l D (w / 100) 1 50 (by omega) (by omega) (by omega)) 3 ⟨tb_670, tb_671, tb_7, kin_M_within⟩ dv_M_within ⟨by rw [hR1]; decide, by rw [hR2]; decide⟩ hK hP [] rfl [] rfl rfl rfl hl.1 (Nat.le_of_ble_eq_true rfl) d_M_station_80 ⟨Nat.zero_le _, Nat.zero_le _⟩ ?_
              refine we_if_eq (tgt := 104) hx hb (by constructor <;> split <;> omega) d_M_station_83 rfl (fun hc83 => ?_) (fun hc83 => absurd hc83 (by rw [if_neg hd19]; omega))
              refine lv_iconst (v := eI 0) hx hb d_M_station_104 rfl ?_
              refine lv_istore hx hb d_M_station_105 hl (by decide) rfl (fun ls hl => ?_)
              have hl : lv_has ls 7 [(6, .int (eI 0)), (0, .ref (md 0)), (1, .int (eI y)), (2, .int (eI x1)), (3, .int (eI x2)), (4, .int (eI x3)), (5, .int (eI w))] := hl
              refine lv_aload_n hx hb d_M_station_107 rfl (lv_at hl 1 rfl) ?_
              refine lv_iload hx hb d_M_station_108 (lv_at hl 0 rfl) ?_
              refine we_if_ne (tgt := 117) hx hb (by constructor <;> omega) d_M_station_110 rfl (fun hc110 => absurd hc110 (by omega)) (fun hc110 => ?_)
              refine lv_iconst (v := eI 1) hx hb d_M_station_113 rfl ?_
              refine lv_goto (tgt := 130) hx hb d_M_station_114 rfl ?_
              refine va_put (D := D) (ci := 5) (v := .int (eI 1)) (ty := .int) (C := R_M) (T := T_M) (N := 23) hx hb htb in_M t_M t_M_ok n_M hown hK hP hD hS 0 rfl rfl 0 (by decide) (htb _ tb_588) (fun _ h9 => h9) rfl (by decide +kernel) rfl rfl (Nat.le_of_ble_eq_true rfl) d_M_station_130 (fun H locs hP hD hS => ?_)
              have hP : va_P D classes [((md 0), .inr (5, [.int (eI 1), .int (eI ((n : Nat) : Int)), .ref (md 1), .ref (md 2), .ref (md 3), .int (eI sh), .int (eI ra), .ref (md 4), .ref (md 5), .ref (md 6), .ref (md 7), .ref (md 8), .long (eL up), .long (eL lw), .ref (md 9), .ref (md 10), .ref (md 11), .ref (md 12), .ref (md 13), .ref (md 14), .ref (md 15), .int (eI kn), .int (eI fo)])), ((md 1), aI cI 25 sc), ((md 2), aI cI 4 ln), ((md 3), aI cZ 4 cb), ((md 4), aI cZ 3 th), ((md 5), aI cI 3 pl), ((md 6), aI cI 3 lo), ((md 7), aI cI 3 pr), ((md 8), aI cI 30 la)] H := hP
              have hD : va_D A [((md 0), .inr (5, [.int (eI 1), .int (eI ((n : Nat) : Int)), .ref (md 1), .ref (md 2), .ref (md 3), .int (eI sh), .int (eI ra), .ref (md 4), .ref (md 5), .ref (md 6), .ref (md 7), .ref (md 8), .long (eL up), .long (eL lw), .ref (md 9), .ref (md 10), .ref (md 11), .ref (md 12), .ref (md 13), .ref (md 14), .ref (md 15), .int (eI kn), .int (eI fo)])), ((md 1), aI cI 25 sc), ((md 2), aI cI 4 ln), ((md 3), aI cZ 4 cb), ((md 4), aI cZ 3 th), ((md 5), aI cI 3 pl), ((md 6), aI cI 3 lo), ((md 7), aI cI 3 pr), ((md 8), aI cI 30 la)] := hD
              refine lv_aload_n hx hb d_M_station_133 rfl (lv_at hl 1 rfl) ?_
              refine va_get (D := D) (ci := 5) (v := .int (eI 1)) (C := R_M) (T := T_M) (N := 23) hx hb htb in_M hown hK hP 0 rfl rfl 0 (by decide) (htb _ tb_588) (fun _ h9 => h9) rfl d_M_station_134 ?_
              refine we_if_le (tgt := 142) hx hb (by constructor <;> omega) d_M_station_137 rfl (fun hc137 => absurd hc137 (by omega)) (fun hc137 => ?_)
              refine lv_iconst (v := eI 0) hx hb d_M_station_140 rfl ?_
              subst hQ
              exact W.iret hx hb hrt (fun t9 ht hW => ⟨⟨(1, kn, ((n : Nat) : Int), sc, ln), rfl, Or.inl ⟨hng, rfl⟩, by rw [ht]; exact hP, hD⟩, hS.F ht⟩) hS.2.2 d_M_station_141
          ·
            have hng : ¬ (((n = 0 ∧ y = 0) ∨ (n ≠ 0 ∧ 1 ≤ y ∧ y ≤ 100)) ∧ (-100 ≤ x1 ∧ x1 ≤ 100) ∧ (-100 ≤ x2 ∧ x2 ≤ 100) ∧ (-100 ≤ x3 ∧ x3 ≤ 100) ∧ 0 ≤ w ∧ (1 ≤ w / 100 ∧ w / 100 ≤ 50) ∧ (1 ≤ w % 100 ∧ w % 100 ≤ 50)) := fun q9 => hw09 (by obtain ⟨q1, q2, q3, q4, q5, q6, q7⟩ := q9; exact q5)
            refine lv_aload_n hx hb d_M_station_0 rfl (lv_at hl 0 rfl) ?_
            refine va_get (D := D) (ci := 5) (v := .int (eI ((n : Nat) : Int))) (C := R_M) (T := T_M) (N := 23) hx hb htb in_M hown hK hP 0 rfl rfl 1 (by decide) (htb _ tb_589) (fun _ h9 => h9) rfl d_M_station_1 ?_
            refine we_if_ne (tgt := 19) hx hb (by constructor <;> omega) d_M_station_4 rfl (fun hc4 => absurd hc4 (by omega)) (fun hc4 => ?_)
            refine lv_iload_n hx hb d_M_station_7 rfl (lv_at hl 1 rfl) ?_
            refine we_if_ne (tgt := 15) hx hb (by constructor <;> omega) d_M_station_8 rfl (fun hc8 => absurd hc8 (by omega)) (fun hc8 => ?_)
            refine lv_iconst (v := eI 1) hx hb d_M_station_11 rfl ?_
            refine lv_goto (tgt := 26) hx hb d_M_station_12 rfl ?_
            refine lv_istore hx hb d_M_station_26 hl (by decide) rfl (fun ls hl => ?_)
            have hl : lv_has ls 7 [(6, .int (eI 1)), (0, .ref (md 0)), (1, .int (eI y)), (2, .int (eI x1)), (3, .int (eI x2)), (4, .int (eI x3)), (5, .int (eI w))] := hl
            refine lv_iload hx hb d_M_station_28 (lv_at hl 0 rfl) ?_
            refine we_if_eq (tgt := 104) hx hb (by constructor <;> omega) d_M_station_30 rfl (fun hc30 => absurd hc30 (by omega)) (fun hc30 => ?_)
            refine lv_iload_n hx hb d_M_station_33 rfl (lv_at hl 3 rfl) ?_
            refine lv_bipush (v := eI (-100)) hx hb d_M_station_34 (by decide) ?_
            refine lv_bipush (v := eI 100) hx hb d_M_station_36 (by decide) ?_
            refine eh_cRS (As := [.int (eI x1), .int (eI (-100)), .int (eI 100)]) (rest := []) (v := .int (eI (if (-100) ≤ x1 ∧ x1 ≤ 100 then 1 else 0))) hx hb hml hown htb hN (r_M_within l D x1 (-100) 100 hx1 (by omega) (by omega)) 3 ⟨tb_670, tb_671, tb_7, kin_M_within⟩ dv_M_within ⟨by rw [hR1]; decide, by rw [hR2]; decide⟩ hK hP [] rfl [] rfl rfl rfl hl.1 (Nat.le_of_ble_eq_true rfl) d_M_station_38 ⟨Nat.zero_le _, Nat.zero_le _⟩ ?_
            refine we_if_eq (tgt := 104) hx hb (by constructor <;> split <;> omega) d_M_station_41 rfl (fun hc41 => absurd hc41 (by rw [if_pos hx19]; omega)) (fun hc41 => ?_)
            refine lv_iload_n hx hb d_M_station_44 rfl (lv_at hl 4 rfl) ?_
            refine lv_bipush (v := eI (-100)) hx hb d_M_station_45 (by decide) ?_
            refine lv_bipush (v := eI 100) hx hb d_M_station_47 (by decide) ?_
            refine eh_cRS (As := [.int (eI x2), .int (eI (-100)), .int (eI 100)]) (rest := []) (v := .int (eI (if (-100) ≤ x2 ∧ x2 ≤ 100 then 1 else 0))) hx hb hml hown htb hN (r_M_within l D x2 (-100) 100 hx2 (by omega) (by omega)) 3 ⟨tb_670, tb_671, tb_7, kin_M_within⟩ dv_M_within ⟨by rw [hR1]; decide, by rw [hR2]; decide⟩ hK hP [] rfl [] rfl rfl rfl hl.1 (Nat.le_of_ble_eq_true rfl) d_M_station_49 ⟨Nat.zero_le _, Nat.zero_le _⟩ ?_
            refine we_if_eq (tgt := 104) hx hb (by constructor <;> split <;> omega) d_M_station_52 rfl (fun hc52 => absurd hc52 (by rw [if_pos hx29]; omega)) (fun hc52 => ?_)
            refine lv_iload hx hb d_M_station_55 (lv_at hl 5 rfl) ?_
            refine lv_bipush (v := eI (-100)) hx hb d_M_station_57 (by decide) ?_
            refine lv_bipush (v := eI 100) hx hb d_M_station_59 (by decide) ?_
            refine eh_cRS (As := [.int (eI x3), .int (eI (-100)), .int (eI 100)]) (rest := []) (v := .int (eI (if (-100) ≤ x3 ∧ x3 ≤ 100 then 1 else 0))) hx hb hml hown htb hN (r_M_within l D x3 (-100) 100 hx3 (by omega) (by omega)) 3 ⟨tb_670, tb_671, tb_7, kin_M_within⟩ dv_M_within ⟨by rw [hR1]; decide, by rw [hR2]; decide⟩ hK hP [] rfl [] rfl rfl rfl hl.1 (Nat.le_of_ble_eq_true rfl) d_M_station_61 ⟨Nat.zero_le _, Nat.zero_le _⟩ ?_
            refine we_if_eq (tgt := 104) hx hb (by constructor <;> split <;> omega) d_M_station_64 rfl (fun hc64 => absurd hc64 (by rw [if_pos hx39]; omega)) (fun hc64 => ?_)
            refine lv_iload hx hb d_M_station_67 (lv_at hl 6 rfl) ?_
            refine we_if_lt (tgt := 104) hx hb (by constructor <;> omega) d_M_station_69 rfl (fun hc69 => ?_) (fun hc69 => absurd hc69 (by omega))
            refine lv_iconst (v := eI 0) hx hb d_M_station_104 rfl ?_
            refine lv_istore hx hb d_M_station_105 hl (by decide) rfl (fun ls hl => ?_)
            have hl : lv_has ls 7 [(6, .int (eI 0)), (0, .ref (md 0)), (1, .int (eI y)), (2, .int (eI x1)), (3, .int (eI x2)), (4, .int (eI x3)), (5, .int (eI w))] := hl
            refine lv_aload_n hx hb d_M_station_107 rfl (lv_at hl 1 rfl) ?_
            refine lv_iload hx hb d_M_station_108 (lv_at hl 0 rfl) ?_
            refine we_if_ne (tgt := 117) hx hb (by constructor <;> omega) d_M_station_110 rfl (fun hc110 => absurd hc110 (by omega)) (fun hc110 => ?_)
            refine lv_iconst (v := eI 1) hx hb d_M_station_113 rfl ?_
            refine lv_goto (tgt := 130) hx hb d_M_station_114 rfl ?_
            refine va_put (D := D) (ci := 5) (v := .int (eI 1)) (ty := .int) (C := R_M) (T := T_M) (N := 23) hx hb htb in_M t_M t_M_ok n_M hown hK hP hD hS 0 rfl rfl 0 (by decide) (htb _ tb_588) (fun _ h9 => h9) rfl (by decide +kernel) rfl rfl (Nat.le_of_ble_eq_true rfl) d_M_station_130 (fun H locs hP hD hS => ?_)
            have hP : va_P D classes [((md 0), .inr (5, [.int (eI 1), .int (eI ((n : Nat) : Int)), .ref (md 1), .ref (md 2), .ref (md 3), .int (eI sh), .int (eI ra), .ref (md 4), .ref (md 5), .ref (md 6), .ref (md 7), .ref (md 8), .long (eL up), .long (eL lw), .ref (md 9), .ref (md 10), .ref (md 11), .ref (md 12), .ref (md 13), .ref (md 14), .ref (md 15), .int (eI kn), .int (eI fo)])), ((md 1), aI cI 25 sc), ((md 2), aI cI 4 ln), ((md 3), aI cZ 4 cb), ((md 4), aI cZ 3 th), ((md 5), aI cI 3 pl), ((md 6), aI cI 3 lo), ((md 7), aI cI 3 pr), ((md 8), aI cI 30 la)] H := hP
            have hD : va_D A [((md 0), .inr (5, [.int (eI 1), .int (eI ((n : Nat) : Int)), .ref (md 1), .ref (md 2), .ref (md 3), .int (eI sh), .int (eI ra), .ref (md 4), .ref (md 5), .ref (md 6), .ref (md 7), .ref (md 8), .long (eL up), .long (eL lw), .ref (md 9), .ref (md 10), .ref (md 11), .ref (md 12), .ref (md 13), .ref (md 14), .ref (md 15), .int (eI kn), .int (eI fo)])), ((md 1), aI cI 25 sc), ((md 2), aI cI 4 ln), ((md 3), aI cZ 4 cb), ((md 4), aI cZ 3 th), ((md 5), aI cI 3 pl), ((md 6), aI cI 3 lo), ((md 7), aI cI 3 pr), ((md 8), aI cI 30 la)] := hD
            refine lv_aload_n hx hb d_M_station_133 rfl (lv_at hl 1 rfl) ?_
            refine va_get (D := D) (ci := 5) (v := .int (eI 1)) (C := R_M) (T := T_M) (N := 23) hx hb htb in_M hown hK hP 0 rfl rfl 0 (by decide) (htb _ tb_588) (fun _ h9 => h9) rfl d_M_station_134 ?_
            refine we_if_le (tgt := 142) hx hb (by constructor <;> omega) d_M_station_137 rfl (fun hc137 => absurd hc137 (by omega)) (fun hc137 => ?_)
            refine lv_iconst (v := eI 0) hx hb d_M_station_140 rfl ?_
            subst hQ
            exact W.iret hx hb hrt (fun t9 ht hW => ⟨⟨(1, kn, ((n : Nat) : Int), sc, ln), rfl, Or.inl ⟨hng, rfl⟩, by rw [ht]; exact hP, hD⟩, hS.F ht⟩) hS.2.2 d_M_station_141
        ·
          have hng : ¬ (((n = 0 ∧ y = 0) ∨ (n ≠ 0 ∧ 1 ≤ y ∧ y ≤ 100)) ∧ (-100 ≤ x1 ∧ x1 ≤ 100) ∧ (-100 ≤ x2 ∧ x2 ≤ 100) ∧ (-100 ≤ x3 ∧ x3 ≤ 100) ∧ 0 ≤ w ∧ (1 ≤ w / 100 ∧ w / 100 ≤ 50) ∧ (1 ≤ w % 100 ∧ w % 100 ≤ 50)) := fun q9 => hx39 (by obtain ⟨q1, q2, q3, q4, q5, q6, q7⟩ := q9; exact q4)
          refine lv_aload_n hx hb d_M_station_0 rfl (lv_at hl 0 rfl) ?_
          refine va_get (D := D) (ci := 5) (v := .int (eI ((n : Nat) : Int))) (C := R_M) (T := T_M) (N := 23) hx hb htb in_M hown hK hP 0 rfl rfl 1 (by decide) (htb _ tb_589) (fun _ h9 => h9) rfl d_M_station_1 ?_
          refine we_if_ne (tgt := 19) hx hb (by constructor <;> omega) d_M_station_4 rfl (fun hc4 => absurd hc4 (by omega)) (fun hc4 => ?_)
          refine lv_iload_n hx hb d_M_station_7 rfl (lv_at hl 1 rfl) ?_
          refine we_if_ne (tgt := 15) hx hb (by constructor <;> omega) d_M_station_8 rfl (fun hc8 => absurd hc8 (by omega)) (fun hc8 => ?_)
          refine lv_iconst (v := eI 1) hx hb d_M_station_11 rfl ?_
          refine lv_goto (tgt := 26) hx hb d_M_station_12 rfl ?_
          refine lv_istore hx hb d_M_station_26 hl (by decide) rfl (fun ls hl => ?_)
          have hl : lv_has ls 7 [(6, .int (eI 1)), (0, .ref (md 0)), (1, .int (eI y)), (2, .int (eI x1)), (3, .int (eI x2)), (4, .int (eI x3)), (5, .int (eI w))] := hl
          refine lv_iload hx hb d_M_station_28 (lv_at hl 0 rfl) ?_
          refine we_if_eq (tgt := 104) hx hb (by constructor <;> omega) d_M_station_30 rfl (fun hc30 => absurd hc30 (by omega)) (fun hc30 => ?_)
          refine lv_iload_n hx hb d_M_station_33 rfl (lv_at hl 3 rfl) ?_
          refine lv_bipush (v := eI (-100)) hx hb d_M_station_34 (by decide) ?_
          refine lv_bipush (v := eI 100) hx hb d_M_station_36 (by decide) ?_
          refine eh_cRS (As := [.int (eI x1), .int (eI (-100)), .int (eI 100)]) (rest := []) (v := .int (eI (if (-100) ≤ x1 ∧ x1 ≤ 100 then 1 else 0))) hx hb hml hown htb hN (r_M_within l D x1 (-100) 100 hx1 (by omega) (by omega)) 3 ⟨tb_670, tb_671, tb_7, kin_M_within⟩ dv_M_within ⟨by rw [hR1]; decide, by rw [hR2]; decide⟩ hK hP [] rfl [] rfl rfl rfl hl.1 (Nat.le_of_ble_eq_true rfl) d_M_station_38 ⟨Nat.zero_le _, Nat.zero_le _⟩ ?_
          refine we_if_eq (tgt := 104) hx hb (by constructor <;> split <;> omega) d_M_station_41 rfl (fun hc41 => absurd hc41 (by rw [if_pos hx19]; omega)) (fun hc41 => ?_)
          refine lv_iload_n hx hb d_M_station_44 rfl (lv_at hl 4 rfl) ?_
          refine lv_bipush (v := eI (-100)) hx hb d_M_station_45 (by decide) ?_
          refine lv_bipush (v := eI 100) hx hb d_M_station_47 (by decide) ?_
          refine eh_cRS (As := [.int (eI x2), .int (eI (-100)), .int (eI 100)]) (rest := []) (v := .int (eI (if (-100) ≤ x2 ∧ x2 ≤ 100 then 1 else 0))) hx hb hml hown htb hN (r_M_within l D x2 (-100) 100 hx2 (by omega) (by omega)) 3 ⟨tb_670, tb_671, tb_7, kin_M_within⟩ dv_M_within ⟨by rw [hR1]; decide, by rw [hR2]; decide⟩ hK hP [] rfl [] rfl rfl rfl hl.1 (Nat.le_of_ble_eq_true rfl) d_M_station_49 ⟨Nat.zero_le _, Nat.zero_le _⟩ ?_
          refine we_if_eq (tgt := 104) hx hb (by constructor <;> split <;> omega) d_M_station_52 rfl (fun hc52 => absurd hc52 (by rw [if_pos hx29]; omega)) (fun hc52 => ?_)
          refine lv_iload hx hb d_M_station_55 (lv_at hl 5 rfl) ?_
          refine lv_bipush (v := eI (-100)) hx hb d_M_station_57 (by decide) ?_
          refine lv_bipush (v := eI 100) hx hb d_M_station_59 (by decide) ?_
          refine eh_cRS (As := [.int (eI x3), .int (eI (-100)), .int (eI 100)]) (rest := []) (v := .int (eI (if (-100) ≤ x3 ∧ x3 ≤ 100 then 1 else 0))) hx hb hml hown htb hN (r_M_within l D x3 (-100) 100 hx3 (by omega) (by omega)) 3 ⟨tb_670, tb_671, tb_7, kin_M_within⟩ dv_M_within ⟨by rw [hR1]; decide, by rw [hR2]; decide⟩ hK hP [] rfl [] rfl rfl rfl hl.1 (Nat.le_of_ble_eq_true rfl) d_M_station_61 ⟨Nat.zero_le _, Nat.zero_le _⟩ ?_
          refine we_if_eq (tgt := 104) hx hb (by constructor <;> split <;> omega) d_M_station_64 rfl (fun hc64 => ?_) (fun hc64 => absurd hc64 (by rw [if_neg hx39]; omega))
          refine lv_iconst (v := eI 0) hx hb d_M_station_104 rfl ?_
          refine lv_istore hx hb d_M_station_105 hl (by decide) rfl (fun ls hl => ?_)
          have hl : lv_has ls 7 [(6, .int (eI 0)), (0, .ref (md 0)), (1, .int (eI y)), (2, .int (eI x1)), (3, .int (eI x2)), (4, .int (eI x3)), (5, .int (eI w))] := hl
          refine lv_aload_n hx hb d_M_station_107 rfl (lv_at hl 1 rfl) ?_
          refine lv_iload hx hb d_M_station_108 (lv_at hl 0 rfl) ?_
          refine we_if_ne (tgt := 117) hx hb (by constructor <;> omega) d_M_station_110 rfl (fun hc110 => absurd hc110 (by omega)) (fun hc110 => ?_)
          refine lv_iconst (v := eI 1) hx hb d_M_station_113 rfl ?_
          refine lv_goto (tgt := 130) hx hb d_M_station_114 rfl ?_
          refine va_put (D := D) (ci := 5) (v := .int (eI 1)) (ty := .int) (C := R_M) (T := T_M) (N := 23) hx hb htb in_M t_M t_M_ok n_M hown hK hP hD hS 0 rfl rfl 0 (by decide) (htb _ tb_588) (fun _ h9 => h9) rfl (by decide +kernel) rfl rfl (Nat.le_of_ble_eq_true rfl) d_M_station_130 (fun H locs hP hD hS => ?_)
          have hP : va_P D classes [((md 0), .inr (5, [.int (eI 1), .int (eI ((n : Nat) : Int)), .ref (md 1), .ref (md 2), .ref (md 3), .int (eI sh), .int (eI ra), .ref (md 4), .ref (md 5), .ref (md 6), .ref (md 7), .ref (md 8), .long (eL up), .long (eL lw), .ref (md 9), .ref (md 10), .ref (md 11), .ref (md 12), .ref (md 13), .ref (md 14), .ref (md 15), .int (eI kn), .int (eI fo)])), ((md 1), aI cI 25 sc), ((md 2), aI cI 4 ln), ((md 3), aI cZ 4 cb), ((md 4), aI cZ 3 th), ((md 5), aI cI 3 pl), ((md 6), aI cI 3 lo), ((md 7), aI cI 3 pr), ((md 8), aI cI 30 la)] H := hP
          have hD : va_D A [((md 0), .inr (5, [.int (eI 1), .int (eI ((n : Nat) : Int)), .ref (md 1), .ref (md 2), .ref (md 3), .int (eI sh), .int (eI ra), .ref (md 4), .ref (md 5), .ref (md 6), .ref (md 7), .ref (md 8), .long (eL up), .long (eL lw), .ref (md 9), .ref (md 10), .ref (md 11), .ref (md 12), .ref (md 13), .ref (md 14), .ref (md 15), .int (eI kn), .int (eI fo)])), ((md 1), aI cI 25 sc), ((md 2), aI cI 4 ln), ((md 3), aI cZ 4 cb), ((md 4), aI cZ 3 th), ((md 5), aI cI 3 pl), ((md 6), aI cI 3 lo), ((md 7), aI cI 3 pr), ((md 8), aI cI 30 la)] := hD
          refine lv_aload_n hx hb d_M_station_133 rfl (lv_at hl 1 rfl) ?_
          refine va_get (D := D) (ci := 5) (v := .int (eI 1)) (C := R_M) (T := T_M) (N := 23) hx hb htb in_M hown hK hP 0 rfl rfl 0 (by decide) (htb _ tb_588) (fun _ h9 => h9) rfl d_M_station_134 ?_
          refine we_if_le (tgt := 142) hx hb (by constructor <;> omega) d_M_station_137 rfl (fun hc137 => absurd hc137 (by omega)) (fun hc137 => ?_)
          refine lv_iconst (v := eI 0) hx hb d_M_station_140 rfl ?_
          subst hQ
          exact W.iret hx hb hrt (fun t9 ht hW => ⟨⟨(1, kn, ((n : Nat) : Int), sc, ln), rfl, Or.inl ⟨hng, rfl⟩, by rw [ht]; exact hP, hD⟩, hS.F ht⟩) hS.2.2 d_M_station_141
      ·
        have hng : ¬ (((n = 0 ∧ y = 0) ∨ (n ≠ 0 ∧ 1 ≤ y ∧ y ≤ 100)) ∧ (-100 ≤ x1 ∧ x1 ≤ 100) ∧ (-100 ≤ x2 ∧ x2 ≤ 100) ∧ (-100 ≤ x3 ∧ x3 ≤ 100) ∧ 0 ≤ w ∧ (1 ≤ w / 100 ∧ w / 100 ≤ 50) ∧ (1 ≤ w % 100 ∧ w % 100 ≤ 50)) := fun q9 => hx29 (by obtain ⟨q1, q2, q3, q4, q5, q6, q7⟩ := q9; exact q3)
        refine lv_aload_n hx hb d_M_station_0 rfl (lv_at hl 0 rfl) ?_
        refine va_get (D := D) (ci := 5) (v := .int (eI ((n : Nat) : Int))) (C := R_M) (T := T_M) (N := 23) hx hb htb in_M hown hK hP 0 rfl rfl 1 (by decide) (htb _ tb_589) (fun _ h9 => h9) rfl d_M_station_1 ?_
        refine we_if_ne (tgt := 19) hx hb (by constructor <;> omega) d_M_station_4 rfl (fun hc4 => absurd hc4 (by omega)) (fun hc4 => ?_)
        refine lv_iload_n hx hb d_M_station_7 rfl (lv_at hl 1 rfl) ?_
        refine we_if_ne (tgt := 15) hx hb (by constructor <;> omega) d_M_station_8 rfl (fun hc8 => absurd hc8 (by omega)) (fun hc8 => ?_)
        refine lv_iconst (v := eI 1) hx hb d_M_station_11 rfl ?_
        refine lv_goto (tgt := 26) hx hb d_M_station_12 rfl ?_
        refine lv_istore hx hb d_M_station_26 hl (by decide) rfl (fun ls hl => ?_)
        have hl : lv_has ls 7 [(6, .int (eI 1)), (0, .ref (md 0)), (1, .int (eI y)), (2, .int (eI x1)), (3, .int (eI x2)), (4, .int (eI x3)), (5, .int (eI w))] := hl
        refine lv_iload hx hb d_M_station_28 (lv_at hl 0 rfl) ?_
        refine we_if_eq (tgt := 104) hx hb (by constructor <;> omega) d_M_station_30 rfl (fun hc30 => absurd hc30 (by omega)) (fun hc30 => ?_)
        refine lv_iload_n hx hb d_M_station_33 rfl (lv_at hl 3 rfl) ?_
        refine lv_bipush (v := eI (-100)) hx hb d_M_station_34 (by decide) ?_
        refine lv_bipush (v := eI 100) hx hb d_M_station_36 (by decide) ?_
        refine eh_cRS (As := [.int (eI x1), .int (eI (-100)), .int (eI 100)]) (rest := []) (v := .int (eI (if (-100) ≤ x1 ∧ x1 ≤ 100 then 1 else 0))) hx hb hml hown htb hN (r_M_within l D x1 (-100) 100 hx1 (by omega) (by omega)) 3 ⟨tb_670, tb_671, tb_7, kin_M_within⟩ dv_M_within ⟨by rw [hR1]; decide, by rw [hR2]; decide⟩ hK hP [] rfl [] rfl rfl rfl hl.1 (Nat.le_of_ble_eq_true rfl) d_M_station_38 ⟨Nat.zero_le _, Nat.zero_le _⟩ ?_
        refine we_if_eq (tgt := 104) hx hb (by constructor <;> split <;> omega) d_M_station_41 rfl (fun hc41 => absurd hc41 (by rw [if_pos hx19]; omega)) (fun hc41 => ?_)
        refine lv_iload_n hx hb d_M_station_44 rfl (lv_at hl 4 rfl) ?_
        refine lv_bipush (v := eI (-100)) hx hb d_M_station_45 (by decide) ?_
        refine lv_bipush (v := eI 100) hx hb d_M_station_47 (by decide) ?_
        refine eh_cRS (As := [.int (eI x2), .int (eI (-100)), .int (eI 100)]) (rest := []) (v := .int (eI (if (-100) ≤ x2 ∧ x2 ≤ 100 then 1 else 0))) hx hb hml hown htb hN (r_M_within l D x2 (-100) 100 hx2 (by omega) (by omega)) 3 ⟨tb_670, tb_671, tb_7, kin_M_within⟩ dv_M_within ⟨by rw [hR1]; decide, by rw [hR2]; decide⟩ hK hP [] rfl [] rfl rfl rfl hl.1 (Nat.le_of_ble_eq_true rfl) d_M_station_49 ⟨Nat.zero_le _, Nat.zero_le _⟩ ?_
        refine we_if_eq (tgt := 104) hx hb (by constructor <;> split <;> omega) d_M_station_52 rfl (fun hc52 => ?_) (fun hc52 => absurd hc52 (by rw [if_neg hx29]; omega))
        refine lv_iconst (v := eI 0) hx hb d_M_station_104 rfl ?_
        refine lv_istore hx hb d_M_station_105 hl (by decide) rfl (fun ls hl => ?_)
        have hl : lv_has ls 7 [(6, .int (eI 0)), (0, .ref (md 0)), (1, .int (eI y)), (2, .int (eI x1)), (3, .int (eI x2)), (4, .int (eI x3)), (5, .int (eI w))] := hl
        refine lv_aload_n hx hb d_M_station_107 rfl (lv_at hl 1 rfl) ?_
        refine lv_iload hx hb d_M_station_108 (lv_at hl 0 rfl) ?_
        refine we_if_ne (tgt := 117) hx hb (by constructor <;> omega) d_M_station_110 rfl (fun hc110 => absurd hc110 (by omega)) (fun hc110 => ?_)
        refine lv_iconst (v := eI 1) hx hb d_M_station_113 rfl ?_
        refine lv_goto (tgt := 130) hx hb d_M_station_114 rfl ?_
        refine va_put (D := D) (ci := 5) (v := .int (eI 1)) (ty := .int) (C := R_M) (T := T_M) (N := 23) hx hb htb in_M t_M t_M_ok n_M hown hK hP hD hS 0 rfl rfl 0 (by decide) (htb _ tb_588) (fun _ h9 => h9) rfl (by decide +kernel) rfl rfl (Nat.le_of_ble_eq_true rfl) d_M_station_130 (fun H locs hP hD hS => ?_)
        have hP : va_P D classes [((md 0), .inr (5, [.int (eI 1), .int (eI ((n : Nat) : Int)), .ref (md 1), .ref (md 2), .ref (md 3), .int (eI sh), .int (eI ra), .ref (md 4), .ref (md 5), .ref (md 6), .ref (md 7), .ref (md 8), .long (eL up), .long (eL lw), .ref (md 9), .ref (md 10), .ref (md 11), .ref (md 12), .ref (md 13), .ref (md 14), .ref (md 15), .int (eI kn), .int (eI fo)])), ((md 1), aI cI 25 sc), ((md 2), aI cI 4 ln), ((md 3), aI cZ 4 cb), ((md 4), aI cZ 3 th), ((md 5), aI cI 3 pl), ((md 6), aI cI 3 lo), ((md 7), aI cI 3 pr), ((md 8), aI cI 30 la)] H := hP
        have hD : va_D A [((md 0), .inr (5, [.int (eI 1), .int (eI ((n : Nat) : Int)), .ref (md 1), .ref (md 2), .ref (md 3), .int (eI sh), .int (eI ra), .ref (md 4), .ref (md 5), .ref (md 6), .ref (md 7), .ref (md 8), .long (eL up), .long (eL lw), .ref (md 9), .ref (md 10), .ref (md 11), .ref (md 12), .ref (md 13), .ref (md 14), .ref (md 15), .int (eI kn), .int (eI fo)])), ((md 1), aI cI 25 sc), ((md 2), aI cI 4 ln), ((md 3), aI cZ 4 cb), ((md 4), aI cZ 3 th), ((md 5), aI cI 3 pl), ((md 6), aI cI 3 lo), ((md 7), aI cI 3 pr), ((md 8), aI cI 30 la)] := hD
        refine lv_aload_n hx hb d_M_station_133 rfl (lv_at hl 1 rfl) ?_
        refine va_get (D := D) (ci := 5) (v := .int (eI 1)) (C := R_M) (T := T_M) (N := 23) hx hb htb in_M hown hK hP 0 rfl rfl 0 (by decide) (htb _ tb_588) (fun _ h9 => h9) rfl d_M_station_134 ?_
        refine we_if_le (tgt := 142) hx hb (by constructor <;> omega) d_M_station_137 rfl (fun hc137 => absurd hc137 (by omega)) (fun hc137 => ?_)
        refine lv_iconst (v := eI 0) hx hb d_M_station_140 rfl ?_
        subst hQ
        exact W.iret hx hb hrt (fun t9 ht hW => ⟨⟨(1, kn, ((n : Nat) : Int), sc, ln), rfl, Or.inl ⟨hng, rfl⟩, by rw [ht]; exact hP, hD⟩, hS.F ht⟩) hS.2.2 d_M_station_141
    ·
      have hng : ¬ (((n = 0 ∧ y = 0) ∨ (n ≠ 0 ∧ 1 ≤ y ∧ y ≤ 100)) ∧ (-100 ≤ x1 ∧ x1 ≤ 100) ∧ (-100 ≤ x2 ∧ x2 ≤ 100) ∧ (-100 ≤ x3 ∧ x3 ≤ 100) ∧ 0 ≤ w ∧ (1 ≤ w / 100 ∧ w / 100 ≤ 50) ∧ (1 ≤ w % 100 ∧ w % 100 ≤ 50)) := fun q9 => hx19 (by obtain ⟨q1, q2, q3, q4, q5, q6, q7⟩ := q9; exact q2)
      refine lv_aload_n hx hb d_M_station_0 rfl (lv_at hl 0 rfl) ?_
      refine va_get (D := D) (ci := 5) (v := .int (eI ((n : Nat) : Int))) (C := R_M) (T := T_M) (N := 23) hx hb htb in_M hown hK hP 0 rfl rfl 1 (by decide) (htb _ tb_589) (fun _ h9 => h9) rfl d_M_station_1 ?_
      refine we_if_ne (tgt := 19) hx hb (by constructor <;> omega) d_M_station_4 rfl (fun hc4 => absurd hc4 (by omega)) (fun hc4 => ?_)
      refine lv_iload_n hx hb d_M_station_7 rfl (lv_at hl 1 rfl) ?_
      refine we_if_ne (tgt := 15) hx hb (by constructor <;> omega) d_M_station_8 rfl (fun hc8 => absurd hc8 (by omega)) (fun hc8 => ?_)
      refine lv_iconst (v := eI 1) hx hb d_M_station_11 rfl ?_
      refine lv_goto (tgt := 26) hx hb d_M_station_12 rfl ?_
      refine lv_istore hx hb d_M_station_26 hl (by decide) rfl (fun ls hl => ?_)
      have hl : lv_has ls 7 [(6, .int (eI 1)), (0, .ref (md 0)), (1, .int (eI y)), (2, .int (eI x1)), (3, .int (eI x2)), (4, .int (eI x3)), (5, .int (eI w))] := hl
      refine lv_iload hx hb d_M_station_28 (lv_at hl 0 rfl) ?_
      refine we_if_eq (tgt := 104) hx hb (by constructor <;> omega) d_M_station_30 rfl (fun hc30 => absurd hc30 (by omega)) (fun hc30 => ?_)
      refine lv_iload_n hx hb d_M_station_33 rfl (lv_at hl 3 rfl) ?_
      refine lv_bipush (v := eI (-100)) hx hb d_M_station_34 (by decide) ?_
      refine lv_bipush (v := eI 100) hx hb d_M_station_36 (by decide) ?_
      refine eh_cRS (As := [.int (eI x1), .int (eI (-100)), .int (eI 100)]) (rest := []) (v := .int (eI (if (-100) ≤ x1 ∧ x1 ≤ 100 then 1 else 0))) hx hb hml hown htb hN (r_M_within l D x1 (-100) 100 hx1 (by omega) (by omega)) 3 ⟨tb_670, tb_671, tb_7, kin_M_within⟩ dv_M_within ⟨by rw [hR1]; decide, by rw [hR2]; decide⟩ hK hP [] rfl [] rfl rfl rfl hl.1 (Nat.le_of_ble_eq_true rfl) d_M_station_38 ⟨Nat.zero_le _, Nat.zero_le _⟩ ?_
      refine we_if_eq (tgt := 104) hx hb (by constructor <;> split <;> omega) d_M_station_41 rfl (fun hc41 => ?_) (fun hc41 => absurd hc41 (by rw [if_neg hx19]; omega))
      refine lv_iconst (v := eI 0) hx hb d_M_station_104 rfl ?_
      refine lv_istore hx hb d_M_station_105 hl (by decide) rfl (fun ls hl => ?_)
      have hl : lv_has ls 7 [(6, .int (eI 0)), (0, .ref (md 0)), (1, .int (eI y)), (2, .int (eI x1)), (3, .int (eI x2)), (4, .int (eI x3)), (5, .int (eI w))] := hl
      refine lv_aload_n hx hb d_M_station_107 rfl (lv_at hl 1 rfl) ?_
      refine lv_iload hx hb d_M_station_108 (lv_at hl 0 rfl) ?_
      refine we_if_ne (tgt := 117) hx hb (by constructor <;> omega) d_M_station_110 rfl (fun hc110 => absurd hc110 (by omega)) (fun hc110 => ?_)
      refine lv_iconst (v := eI 1) hx hb d_M_station_113 rfl ?_
      refine lv_goto (tgt := 130) hx hb d_M_station_114 rfl ?_
      refine va_put (D := D) (ci := 5) (v := .int (eI 1)) (ty := .int) (C := R_M) (T := T_M) (N := 23) hx hb htb in_M t_M t_M_ok n_M hown hK hP hD hS 0 rfl rfl 0 (by decide) (htb _ tb_588) (fun _ h9 => h9) rfl (by decide +kernel) rfl rfl (Nat.le_of_ble_eq_true rfl) d_M_station_130 (fun H locs hP hD hS => ?_)
      have hP : va_P D classes [((md 0), .inr (5, [.int (eI 1), .int (eI ((n : Nat) : Int)), .ref (md 1), .ref (md 2), .ref (md 3), .int (eI sh), .int (eI ra), .ref (md 4), .ref (md 5), .ref (md 6), .ref (md 7), .ref (md 8), .long (eL up), .long (eL lw), .ref (md 9), .ref (md 10), .ref (md 11), .ref (md 12), .ref (md 13), .ref (md 14), .ref (md 15), .int (eI kn), .int (eI fo)])), ((md 1), aI cI 25 sc), ((md 2), aI cI 4 ln), ((md 3), aI cZ 4 cb), ((md 4), aI cZ 3 th), ((md 5), aI cI 3 pl), ((md 6), aI cI 3 lo), ((md 7), aI cI 3 pr), ((md 8), aI cI 30 la)] H := hP
      have hD : va_D A [((md 0), .inr (5, [.int (eI 1), .int (eI ((n : Nat) : Int)), .ref (md 1), .ref (md 2), .ref (md 3), .int (eI sh), .int (eI ra), .ref (md 4), .ref (md 5), .ref (md 6), .ref (md 7), .ref (md 8), .long (eL up), .long (eL lw), .ref (md 9), .ref (md 10), .ref (md 11), .ref (md 12), .ref (md 13), .ref (md 14), .ref (md 15), .int (eI kn), .int (eI fo)])), ((md 1), aI cI 25 sc), ((md 2), aI cI 4 ln), ((md 3), aI cZ 4 cb), ((md 4), aI cZ 3 th), ((md 5), aI cI 3 pl), ((md 6), aI cI 3 lo), ((md 7), aI cI 3 pr), ((md 8), aI cI 30 la)] := hD
      refine lv_aload_n hx hb d_M_station_133 rfl (lv_at hl 1 rfl) ?_
      refine va_get (D := D) (ci := 5) (v := .int (eI 1)) (C := R_M) (T := T_M) (N := 23) hx hb htb in_M hown hK hP 0 rfl rfl 0 (by decide) (htb _ tb_588) (fun _ h9 => h9) rfl d_M_station_134 ?_
      refine we_if_le (tgt := 142) hx hb (by constructor <;> omega) d_M_station_137 rfl (fun hc137 => absurd hc137 (by omega)) (fun hc137 => ?_)
      refine lv_iconst (v := eI 0) hx hb d_M_station_140 rfl ?_
      subst hQ
      exact W.iret hx hb hrt (fun t9 ht hW => ⟨⟨(1, kn, ((n : Nat) : Int), sc, ln), rfl, Or.inl ⟨hng, rfl⟩, by rw [ht]; exact hP, hD⟩, hS.F ht⟩) hS.2.2 d_M_station_141
  ·
    have hng : ¬ (((n = 0 ∧ y = 0) ∨ (n ≠ 0 ∧ 1 ≤ y ∧ y ≤ 100)) ∧ (-100 ≤ x1 ∧ x1 ≤ 100) ∧ (-100 ≤ x2 ∧ x2 ≤ 100) ∧ (-100 ≤ x3 ∧ x3 ≤ 100) ∧ 0 ≤ w ∧ (1 ≤ w / 100 ∧ w / 100 ≤ 50) ∧ (1 ≤ w % 100 ∧ w % 100 ≤ 50)) := fun q9 => by obtain ⟨q1, _⟩ := q9; omega
    refine lv_aload_n hx hb d_M_station_0 rfl (lv_at hl 0 rfl) ?_
    refine va_get (D := D) (ci := 5) (v := .int (eI ((n : Nat) : Int))) (C := R_M) (T := T_M) (N := 23) hx hb htb in_M hown hK hP 0 rfl rfl 1 (by decide) (htb _ tb_589) (fun _ h9 => h9) rfl d_M_station_1 ?_
    refine we_if_ne (tgt := 19) hx hb (by constructor <;> omega) d_M_station_4 rfl (fun hc4 => absurd hc4 (by omega)) (fun hc4 => ?_)
    refine lv_iload_n hx hb d_M_station_7 rfl (lv_at hl 1 rfl) ?_
    refine we_if_ne (tgt := 15) hx hb (by constructor <;> omega) d_M_station_8 rfl (fun hc8 => ?_) (fun hc8 => absurd hc8 (by omega))
    refine lv_iconst (v := eI 0) hx hb d_M_station_15 rfl ?_
    refine lv_goto (tgt := 26) hx hb d_M_station_16 rfl ?_
    refine lv_istore hx hb d_M_station_26 hl (by decide) rfl (fun ls hl => ?_)
    have hl : lv_has ls 7 [(6, .int (eI 0)), (0, .ref (md 0)), (1, .int (eI y)), (2, .int (eI x1)), (3, .int (eI x2)), (4, .int (eI x3)), (5, .int (eI w))] := hl
    refine lv_iload hx hb d_M_station_28 (lv_at hl 0 rfl) ?_
    refine we_if_eq (tgt := 104) hx hb (by constructor <;> omega) d_M_station_30 rfl (fun hc30 => ?_) (fun hc30 => absurd hc30 (by omega))
    refine lv_iconst (v := eI 0) hx hb d_M_station_104 rfl ?_
    refine lv_istore hx hb d_M_station_105 hl (by decide) rfl (fun ls hl => ?_)
    have hl : lv_has ls 7 [(6, .int (eI 0)), (0, .ref (md 0)), (1, .int (eI y)), (2, .int (eI x1)), (3, .int (eI x2)), (4, .int (eI x3)), (5, .int (eI w))] := hl
    refine lv_aload_n hx hb d_M_station_107 rfl (lv_at hl 1 rfl) ?_
    refine lv_iload hx hb d_M_station_108 (lv_at hl 0 rfl) ?_
    refine we_if_ne (tgt := 117) hx hb (by constructor <;> omega) d_M_station_110 rfl (fun hc110 => absurd hc110 (by omega)) (fun hc110 => ?_)
    refine lv_iconst (v := eI 1) hx hb d_M_station_113 rfl ?_
    refine lv_goto (tgt := 130) hx hb d_M_station_114 rfl ?_
    refine va_put (D := D) (ci := 5) (v := .int (eI 1)) (ty := .int) (C := R_M) (T := T_M) (N := 23) hx hb htb in_M t_M t_M_ok n_M hown hK hP hD hS 0 rfl rfl 0 (by decide) (htb _ tb_588) (fun _ h9 => h9) rfl (by decide +kernel) rfl rfl (Nat.le_of_ble_eq_true rfl) d_M_station_130 (fun H locs hP hD hS => ?_)
    have hP : va_P D classes [((md 0), .inr (5, [.int (eI 1), .int (eI ((n : Nat) : Int)), .ref (md 1), .ref (md 2), .ref (md 3), .int (eI sh), .int (eI ra), .ref (md 4), .ref (md 5), .ref (md 6), .ref (md 7), .ref (md 8), .long (eL up), .long (eL lw), .ref (md 9), .ref (md 10), .ref (md 11), .ref (md 12), .ref (md 13), .ref (md 14), .ref (md 15), .int (eI kn), .int (eI fo)])), ((md 1), aI cI 25 sc), ((md 2), aI cI 4 ln), ((md 3), aI cZ 4 cb), ((md 4), aI cZ 3 th), ((md 5), aI cI 3 pl), ((md 6), aI cI 3 lo), ((md 7), aI cI 3 pr), ((md 8), aI cI 30 la)] H := hP
    have hD : va_D A [((md 0), .inr (5, [.int (eI 1), .int (eI ((n : Nat) : Int)), .ref (md 1), .ref (md 2), .ref (md 3), .int (eI sh), .int (eI ra), .ref (md 4), .ref (md 5), .ref (md 6), .ref (md 7), .ref (md 8), .long (eL up), .long (eL lw), .ref (md 9), .ref (md 10), .ref (md 11), .ref (md 12), .ref (md 13), .ref (md 14), .ref (md 15), .int (eI kn), .int (eI fo)])), ((md 1), aI cI 25 sc), ((md 2), aI cI 4 ln), ((md 3), aI cZ 4 cb), ((md 4), aI cZ 3 th), ((md 5), aI cI 3 pl), ((md 6), aI cI 3 lo), ((md 7), aI cI 3 pr), ((md 8), aI cI 30 la)] := hD
    refine lv_aload_n hx hb d_M_station_133 rfl (lv_at hl 1 rfl) ?_
    refine va_get (D := D) (ci := 5) (v := .int (eI 1)) (C := R_M) (T := T_M) (N := 23) hx hb htb in_M hown hK hP 0 rfl rfl 0 (by decide) (htb _ tb_588) (fun _ h9 => h9) rfl d_M_station_134 ?_
    refine we_if_le (tgt := 142) hx hb (by constructor <;> omega) d_M_station_137 rfl (fun hc137 => absurd hc137 (by omega)) (fun hc137 => ?_)
    refine lv_iconst (v := eI 0) hx hb d_M_station_140 rfl ?_
    subst hQ
    exact W.iret hx hb hrt (fun t9 ht hW => ⟨⟨(1, kn, ((n : Nat) : Int), sc, ln), rfl, Or.inl ⟨hng, rfl⟩, by rw [ht]; exact hP, hD⟩, hS.F ht⟩) hS.2.2 d_M_station_141
  ·
    by_cases hx19 : (-100 ≤ x1 ∧ x1 ≤ 100)
    ·
      by_cases hx29 : (-100 ≤ x2 ∧ x2 ≤ 100)
      ·
        by_cases hx39 : (-100 ≤ x3 ∧ x3 ≤ 100)
        ·
          by_cases hw09 : (0 ≤ w)
          ·
            by_cases hd19 : (1 ≤ w / 100 ∧ w / 100 ≤ 50)
            ·
              by_cases hd29 : (1 ≤ w % 100 ∧ w % 100 ≤ 50)
              ·
                by_cases hn9 : n = 5
                ·
                  refine lv_aload_n hx hb d_M_station_0 rfl (lv_at hl 0 rfl) ?_
                  refine va_get (D := D) (ci := 5) (v := .int (eI ((n : Nat) : Int))) (C := R_M) (T := T_M) (N := 23) hx hb htb in_M hown hK hP 0 rfl rfl 1 (by decide) (htb _ tb_589) (fun _ h9 => h9) rfl d_M_station_1 ?_
                  refine we_if_ne (tgt := 19) hx hb (by constructor <;> omega) d_M_station_4 rfl (fun hc4 => ?_) (fun hc4 => absurd hc4 (by omega))
                  refine lv_iload_n hx hb d_M_station_19 rfl (lv_at hl 1 rfl) ?_
                  refine lv_iconst (v := eI 1) hx hb d_M_station_20 rfl ?_
                  refine lv_bipush (v := eI 100) hx hb d_M_station_21 (by decide) ?_
                  refine eh_cRS (As := [.int (eI y), .int (eI 1), .int (eI 100)]) (rest := []) (v := .int (eI (if 1 ≤ y ∧ y ≤ 100 then 1 else 0))) hx hb hml hown htb hN (r_M_within l D y 1 100 hy (by omega) (by omega)) 3 ⟨tb_670, tb_671, tb_7, kin_M_within⟩ dv_M_within ⟨by rw [hR1]; decide, by rw [hR2]; decide⟩ hK hP [] rfl [] rfl rfl rfl hl.1 (Nat.le_of_ble_eq_true rfl) d_M_station_23 ⟨Nat.zero_le _, Nat.zero_le _⟩ ?_
                  refine lv_istore hx hb d_M_station_26 hl (by decide) rfl (fun ls hl => ?_)
                  have hl : lv_has ls 7 [(6, .int (eI (if 1 ≤ y ∧ y ≤ 100 then 1 else 0))), (0, .ref (md 0)), (1, .int (eI y)), (2, .int (eI x1)), (3, .int (eI x2)), (4, .int (eI x3)), (5, .int (eI w))] := hl
                  refine lv_iload hx hb d_M_station_28 (lv_at hl 0 rfl) ?_
                  refine we_if_eq (tgt := 104) hx hb (by constructor <;> split <;> omega) d_M_station_30 rfl (fun hc30 => absurd hc30 (by rw [if_pos hcas.2]; omega)) (fun hc30 => ?_)
                  refine lv_iload_n hx hb d_M_station_33 rfl (lv_at hl 3 rfl) ?_
                  refine lv_bipush (v := eI (-100)) hx hb d_M_station_34 (by decide) ?_
                  refine lv_bipush (v := eI 100) hx hb d_M_station_36 (by decide) ?_
                  refine eh_cRS (As := [.int (eI x1), .int (eI (-100)), .int (eI 100)]) (rest := []) (v := .int (eI (if (-100) ≤ x1 ∧ x1 ≤ 100 then 1 else 0))) hx hb hml hown htb hN (r_M_within l D x1 (-100) 100 hx1 (by omega) (by omega)) 3 ⟨tb_670, tb_671, tb_7, kin_M_within⟩ dv_M_within ⟨by rw [hR1]; decide, by rw [hR2]; decide⟩ hK hP [] rfl [] rfl rfl rfl hl.1 (Nat.le_of_ble_eq_true rfl) d_M_station_38 ⟨Nat.zero_le _, Nat.zero_le _⟩ ?_
                  refine we_if_eq (tgt := 104) hx hb (by constructor <;> split <;> omega) d_M_station_41 rfl (fun hc41 => absurd hc41 (by rw [if_pos hx19]; omega)) (fun hc41 => ?_)
                  refine lv_iload_n hx hb d_M_station_44 rfl (lv_at hl 4 rfl) ?_
                  refine lv_bipush (v := eI (-100)) hx hb d_M_station_45 (by decide) ?_
                  refine lv_bipush (v := eI 100) hx hb d_M_station_47 (by decide) ?_
                  refine eh_cRS (As := [.int (eI x2), .int (eI (-100)), .int (eI 100)]) (rest := []) (v := .int (eI (if (-100) ≤ x2 ∧ x2 ≤ 100 then 1 else 0))) hx hb hml hown htb hN (r_M_within l D x2 (-100) 100 hx2 (by omega) (by omega)) 3 ⟨tb_670, tb_671, tb_7, kin_M_within⟩ dv_M_within ⟨by rw [hR1]; decide, by rw [hR2]; decide⟩ hK hP [] rfl [] rfl rfl rfl hl.1 (Nat.le_of_ble_eq_true rfl) d_M_station_49 ⟨Nat.zero_le _, Nat.zero_le _⟩ ?_
                  refine we_if_eq (tgt := 104) hx hb (by constructor <;> split <;> omega) d_M_station_52 rfl (fun hc52 => absurd hc52 (by rw [if_pos hx29]; omega)) (fun hc52 => ?_)
                  refine lv_iload hx hb d_M_station_55 (lv_at hl 5 rfl) ?_
                  refine lv_bipush (v := eI (-100)) hx hb d_M_station_57 (by decide) ?_
                  refine lv_bipush (v := eI 100) hx hb d_M_station_59 (by decide) ?_
                  refine eh_cRS (As := [.int (eI x3), .int (eI (-100)), .int (eI 100)]) (rest := []) (v := .int (eI (if (-100) ≤ x3 ∧ x3 ≤ 100 then 1 else 0))) hx hb hml hown htb hN (r_M_within l D x3 (-100) 100 hx3 (by omega) (by omega)) 3 ⟨tb_670, tb_671, tb_7, kin_M_within⟩ dv_M_within ⟨by rw [hR1]; decide, by rw [hR2]; decide⟩ hK hP [] rfl [] rfl rfl rfl hl.1 (Nat.le_of_ble_eq_true rfl) d_M_station_61 ⟨Nat.zero_le _, Nat.zero_le _⟩ ?_
                  refine we_if_eq (tgt := 104) hx hb (by constructor <;> split <;> omega) d_M_station_64 rfl (fun hc64 => absurd hc64 (by rw [if_pos hx39]; omega)) (fun hc64 => ?_)
                  refine lv_iload hx hb d_M_station_67 (lv_at hl 6 rfl) ?_
                  refine we_if_lt (tgt := 104) hx hb (by constructor <;> omega) d_M_station_69 rfl (fun hc69 => absurd hc69 (by omega)) (fun hc69 => ?_)
                  refine lv_iload hx hb d_M_station_72 (lv_at hl 6 rfl) ?_
                  refine lv_bipush (v := eI 100) hx hb d_M_station_74 (by decide) ?_
                  refine we_idiv hx hb (by constructor <;> omega) (by constructor <;> omega) (by omega) (by omega) d_M_station_76 ?_
                  refine lv_iconst (v := eI 1) hx hb d_M_station_77 rfl ?_
                  refine lv_bipush (v := eI 50) hx hb d_M_station_78 (by decide) ?_
                  refine eh_cRS (As := [.int (eI (w / 100)), .int (eI 1), .int (eI 50)]) (rest := []) (v := .int (eI (if 1 ≤ (w / 100) ∧ (w / 100) ≤ 50 then 1 else 0))) hx hb hml hown htb hN (r_M_within l D (w / 100) 1 50 (by omega) (by omega) (by omega)) 3 ⟨tb_670, tb_671, tb_7, kin_M_within⟩ dv_M_within ⟨by rw [hR1]; decide, by rw [hR2]; decide⟩ hK hP [] rfl [] rfl rfl rfl hl.1 (Nat.le_of_ble_eq_true rfl) d_M_station_80 ⟨Nat.zero_le _, Nat.zero_le _⟩ ?_
                  refine we_if_eq (tgt := 104) hx hb (by constructor <;> split <;> omega) d_M_station_83 rfl (fun hc83 => absurd hc83 (by rw [if_pos hd19]; omega)) (fun hc83 => ?_)
                  refine lv_iload hx hb d_M_station_86 (lv_at hl 6 rfl) ?_
                  refine lv_bipush (v := eI 100) hx hb d_M_station_88 (by decide) ?_
                  refine we_irem hx hb (by constructor <;> omega) (by constructor <;> omega) (by omega) (by omega) d_M_station_90 ?_
                  refine lv_iconst (v := eI 1) hx hb d_M_station_91 rfl ?_
                  refine lv_bipush (v := eI 50) hx hb d_M_station_92 (by decide) ?_
                  refine eh_cRS (As := [.int (eI (w % 100)), .int (eI 1), .int (eI 50)]) (rest := []) (v := .int (eI (if 1 ≤ (w % 100) ∧ (w % 100) ≤ 50 then 1 else 0))) hx hb hml hown htb hN (r_M_within l D (w % 100) 1 50 (by omega) (by omega) (by omega)) 3 ⟨tb_670, tb_671, tb_7, kin_M_within⟩ dv_M_within ⟨by rw [hR1]; decide, by rw [hR2]; decide⟩ hK hP [] rfl [] rfl rfl rfl hl.1 (Nat.le_of_ble_eq_true rfl) d_M_station_94 ⟨Nat.zero_le _, Nat.zero_le _⟩ ?_
                  refine we_if_eq (tgt := 104) hx hb (by constructor <;> split <;> omega) d_M_station_97 rfl (fun hc97 => absurd hc97 (by rw [if_pos hd29]; omega)) (fun hc97 => ?_)
                  refine lv_iconst (v := eI 1) hx hb d_M_station_100 rfl ?_
                  refine lv_goto (tgt := 105) hx hb d_M_station_101 rfl ?_
                  refine lv_istore hx hb d_M_station_105 hl (by decide) rfl (fun ls hl => ?_)
                  have hl : lv_has ls 7 [(6, .int (eI 1)), (0, .ref (md 0)), (1, .int (eI y)), (2, .int (eI x1)), (3, .int (eI x2)), (4, .int (eI x3)), (5, .int (eI w))] := hl
                  refine lv_aload_n hx hb d_M_station_107 rfl (lv_at hl 1 rfl) ?_
                  refine lv_iload hx hb d_M_station_108 (lv_at hl 0 rfl) ?_
                  refine we_if_ne (tgt := 117) hx hb (by constructor <;> omega) d_M_station_110 rfl (fun hc110 => ?_) (fun hc110 => absurd hc110 (by omega))
                  refine lv_aload_n hx hb d_M_station_117 rfl (lv_at hl 1 rfl) ?_
                  refine va_get (D := D) (ci := 5) (v := .int (eI ((n : Nat) : Int))) (C := R_M) (T := T_M) (N := 23) hx hb htb in_M hown hK hP 0 rfl rfl 1 (by decide) (htb _ tb_589) (fun _ h9 => h9) rfl d_M_station_118 ?_
                  refine lv_iconst (v := eI 5) hx hb d_M_station_121 rfl ?_
                  refine we_icmp_ne (tgt := 129) hx hb (by constructor <;> omega) (by constructor <;> omega) d_M_station_122 rfl (fun hc122 => absurd hc122 (by omega)) (fun hc122 => ?_)
                  refine lv_iconst (v := eI 2) hx hb d_M_station_125 rfl ?_
                  refine lv_goto (tgt := 130) hx hb d_M_station_126 rfl ?_
                  refine va_put (D := D) (ci := 5) (v := .int (eI 2)) (ty := .int) (C := R_M) (T := T_M) (N := 23) hx hb htb in_M t_M t_M_ok n_M hown hK hP hD hS 0 rfl rfl 0 (by decide) (htb _ tb_588) (fun _ h9 => h9) rfl (by decide +kernel) rfl rfl (Nat.le_of_ble_eq_true rfl) d_M_station_130 (fun H locs hP hD hS => ?_)
                  have hP : va_P D classes [((md 0), .inr (5, [.int (eI 2), .int (eI ((n : Nat) : Int)), .ref (md 1), .ref (md 2), .ref (md 3), .int (eI sh), .int (eI ra), .ref (md 4), .ref (md 5), .ref (md 6), .ref (md 7), .ref (md 8), .long (eL up), .long (eL lw), .ref (md 9), .ref (md 10), .ref (md 11), .ref (md 12), .ref (md 13), .ref (md 14), .ref (md 15), .int (eI kn), .int (eI fo)])), ((md 1), aI cI 25 sc), ((md 2), aI cI 4 ln), ((md 3), aI cZ 4 cb), ((md 4), aI cZ 3 th), ((md 5), aI cI 3 pl), ((md 6), aI cI 3 lo), ((md 7), aI cI 3 pr), ((md 8), aI cI 30 la)] H := hP
                  have hD : va_D A [((md 0), .inr (5, [.int (eI 2), .int (eI ((n : Nat) : Int)), .ref (md 1), .ref (md 2), .ref (md 3), .int (eI sh), .int (eI ra), .ref (md 4), .ref (md 5), .ref (md 6), .ref (md 7), .ref (md 8), .long (eL up), .long (eL lw), .ref (md 9), .ref (md 10), .ref (md 11), .ref (md 12), .ref (md 13), .ref (md 14), .ref (md 15), .int (eI kn), .int (eI fo)])), ((md 1), aI cI 25 sc), ((md 2), aI cI 4 ln), ((md 3), aI cZ 4 cb), ((md 4), aI cZ 3 th), ((md 5), aI cI 3 pl), ((md 6), aI cI 3 lo), ((md 7), aI cI 3 pr), ((md 8), aI cI 30 la)] := hD
                  refine lv_aload_n hx hb d_M_station_133 rfl (lv_at hl 1 rfl) ?_
                  refine va_get (D := D) (ci := 5) (v := .int (eI 2)) (C := R_M) (T := T_M) (N := 23) hx hb htb in_M hown hK hP 0 rfl rfl 0 (by decide) (htb _ tb_588) (fun _ h9 => h9) rfl d_M_station_134 ?_
                  refine we_if_le (tgt := 142) hx hb (by constructor <;> omega) d_M_station_137 rfl (fun hc137 => absurd hc137 (by omega)) (fun hc137 => ?_)
                  refine lv_iconst (v := eI 0) hx hb d_M_station_140 rfl ?_
                  subst hQ
                  exact W.iret hx hb hrt (fun t9 ht hW => ⟨⟨(2, kn, ((n : Nat) : Int), sc, ln), rfl, Or.inr (Or.inl ⟨⟨Or.inr hcas, hx19, hx29, hx39, hw09, hd19, hd29⟩, hn9, rfl⟩), by rw [ht]; exact hP, hD⟩, hS.F ht⟩) hS.2.2 d_M_station_141
                ·
                  refine lv_aload_n hx hb d_M_station_0 rfl (lv_at hl 0 rfl) ?_
                  refine va_get (D := D) (ci := 5) (v := .int (eI ((n : Nat) : Int))) (C := R_M) (T := T_M) (N := 23) hx hb htb in_M hown hK hP 0 rfl rfl 1 (by decide) (htb _ tb_589) (fun _ h9 => h9) rfl d_M_station_1 ?_
                  refine we_if_ne (tgt := 19) hx hb (by constructor <;> omega) d_M_station_4 rfl (fun hc4 => ?_) (fun hc4 => absurd hc4 (by omega))
                  refine lv_iload_n hx hb d_M_station_19 rfl (lv_at hl 1 rfl) ?_
                  refine lv_iconst (v := eI 1) hx hb d_M_station_20 rfl ?_
                  refine lv_bipush (v := eI 100) hx hb d_M_station_21 (by decide) ?_
                  refine eh_cRS (As := [.int (eI y), .int (eI 1), .int (eI 100)]) (rest := []) (v := .int (eI (if 1 ≤ y ∧ y ≤ 100 then 1 else 0))) hx hb hml hown htb hN (r_M_within l D y 1 100 hy (by omega) (by omega)) 3 ⟨tb_670, tb_671, tb_7, kin_M_within⟩ dv_M_within ⟨by rw [hR1]; decide, by rw [hR2]; decide⟩ hK hP [] rfl [] rfl rfl rfl hl.1 (Nat.le_of_ble_eq_true rfl) d_M_station_23 ⟨Nat.zero_le _, Nat.zero_le _⟩ ?_
                  refine lv_istore hx hb d_M_station_26 hl (by decide) rfl (fun ls hl => ?_)
                  have hl : lv_has ls 7 [(6, .int (eI (if 1 ≤ y ∧ y ≤ 100 then 1 else 0))), (0, .ref (md 0)), (1, .int (eI y)), (2, .int (eI x1)), (3, .int (eI x2)), (4, .int (eI x3)), (5, .int (eI w))] := hl
                  refine lv_iload hx hb d_M_station_28 (lv_at hl 0 rfl) ?_
                  refine we_if_eq (tgt := 104) hx hb (by constructor <;> split <;> omega) d_M_station_30 rfl (fun hc30 => absurd hc30 (by rw [if_pos hcas.2]; omega)) (fun hc30 => ?_)
                  refine lv_iload_n hx hb d_M_station_33 rfl (lv_at hl 3 rfl) ?_
                  refine lv_bipush (v := eI (-100)) hx hb d_M_station_34 (by decide) ?_
                  refine lv_bipush (v := eI 100) hx hb d_M_station_36 (by decide) ?_
                  refine eh_cRS (As := [.int (eI x1), .int (eI (-100)), .int (eI 100)]) (rest := []) (v := .int (eI (if (-100) ≤ x1 ∧ x1 ≤ 100 then 1 else 0))) hx hb hml hown htb hN (r_M_within l D x1 (-100) 100 hx1 (by omega) (by omega)) 3 ⟨tb_670, tb_671, tb_7, kin_M_within⟩ dv_M_within ⟨by rw [hR1]; decide, by rw [hR2]; decide⟩ hK hP [] rfl [] rfl rfl rfl hl.1 (Nat.le_of_ble_eq_true rfl) d_M_station_38 ⟨Nat.zero_le _, Nat.zero_le _⟩ ?_
                  refine we_if_eq (tgt := 104) hx hb (by constructor <;> split <;> omega) d_M_station_41 rfl (fun hc41 => absurd hc41 (by rw [if_pos hx19]; omega)) (fun hc41 => ?_)
                  refine lv_iload_n hx hb d_M_station_44 rfl (lv_at hl 4 rfl) ?_
                  refine lv_bipush (v := eI (-100)) hx hb d_M_station_45 (by decide) ?_
                  refine lv_bipush (v := eI 100) hx hb d_M_station_47 (by decide) ?_
                  refine eh_cRS (As := [.int (eI x2), .int (eI (-100)), .int (eI 100)]) (rest := []) (v := .int (eI (if (-100) ≤ x2 ∧ x2 ≤ 100 then 1 else 0))) hx hb hml hown htb hN (r_M_within l D x2 (-100) 100 hx2 (by omega) (by omega)) 3 ⟨tb_670, tb_671, tb_7, kin_M_within⟩ dv_M_within ⟨by rw [hR1]; decide, by rw [hR2]; decide⟩ hK hP [] rfl [] rfl rfl rfl hl.1 (Nat.le_of_ble_eq_true rfl) d_M_station_49 ⟨Nat.zero_le _, Nat.zero_le _⟩ ?_
                  refine we_if_eq (tgt := 104) hx hb (by constructor <;> split <;> omega) d_M_station_52 rfl (fun hc52 => absurd hc52 (by rw [if_pos hx29]; omega)) (fun hc52 => ?_)
                  refine lv_iload hx hb d_M_station_55 (lv_at hl 5 rfl) ?_
                  refine lv_bipush (v := eI (-100)) hx hb d_M_station_57 (by decide) ?_
                  refine lv_bipush (v := eI 100) hx hb d_M_station_59 (by decide) ?_
                  refine eh_cRS (As := [.int (eI x3), .int (eI (-100)), .int (eI 100)]) (rest := []) (v := .int (eI (if (-100) ≤ x3 ∧ x3 ≤ 100 then 1 else 0))) hx hb hml hown htb hN (r_M_within l D x3 (-100) 100 hx3 (by omega) (by omega)) 3 ⟨tb_670, tb_671, tb_7, kin_M_within⟩ dv_M_within ⟨by rw [hR1]; decide, by rw [hR2]; decide⟩ hK hP [] rfl [] rfl rfl rfl hl.1 (Nat.le_of_ble_eq_true rfl) d_M_station_61 ⟨Nat.zero_le _, Nat.zero_le _⟩ ?_
                  refine we_if_eq (tgt := 104) hx hb (by constructor <;> split <;> omega) d_M_station_64 rfl (fun hc64 => absurd hc64 (by rw [if_pos hx39]; omega)) (fun hc64 => ?_)
                  refine lv_iload hx hb d_M_station_67 (lv_at hl 6 rfl) ?_
                  refine we_if_lt (tgt := 104) hx hb (by constructor <;> omega) d_M_station_69 rfl (fun hc69 => absurd hc69 (by omega)) (fun hc69 => ?_)
                  refine lv_iload hx hb d_M_station_72 (lv_at hl 6 rfl) ?_
                  refine lv_bipush (v := eI 100) hx hb d_M_station_74 (by decide) ?_
                  refine we_idiv hx hb (by constructor <;> omega) (by constructor <;> omega) (by omega) (by omega) d_M_station_76 ?_
                  refine lv_iconst (v := eI 1) hx hb d_M_station_77 rfl ?_
                  refine lv_bipush (v := eI 50) hx hb d_M_station_78 (by decide) ?_
                  refine eh_cRS (As := [.int (eI (w / 100)), .int (eI 1), .int (eI 50)]) (rest := []) (v := .int (eI (if 1 ≤ (w / 100) ∧ (w / 100) ≤ 50 then 1 else 0))) hx hb hml hown htb hN (r_M_within l D (w / 100) 1 50 (by omega) (by omega) (by omega)) 3 ⟨tb_670, tb_671, tb_7, kin_M_within⟩ dv_M_within ⟨by rw [hR1]; decide, by rw [hR2]; decide⟩ hK hP [] rfl [] rfl rfl rfl hl.1 (Nat.le_of_ble_eq_true rfl) d_M_station_80 ⟨Nat.zero_le _, Nat.zero_le _⟩ ?_
                  refine we_if_eq (tgt := 104) hx hb (by constructor <;> split <;> omega) d_M_station_83 rfl (fun hc83 => absurd hc83 (by rw [if_pos hd19]; omega)) (fun hc83 => ?_)
                  refine lv_iload hx hb d_M_station_86 (lv_at hl 6 rfl) ?_
                  refine lv_bipush (v := eI 100) hx hb d_M_station_88 (by decide) ?_
                  refine we_irem hx hb (by constructor <;> omega) (by constructor <;> omega) (by omega) (by omega) d_M_station_90 ?_
                  refine lv_iconst (v := eI 1) hx hb d_M_station_91 rfl ?_
                  refine lv_bipush (v := eI 50) hx hb d_M_station_92 (by decide) ?_
                  refine eh_cRS (As := [.int (eI (w % 100)), .int (eI 1), .int (eI 50)]) (rest := []) (v := .int (eI (if 1 ≤ (w % 100) ∧ (w % 100) ≤ 50 then 1 else 0))) hx hb hml hown htb hN (r_M_within l D (w % 100) 1 50 (by omega) (by omega) (by omega)) 3 ⟨tb_670, tb_671, tb_7, kin_M_within⟩ dv_M_within ⟨by rw [hR1]; decide, by rw [hR2]; decide⟩ hK hP [] rfl [] rfl rfl rfl hl.1 (Nat.le_of_ble_eq_true rfl) d_M_station_94 ⟨Nat.zero_le _, Nat.zero_le _⟩ ?_
                  refine we_if_eq (tgt := 104) hx hb (by constructor <;> split <;> omega) d_M_station_97 rfl (fun hc97 => absurd hc97 (by rw [if_pos hd29]; omega)) (fun hc97 => ?_)
                  refine lv_iconst (v := eI 1) hx hb d_M_station_100 rfl ?_
                  refine lv_goto (tgt := 105) hx hb d_M_station_101 rfl ?_
                  refine lv_istore hx hb d_M_station_105 hl (by decide) rfl (fun ls hl => ?_)
                  have hl : lv_has ls 7 [(6, .int (eI 1)), (0, .ref (md 0)), (1, .int (eI y)), (2, .int (eI x1)), (3, .int (eI x2)), (4, .int (eI x3)), (5, .int (eI w))] := hl
                  refine lv_aload_n hx hb d_M_station_107 rfl (lv_at hl 1 rfl) ?_
                  refine lv_iload hx hb d_M_station_108 (lv_at hl 0 rfl) ?_
                  refine we_if_ne (tgt := 117) hx hb (by constructor <;> omega) d_M_station_110 rfl (fun hc110 => ?_) (fun hc110 => absurd hc110 (by omega))
                  refine lv_aload_n hx hb d_M_station_117 rfl (lv_at hl 1 rfl) ?_
                  refine va_get (D := D) (ci := 5) (v := .int (eI ((n : Nat) : Int))) (C := R_M) (T := T_M) (N := 23) hx hb htb in_M hown hK hP 0 rfl rfl 1 (by decide) (htb _ tb_589) (fun _ h9 => h9) rfl d_M_station_118 ?_
                  refine lv_iconst (v := eI 5) hx hb d_M_station_121 rfl ?_
                  refine we_icmp_ne (tgt := 129) hx hb (by constructor <;> omega) (by constructor <;> omega) d_M_station_122 rfl (fun hc122 => ?_) (fun hc122 => absurd hc122 (by omega))
                  refine lv_iconst (v := eI 0) hx hb d_M_station_129 rfl ?_
                  refine va_put (D := D) (ci := 5) (v := .int (eI 0)) (ty := .int) (C := R_M) (T := T_M) (N := 23) hx hb htb in_M t_M t_M_ok n_M hown hK hP hD hS 0 rfl rfl 0 (by decide) (htb _ tb_588) (fun _ h9 => h9) rfl (by decide +kernel) rfl rfl (Nat.le_of_ble_eq_true rfl) d_M_station_130 (fun H locs hP hD hS => ?_)
                  have hP : va_P D classes [((md 0), .inr (5, [.int (eI 0), .int (eI ((n : Nat) : Int)), .ref (md 1), .ref (md 2), .ref (md 3), .int (eI sh), .int (eI ra), .ref (md 4), .ref (md 5), .ref (md 6), .ref (md 7), .ref (md 8), .long (eL up), .long (eL lw), .ref (md 9), .ref (md 10), .ref (md 11), .ref (md 12), .ref (md 13), .ref (md 14), .ref (md 15), .int (eI kn), .int (eI fo)])), ((md 1), aI cI 25 sc), ((md 2), aI cI 4 ln), ((md 3), aI cZ 4 cb), ((md 4), aI cZ 3 th), ((md 5), aI cI 3 pl), ((md 6), aI cI 3 lo), ((md 7), aI cI 3 pr), ((md 8), aI cI 30 la)] H := hP
                  have hD : va_D A [((md 0), .inr (5, [.int (eI 0), .int (eI ((n : Nat) : Int)), .ref (md 1), .ref (md 2), .ref (md 3), .int (eI sh), .int (eI ra), .ref (md 4), .ref (md 5), .ref (md 6), .ref (md 7), .ref (md 8), .long (eL up), .long (eL lw), .ref (md 9), .ref (md 10), .ref (md 11), .ref (md 12), .ref (md 13), .ref (md 14), .ref (md 15), .int (eI kn), .int (eI fo)])), ((md 1), aI cI 25 sc), ((md 2), aI cI 4 ln), ((md 3), aI cZ 4 cb), ((md 4), aI cZ 3 th), ((md 5), aI cI 3 pl), ((md 6), aI cI 3 lo), ((md 7), aI cI 3 pr), ((md 8), aI cI 30 la)] := hD
                  refine lv_aload_n hx hb d_M_station_133 rfl (lv_at hl 1 rfl) ?_
                  refine va_get (D := D) (ci := 5) (v := .int (eI 0)) (C := R_M) (T := T_M) (N := 23) hx hb htb in_M hown hK hP 0 rfl rfl 0 (by decide) (htb _ tb_588) (fun _ h9 => h9) rfl d_M_station_134 ?_
                  refine we_if_le (tgt := 142) hx hb (by constructor <;> omega) d_M_station_137 rfl (fun hc137 => ?_) (fun hc137 => absurd hc137 (by omega))
                  refine lv_aload_n hx hb d_M_station_142 rfl (lv_at hl 1 rfl) ?_
                  refine va_get (D := D) (ci := 5) (v := .ref (md 1)) (C := R_M) (T := T_M) (N := 23) hx hb htb in_M hown hK hP 0 rfl rfl 2 (by decide) (htb _ tb_590) (fun _ h9 => h9) rfl d_M_station_143 ?_
                  refine lv_iconst (v := eI 5) hx hb d_M_station_146 rfl ?_
                  refine lv_aload_n hx hb d_M_station_147 rfl (lv_at hl 1 rfl) ?_
                  refine va_get (D := D) (ci := 5) (v := .int (eI ((n : Nat) : Int))) (C := R_M) (T := T_M) (N := 23) hx hb htb in_M hown hK hP 0 rfl rfl 1 (by decide) (htb _ tb_589) (fun _ h9 => h9) rfl d_M_station_148 ?_
                  refine we_imul hx hb d_M_station_151 ?_
                  refine lv_iload_n hx hb d_M_station_152 rfl (lv_at hl 3 rfl) ?_
                  refine we_iast hx hb hK hP hD hS 1 0 rfl rfl (5 * n) (by omega) (by omega) (by decide) d_M_station_153 (fun H locs hP hD hS => ?_)
                  have hP : va_P D classes [((md 0), .inr (5, [.int (eI 0), .int (eI ((n : Nat) : Int)), .ref (md 1), .ref (md 2), .ref (md 3), .int (eI sh), .int (eI ra), .ref (md 4), .ref (md 5), .ref (md 6), .ref (md 7), .ref (md 8), .long (eL up), .long (eL lw), .ref (md 9), .ref (md 10), .ref (md 11), .ref (md 12), .ref (md 13), .ref (md 14), .ref (md 15), .int (eI kn), .int (eI fo)])), ((md 1), aI cI 25 (eh_upd sc (5 * n) x1)), ((md 2), aI cI 4 ln), ((md 3), aI cZ 4 cb), ((md 4), aI cZ 3 th), ((md 5), aI cI 3 pl), ((md 6), aI cI 3 lo), ((md 7), aI cI 3 pr), ((md 8), aI cI 30 la)] H := hP
                  have hD : va_D A [((md 0), .inr (5, [.int (eI 0), .int (eI ((n : Nat) : Int)), .ref (md 1), .ref (md 2), .ref (md 3), .int (eI sh), .int (eI ra), .ref (md 4), .ref (md 5), .ref (md 6), .ref (md 7), .ref (md 8), .long (eL up), .long (eL lw), .ref (md 9), .ref (md 10), .ref (md 11), .ref (md 12), .ref (md 13), .ref (md 14), .ref (md 15), .int (eI kn), .int (eI fo)])), ((md 1), aI cI 25 (eh_upd sc (5 * n) x1)), ((md 2), aI cI 4 ln), ((md 3), aI cZ 4 cb), ((md 4), aI cZ 3 th), ((md 5), aI cI 3 pl), ((md 6), aI cI 3 lo), ((md 7), aI cI 3 pr), ((md 8), aI cI 30 la)] := hD
                  refine lv_aload_n hx hb d_M_station_154 rfl (lv_at hl 1 rfl) ?_
                  refine va_get (D := D) (ci := 5) (v := .ref (md 1)) (C := R_M) (T := T_M) (N := 23) hx hb htb in_M hown hK hP 0 rfl rfl 2 (by decide) (htb _ tb_590) (fun _ h9 => h9) rfl d_M_station_155 ?_
                  refine lv_iconst (v := eI 5) hx hb d_M_station_158 rfl ?_
                  refine lv_aload_n hx hb d_M_station_159 rfl (lv_at hl 1 rfl) ?_
                  refine va_get (D := D) (ci := 5) (v := .int (eI ((n : Nat) : Int))) (C := R_M) (T := T_M) (N := 23) hx hb htb in_M hown hK hP 0 rfl rfl 1 (by decide) (htb _ tb_589) (fun _ h9 => h9) rfl d_M_station_160 ?_
                  refine we_imul hx hb d_M_station_163 ?_
                  refine lv_iconst (v := eI 1) hx hb d_M_station_164 rfl ?_
                  refine we_iadd hx hb d_M_station_165 ?_
                  refine lv_iload_n hx hb d_M_station_166 rfl (lv_at hl 4 rfl) ?_
                  refine we_iast hx hb hK hP hD hS 1 0 rfl rfl (5 * n + 1) (by omega) (by omega) (by decide) d_M_station_167 (fun H locs hP hD hS => ?_)
                  have hP : va_P D classes [((md 0), .inr (5, [.int (eI 0), .int (eI ((n : Nat) : Int)), .ref (md 1), .ref (md 2), .ref (md 3), .int (eI sh), .int (eI ra), .ref (md 4), .ref (md 5), .ref (md 6), .ref (md 7), .ref (md 8), .long (eL up), .long (eL lw), .ref (md 9), .ref (md 10), .ref (md 11), .ref (md 12), .ref (md 13), .ref (md 14), .ref (md 15), .int (eI kn), .int (eI fo)])), ((md 1), aI cI 25 (eh_upd (eh_upd sc (5 * n) x1) (5 * n + 1) x2)), ((md 2), aI cI 4 ln), ((md 3), aI cZ 4 cb), ((md 4), aI cZ 3 th), ((md 5), aI cI 3 pl), ((md 6), aI cI 3 lo), ((md 7), aI cI 3 pr), ((md 8), aI cI 30 la)] H := hP
                  have hD : va_D A [((md 0), .inr (5, [.int (eI 0), .int (eI ((n : Nat) : Int)), .ref (md 1), .ref (md 2), .ref (md 3), .int (eI sh), .int (eI ra), .ref (md 4), .ref (md 5), .ref (md 6), .ref (md 7), .ref (md 8), .long (eL up), .long (eL lw), .ref (md 9), .ref (md 10), .ref (md 11), .ref (md 12), .ref (md 13), .ref (md 14), .ref (md 15), .int (eI kn), .int (eI fo)])), ((md 1), aI cI 25 (eh_upd (eh_upd sc (5 * n) x1) (5 * n + 1) x2)), ((md 2), aI cI 4 ln), ((md 3), aI cZ 4 cb), ((md 4), aI cZ 3 th), ((md 5), aI cI 3 pl), ((md 6), aI cI 3 lo), ((md 7), aI cI 3 pr), ((md 8), aI cI 30 la)] := hD
                  refine lv_aload_n hx hb d_M_station_168 rfl (lv_at hl 1 rfl) ?_
                  refine va_get (D := D) (ci := 5) (v := .ref (md 1)) (C := R_M) (T := T_M) (N := 23) hx hb htb in_M hown hK hP 0 rfl rfl 2 (by decide) (htb _ tb_590) (fun _ h9 => h9) rfl d_M_station_169 ?_
                  refine lv_iconst (v := eI 5) hx hb d_M_station_172 rfl ?_
                  refine lv_aload_n hx hb d_M_station_173 rfl (lv_at hl 1 rfl) ?_
                  refine va_get (D := D) (ci := 5) (v := .int (eI ((n : Nat) : Int))) (C := R_M) (T := T_M) (N := 23) hx hb htb in_M hown hK hP 0 rfl rfl 1 (by decide) (htb _ tb_589) (fun _ h9 => h9) rfl d_M_station_174 ?_
                  refine we_imul hx hb d_M_station_177 ?_
                  refine lv_iconst (v := eI 2) hx hb d_M_station_178 rfl ?_
                  refine we_iadd hx hb d_M_station_179 ?_
                  refine lv_iload hx hb d_M_station_180 (lv_at hl 5 rfl) ?_
                  refine we_iast hx hb hK hP hD hS 1 0 rfl rfl (5 * n + 2) (by omega) (by omega) (by decide) d_M_station_182 (fun H locs hP hD hS => ?_)
                  have hP : va_P D classes [((md 0), .inr (5, [.int (eI 0), .int (eI ((n : Nat) : Int)), .ref (md 1), .ref (md 2), .ref (md 3), .int (eI sh), .int (eI ra), .ref (md 4), .ref (md 5), .ref (md 6), .ref (md 7), .ref (md 8), .long (eL up), .long (eL lw), .ref (md 9), .ref (md 10), .ref (md 11), .ref (md 12), .ref (md 13), .ref (md 14), .ref (md 15), .int (eI kn), .int (eI fo)])), ((md 1), aI cI 25 (eh_upd (eh_upd (eh_upd sc (5 * n) x1) (5 * n + 1) x2) (5 * n + 2) x3)), ((md 2), aI cI 4 ln), ((md 3), aI cZ 4 cb), ((md 4), aI cZ 3 th), ((md 5), aI cI 3 pl), ((md 6), aI cI 3 lo), ((md 7), aI cI 3 pr), ((md 8), aI cI 30 la)] H := hP
                  have hD : va_D A [((md 0), .inr (5, [.int (eI 0), .int (eI ((n : Nat) : Int)), .ref (md 1), .ref (md 2), .ref (md 3), .int (eI sh), .int (eI ra), .ref (md 4), .ref (md 5), .ref (md 6), .ref (md 7), .ref (md 8), .long (eL up), .long (eL lw), .ref (md 9), .ref (md 10), .ref (md 11), .ref (md 12), .ref (md 13), .ref (md 14), .ref (md 15), .int (eI kn), .int (eI fo)])), ((md 1), aI cI 25 (eh_upd (eh_upd (eh_upd sc (5 * n) x1) (5 * n + 1) x2) (5 * n + 2) x3)), ((md 2), aI cI 4 ln), ((md 3), aI cZ 4 cb), ((md 4), aI cZ 3 th), ((md 5), aI cI 3 pl), ((md 6), aI cI 3 lo), ((md 7), aI cI 3 pr), ((md 8), aI cI 30 la)] := hD
                  refine lv_aload_n hx hb d_M_station_183 rfl (lv_at hl 1 rfl) ?_
                  refine va_get (D := D) (ci := 5) (v := .ref (md 1)) (C := R_M) (T := T_M) (N := 23) hx hb htb in_M hown hK hP 0 rfl rfl 2 (by decide) (htb _ tb_590) (fun _ h9 => h9) rfl d_M_station_184 ?_
                  refine lv_iconst (v := eI 5) hx hb d_M_station_187 rfl ?_
                  refine lv_aload_n hx hb d_M_station_188 rfl (lv_at hl 1 rfl) ?_
                  refine va_get (D := D) (ci := 5) (v := .int (eI ((n : Nat) : Int))) (C := R_M) (T := T_M) (N := 23) hx hb htb in_M hown hK hP 0 rfl rfl 1 (by decide) (htb _ tb_589) (fun _ h9 => h9) rfl d_M_station_189 ?_
                  refine we_imul hx hb d_M_station_192 ?_
                  refine lv_iconst (v := eI 3) hx hb d_M_station_193 rfl ?_
                  refine we_iadd hx hb d_M_station_194 ?_
                  refine lv_iload hx hb d_M_station_195 (lv_at hl 6 rfl) ?_
                  refine lv_bipush (v := eI 100) hx hb d_M_station_197 (by decide) ?_
                  refine we_idiv hx hb (by constructor <;> omega) (by constructor <;> omega) (by omega) (by omega) d_M_station_199 ?_
                  refine we_iast hx hb hK hP hD hS 1 0 rfl rfl (5 * n + 3) (by omega) (by omega) (by decide) d_M_station_200 (fun H locs hP hD hS => ?_)
                  have hP : va_P D classes [((md 0), .inr (5, [.int (eI 0), .int (eI ((n : Nat) : Int)), .ref (md 1), .ref (md 2), .ref (md 3), .int (eI sh), .int (eI ra), .ref (md 4), .ref (md 5), .ref (md 6), .ref (md 7), .ref (md 8), .long (eL up), .long (eL lw), .ref (md 9), .ref (md 10), .ref (md 11), .ref (md 12), .ref (md 13), .ref (md 14), .ref (md 15), .int (eI kn), .int (eI fo)])), ((md 1), aI cI 25 (eh_upd (eh_upd (eh_upd (eh_upd sc (5 * n) x1) (5 * n + 1) x2) (5 * n + 2) x3) (5 * n + 3) (w / 100))), ((md 2), aI cI 4 ln), ((md 3), aI cZ 4 cb), ((md 4), aI cZ 3 th), ((md 5), aI cI 3 pl), ((md 6), aI cI 3 lo), ((md 7), aI cI 3 pr), ((md 8), aI cI 30 la)] H := hP
                  have hD : va_D A [((md 0), .inr (5, [.int (eI 0), .int (eI ((n : Nat) : Int)), .ref (md 1), .ref (md 2), .ref (md 3), .int (eI sh), .int (eI ra), .ref (md 4), .ref (md 5), .ref (md 6), .ref (md 7), .ref (md 8), .long (eL up), .long (eL lw), .ref (md 9), .ref (md 10), .ref (md 11), .ref (md 12), .ref (md 13), .ref (md 14), .ref (md 15), .int (eI kn), .int (eI fo)])), ((md 1), aI cI 25 (eh_upd (eh_upd (eh_upd (eh_upd sc (5 * n) x1) (5 * n + 1) x2) (5 * n + 2) x3) (5 * n + 3) (w / 100))), ((md 2), aI cI 4 ln), ((md 3), aI cZ 4 cb), ((md 4), aI cZ 3 th), ((md 5), aI cI 3 pl), ((md 6), aI cI 3 lo), ((md 7), aI cI 3 pr), ((md 8), aI cI 30 la)] := hD
                  refine lv_aload_n hx hb d_M_station_201 rfl (lv_at hl 1 rfl) ?_
                  refine va_get (D := D) (ci := 5) (v := .ref (md 1)) (C := R_M) (T := T_M) (N := 23) hx hb htb in_M hown hK hP 0 rfl rfl 2 (by decide) (htb _ tb_590) (fun _ h9 => h9) rfl d_M_station_202 ?_
                  refine lv_iconst (v := eI 5) hx hb d_M_station_205 rfl ?_
                  refine lv_aload_n hx hb d_M_station_206 rfl (lv_at hl 1 rfl) ?_
                  refine va_get (D := D) (ci := 5) (v := .int (eI ((n : Nat) : Int))) (C := R_M) (T := T_M) (N := 23) hx hb htb in_M hown hK hP 0 rfl rfl 1 (by decide) (htb _ tb_589) (fun _ h9 => h9) rfl d_M_station_207 ?_
                  refine we_imul hx hb d_M_station_210 ?_
                  refine lv_iconst (v := eI 4) hx hb d_M_station_211 rfl ?_
                  refine we_iadd hx hb d_M_station_212 ?_
                  refine lv_iload hx hb d_M_station_213 (lv_at hl 6 rfl) ?_
                  refine lv_bipush (v := eI 100) hx hb d_M_station_215 (by decide) ?_
                  refine we_irem hx hb (by constructor <;> omega) (by constructor <;> omega) (by omega) (by omega) d_M_station_217 ?_
                  refine we_iast hx hb hK hP hD hS 1 0 rfl rfl (5 * n + 4) (by omega) (by omega) (by decide) d_M_station_218 (fun H locs hP hD hS => ?_)
                  have hP : va_P D classes [((md 0), .inr (5, [.int (eI 0), .int (eI ((n : Nat) : Int)), .ref (md 1), .ref (md 2), .ref (md 3), .int (eI sh), .int (eI ra), .ref (md 4), .ref (md 5), .ref (md 6), .ref (md 7), .ref (md 8), .long (eL up), .long (eL lw), .ref (md 9), .ref (md 10), .ref (md 11), .ref (md 12), .ref (md 13), .ref (md 14), .ref (md 15), .int (eI kn), .int (eI fo)])), ((md 1), aI cI 25 (eh_upd (eh_upd (eh_upd (eh_upd (eh_upd sc (5 * n) x1) (5 * n + 1) x2) (5 * n + 2) x3) (5 * n + 3) (w / 100)) (5 * n + 4) (w % 100))), ((md 2), aI cI 4 ln), ((md 3), aI cZ 4 cb), ((md 4), aI cZ 3 th), ((md 5), aI cI 3 pl), ((md 6), aI cI 3 lo), ((md 7), aI cI 3 pr), ((md 8), aI cI 30 la)] H := hP
                  have hD : va_D A [((md 0), .inr (5, [.int (eI 0), .int (eI ((n : Nat) : Int)), .ref (md 1), .ref (md 2), .ref (md 3), .int (eI sh), .int (eI ra), .ref (md 4), .ref (md 5), .ref (md 6), .ref (md 7), .ref (md 8), .long (eL up), .long (eL lw), .ref (md 9), .ref (md 10), .ref (md 11), .ref (md 12), .ref (md 13), .ref (md 14), .ref (md 15), .int (eI kn), .int (eI fo)])), ((md 1), aI cI 25 (eh_upd (eh_upd (eh_upd (eh_upd (eh_upd sc (5 * n) x1) (5 * n + 1) x2) (5 * n + 2) x3) (5 * n + 3) (w / 100)) (5 * n + 4) (w % 100))), ((md 2), aI cI 4 ln), ((md 3), aI cZ 4 cb), ((md 4), aI cZ 3 th), ((md 5), aI cI 3 pl), ((md 6), aI cI 3 lo), ((md 7), aI cI 3 pr), ((md 8), aI cI 30 la)] := hD
                  refine lv_aload_n hx hb d_M_station_219 rfl (lv_at hl 1 rfl) ?_
                  refine va_get (D := D) (ci := 5) (v := .int (eI ((n : Nat) : Int))) (C := R_M) (T := T_M) (N := 23) hx hb htb in_M hown hK hP 0 rfl rfl 1 (by decide) (htb _ tb_589) (fun _ h9 => h9) rfl d_M_station_220 ?_
                  refine we_if_le (tgt := 238) hx hb (by constructor <;> omega) d_M_station_223 rfl (fun hc223 => absurd hc223 (by omega)) (fun hc223 => ?_)
                  refine lv_aload_n hx hb d_M_station_226 rfl (lv_at hl 1 rfl) ?_
                  refine va_get (D := D) (ci := 5) (v := .ref (md 2)) (C := R_M) (T := T_M) (N := 23) hx hb htb in_M hown hK hP 0 rfl rfl 3 (by decide) (htb _ tb_591) (fun _ h9 => h9) rfl d_M_station_227 ?_
                  refine lv_aload_n hx hb d_M_station_230 rfl (lv_at hl 1 rfl) ?_
                  refine va_get (D := D) (ci := 5) (v := .int (eI ((n : Nat) : Int))) (C := R_M) (T := T_M) (N := 23) hx hb htb in_M hown hK hP 0 rfl rfl 1 (by decide) (htb _ tb_589) (fun _ h9 => h9) rfl d_M_station_231 ?_
                  refine lv_iconst (v := eI 1) hx hb d_M_station_234 rfl ?_
                  refine we_isub hx hb d_M_station_235 ?_
                  refine lv_iload_n hx hb d_M_station_236 rfl (lv_at hl 2 rfl) ?_
                  refine we_iast hx hb hK hP hD hS 2 0 rfl rfl (n - 1) (by omega) (by omega) (by decide) d_M_station_237 (fun H locs hP hD hS => ?_)
                  have hP : va_P D classes [((md 0), .inr (5, [.int (eI 0), .int (eI ((n : Nat) : Int)), .ref (md 1), .ref (md 2), .ref (md 3), .int (eI sh), .int (eI ra), .ref (md 4), .ref (md 5), .ref (md 6), .ref (md 7), .ref (md 8), .long (eL up), .long (eL lw), .ref (md 9), .ref (md 10), .ref (md 11), .ref (md 12), .ref (md 13), .ref (md 14), .ref (md 15), .int (eI kn), .int (eI fo)])), ((md 1), aI cI 25 (eh_upd (eh_upd (eh_upd (eh_upd (eh_upd sc (5 * n) x1) (5 * n + 1) x2) (5 * n + 2) x3) (5 * n + 3) (w / 100)) (5 * n + 4) (w % 100))), ((md 2), aI cI 4 (eh_upd ln (n - 1) y)), ((md 3), aI cZ 4 cb), ((md 4), aI cZ 3 th), ((md 5), aI cI 3 pl), ((md 6), aI cI 3 lo), ((md 7), aI cI 3 pr), ((md 8), aI cI 30 la)] H := hP
                  have hD : va_D A [((md 0), .inr (5, [.int (eI 0), .int (eI ((n : Nat) : Int)), .ref (md 1), .ref (md 2), .ref (md 3), .int (eI sh), .int (eI ra), .ref (md 4), .ref (md 5), .ref (md 6), .ref (md 7), .ref (md 8), .long (eL up), .long (eL lw), .ref (md 9), .ref (md 10), .ref (md 11), .ref (md 12), .ref (md 13), .ref (md 14), .ref (md 15), .int (eI kn), .int (eI fo)])), ((md 1), aI cI 25 (eh_upd (eh_upd (eh_upd (eh_upd (eh_upd sc (5 * n) x1) (5 * n + 1) x2) (5 * n + 2) x3) (5 * n + 3) (w / 100)) (5 * n + 4) (w % 100))), ((md 2), aI cI 4 (eh_upd ln (n - 1) y)), ((md 3), aI cZ 4 cb), ((md 4), aI cZ 3 th), ((md 5), aI cI 3 pl), ((md 6), aI cI 3 lo), ((md 7), aI cI 3 pr), ((md 8), aI cI 30 la)] := hD
                  refine lv_aload_n hx hb d_M_station_238 rfl (lv_at hl 1 rfl) ?_
                  refine lv_iconst (v := eI 0) hx hb d_M_station_239 rfl ?_
                  refine va_put (D := D) (ci := 5) (v := .int (eI 0)) (ty := .boolean) (C := R_M) (T := T_M) (N := 23) hx hb htb in_M t_M t_M_ok n_M hown hK hP hD hS 0 rfl rfl 21 (by decide) (htb _ tb_609) (fun _ h9 => h9) rfl (by decide +kernel) rfl rfl (Nat.le_of_ble_eq_true rfl) d_M_station_240 (fun H locs hP hD hS => ?_)
                  have hP : va_P D classes [((md 0), .inr (5, [.int (eI 0), .int (eI ((n : Nat) : Int)), .ref (md 1), .ref (md 2), .ref (md 3), .int (eI sh), .int (eI ra), .ref (md 4), .ref (md 5), .ref (md 6), .ref (md 7), .ref (md 8), .long (eL up), .long (eL lw), .ref (md 9), .ref (md 10), .ref (md 11), .ref (md 12), .ref (md 13), .ref (md 14), .ref (md 15), .int (eI 0), .int (eI fo)])), ((md 1), aI cI 25 (eh_upd (eh_upd (eh_upd (eh_upd (eh_upd sc (5 * n) x1) (5 * n + 1) x2) (5 * n + 2) x3) (5 * n + 3) (w / 100)) (5 * n + 4) (w % 100))), ((md 2), aI cI 4 (eh_upd ln (n - 1) y)), ((md 3), aI cZ 4 cb), ((md 4), aI cZ 3 th), ((md 5), aI cI 3 pl), ((md 6), aI cI 3 lo), ((md 7), aI cI 3 pr), ((md 8), aI cI 30 la)] H := hP
                  have hD : va_D A [((md 0), .inr (5, [.int (eI 0), .int (eI ((n : Nat) : Int)), .ref (md 1), .ref (md 2), .ref (md 3), .int (eI sh), .int (eI ra), .ref (md 4), .ref (md 5), .ref (md 6), .ref (md 7), .ref (md 8), .long (eL up), .long (eL lw), .ref (md 9), .ref (md 10), .ref (md 11), .ref (md 12), .ref (md 13), .ref (md 14), .ref (md 15), .int (eI 0), .int (eI fo)])), ((md 1), aI cI 25 (eh_upd (eh_upd (eh_upd (eh_upd (eh_upd sc (5 * n) x1) (5 * n + 1) x2) (5 * n + 2) x3) (5 * n + 3) (w / 100)) (5 * n + 4) (w % 100))), ((md 2), aI cI 4 (eh_upd ln (n - 1) y)), ((md 3), aI cZ 4 cb), ((md 4), aI cZ 3 th), ((md 5), aI cI 3 pl), ((md 6), aI cI 3 lo), ((md 7), aI cI 3 pr), ((md 8), aI cI 30 la)] := hD
                  refine lv_aload_n hx hb d_M_station_243 rfl (lv_at hl 1 rfl) ?_
                  refine lv_dup hx hb d_M_station_244 rfl ?_
                  refine va_get (D := D) (ci := 5) (v := .int (eI ((n : Nat) : Int))) (C := R_M) (T := T_M) (N := 23) hx hb htb in_M hown hK hP 0 rfl rfl 1 (by decide) (htb _ tb_589) (fun _ h9 => h9) rfl d_M_station_245 ?_
                  refine lv_iconst (v := eI 1) hx hb d_M_station_248 rfl ?_
                  refine we_iadd hx hb d_M_station_249 ?_
                  refine va_put (D := D) (ci := 5) (v := .int (eI (((n : Nat) : Int) + 1))) (ty := .int) (C := R_M) (T := T_M) (N := 23) hx hb htb in_M t_M t_M_ok n_M hown hK hP hD hS 0 rfl rfl 1 (by decide) (htb _ tb_589) (fun _ h9 => h9) rfl (by decide +kernel) rfl rfl (Nat.le_of_ble_eq_true rfl) d_M_station_250 (fun H locs hP hD hS => ?_)
                  have hP : va_P D classes [((md 0), .inr (5, [.int (eI 0), .int (eI (((n : Nat) : Int) + 1)), .ref (md 1), .ref (md 2), .ref (md 3), .int (eI sh), .int (eI ra), .ref (md 4), .ref (md 5), .ref (md 6), .ref (md 7), .ref (md 8), .long (eL up), .long (eL lw), .ref (md 9), .ref (md 10), .ref (md 11), .ref (md 12), .ref (md 13), .ref (md 14), .ref (md 15), .int (eI 0), .int (eI fo)])), ((md 1), aI cI 25 (eh_upd (eh_upd (eh_upd (eh_upd (eh_upd sc (5 * n) x1) (5 * n + 1) x2) (5 * n + 2) x3) (5 * n + 3) (w / 100)) (5 * n + 4) (w % 100))), ((md 2), aI cI 4 (eh_upd ln (n - 1) y)), ((md 3), aI cZ 4 cb), ((md 4), aI cZ 3 th), ((md 5), aI cI 3 pl), ((md 6), aI cI 3 lo), ((md 7), aI cI 3 pr), ((md 8), aI cI 30 la)] H := hP
                  have hD : va_D A [((md 0), .inr (5, [.int (eI 0), .int (eI (((n : Nat) : Int) + 1)), .ref (md 1), .ref (md 2), .ref (md 3), .int (eI sh), .int (eI ra), .ref (md 4), .ref (md 5), .ref (md 6), .ref (md 7), .ref (md 8), .long (eL up), .long (eL lw), .ref (md 9), .ref (md 10), .ref (md 11), .ref (md 12), .ref (md 13), .ref (md 14), .ref (md 15), .int (eI 0), .int (eI fo)])), ((md 1), aI cI 25 (eh_upd (eh_upd (eh_upd (eh_upd (eh_upd sc (5 * n) x1) (5 * n + 1) x2) (5 * n + 2) x3) (5 * n + 3) (w / 100)) (5 * n + 4) (w % 100))), ((md 2), aI cI 4 (eh_upd ln (n - 1) y)), ((md 3), aI cZ 4 cb), ((md 4), aI cZ 3 th), ((md 5), aI cI 3 pl), ((md 6), aI cI 3 lo), ((md 7), aI cI 3 pr), ((md 8), aI cI 30 la)] := hD
                  refine lv_aload_n hx hb d_M_station_253 rfl (lv_at hl 1 rfl) ?_
                  refine va_get (D := D) (ci := 5) (v := .int (eI (((n : Nat) : Int) + 1))) (C := R_M) (T := T_M) (N := 23) hx hb htb in_M hown hK hP 0 rfl rfl 1 (by decide) (htb _ tb_589) (fun _ h9 => h9) rfl d_M_station_254 ?_
                  refine lv_iconst (v := eI 1) hx hb d_M_station_257 rfl ?_
                  refine we_isub hx hb d_M_station_258 ?_
                  have hres : (((((n : Nat) : Int) + 1) - 1) : Int) = (if (0 : Int) = 0 then ((n : Nat) : Int) else 0) := by rw [if_pos rfl]; omega
                  rw [hres]
                  subst hQ
                  exact W.iret hx hb hrt (fun t9 ht hW => ⟨⟨(0, 0, ((n : Nat) : Int) + 1, (eh_upd (eh_upd (eh_upd (eh_upd (eh_upd sc (5 * n) x1) (5 * n + 1) x2) (5 * n + 2) x3) (5 * n + 3) (w / 100)) (5 * n + 4) (w % 100)), (eh_upd ln (n - 1) y)), rfl, Or.inr (Or.inr ⟨⟨Or.inr hcas, hx19, hx29, hx39, hw09, hd19, hd29⟩, hn9, rfl, rfl, rfl, rfl, by rw [if_neg hcas.1]⟩), by rw [ht]; exact hP, hD⟩, hS.F ht⟩) hS.2.2 d_M_station_259
              ·
                have hng : ¬ (((n = 0 ∧ y = 0) ∨ (n ≠ 0 ∧ 1 ≤ y ∧ y ≤ 100)) ∧ (-100 ≤ x1 ∧ x1 ≤ 100) ∧ (-100 ≤ x2 ∧ x2 ≤ 100) ∧ (-100 ≤ x3 ∧ x3 ≤ 100) ∧ 0 ≤ w ∧ (1 ≤ w / 100 ∧ w / 100 ≤ 50) ∧ (1 ≤ w % 100 ∧ w % 100 ≤ 50)) := fun q9 => hd29 (by obtain ⟨q1, q2, q3, q4, q5, q6, q7⟩ := q9; exact q7)
                refine lv_aload_n hx hb d_M_station_0 rfl (lv_at hl 0 rfl) ?_
                refine va_get (D := D) (ci := 5) (v := .int (eI ((n : Nat) : Int))) (C := R_M) (T := T_M) (N := 23) hx hb htb in_M hown hK hP 0 rfl rfl 1 (by decide) (htb _ tb_589) (fun _ h9 => h9) rfl d_M_station_1 ?_
                refine we_if_ne (tgt := 19) hx hb (by constructor <;> omega) d_M_station_4 rfl (fun hc4 => ?_) (fun hc4 => absurd hc4 (by omega))
                refine lv_iload_n hx hb d_M_station_19 rfl (lv_at hl 1 rfl) ?_
                refine lv_iconst (v := eI 1) hx hb d_M_station_20 rfl ?_
                refine lv_bipush (v := eI 100) hx hb d_M_station_21 (by decide) ?_
                refine eh_cRS (As := [.int (eI y), .int (eI 1), .int (eI 100)]) (rest := []) (v := .int (eI (if 1 ≤ y ∧ y ≤ 100 then 1 else 0))) hx hb hml hown htb hN (r_M_within l D y 1 100 hy (by omega) (by omega)) 3 ⟨tb_670, tb_671, tb_7, kin_M_within⟩ dv_M_within ⟨by rw [hR1]; decide, by rw [hR2]; decide⟩ hK hP [] rfl [] rfl rfl rfl hl.1 (Nat.le_of_ble_eq_true rfl) d_M_station_23 ⟨Nat.zero_le _, Nat.zero_le _⟩ ?_
                refine lv_istore hx hb d_M_station_26 hl (by decide) rfl (fun ls hl => ?_)
                have hl : lv_has ls 7 [(6, .int (eI (if 1 ≤ y ∧ y ≤ 100 then 1 else 0))), (0, .ref (md 0)), (1, .int (eI y)), (2, .int (eI x1)), (3, .int (eI x2)), (4, .int (eI x3)), (5, .int (eI w))] := hl
                refine lv_iload hx hb d_M_station_28 (lv_at hl 0 rfl) ?_
                refine we_if_eq (tgt := 104) hx hb (by constructor <;> split <;> omega) d_M_station_30 rfl (fun hc30 => absurd hc30 (by rw [if_pos hcas.2]; omega)) (fun hc30 => ?_)
                refine lv_iload_n hx hb d_M_station_33 rfl (lv_at hl 3 rfl) ?_
                refine lv_bipush (v := eI (-100)) hx hb d_M_station_34 (by decide) ?_
                refine lv_bipush (v := eI 100) hx hb d_M_station_36 (by decide) ?_
                refine eh_cRS (As := [.int (eI x1), .int (eI (-100)), .int (eI 100)]) (rest := []) (v := .int (eI (if (-100) ≤ x1 ∧ x1 ≤ 100 then 1 else 0))) hx hb hml hown htb hN (r_M_within l D x1 (-100) 100 hx1 (by omega) (by omega)) 3 ⟨tb_670, tb_671, tb_7, kin_M_within⟩ dv_M_within ⟨by rw [hR1]; decide, by rw [hR2]; decide⟩ hK hP [] rfl [] rfl rfl rfl hl.1 (Nat.le_of_ble_eq_true rfl) d_M_station_38 ⟨Nat.zero_le _, Nat.zero_le _⟩ ?_
                refine we_if_eq (tgt := 104) hx hb (by constructor <;> split <;> omega) d_M_station_41 rfl (fun hc41 => absurd hc41 (by rw [if_pos hx19]; omega)) (fun hc41 => ?_)
                refine lv_iload_n hx hb d_M_station_44 rfl (lv_at hl 4 rfl) ?_
                refine lv_bipush (v := eI (-100)) hx hb d_M_station_45 (by decide) ?_
                refine lv_bipush (v := eI 100) hx hb d_M_station_47 (by decide) ?_
                refine eh_cRS (As := [.int (eI x2), .int (eI (-100)), .int (eI 100)]) (rest := []) (v := .int (eI (if (-100) ≤ x2 ∧ x2 ≤ 100 then 1 else 0))) hx hb hml hown htb hN (r_M_within l D x2 (-100) 100 hx2 (by omega) (by omega)) 3 ⟨tb_670, tb_671, tb_7, kin_M_within⟩ dv_M_within ⟨by rw [hR1]; decide, by rw [hR2]; decide⟩ hK hP [] rfl [] rfl rfl rfl hl.1 (Nat.le_of_ble_eq_true rfl) d_M_station_49 ⟨Nat.zero_le _, Nat.zero_le _⟩ ?_
                refine we_if_eq (tgt := 104) hx hb (by constructor <;> split <;> omega) d_M_station_52 rfl (fun hc52 => absurd hc52 (by rw [if_pos hx29]; omega)) (fun hc52 => ?_)
                refine lv_iload hx hb d_M_station_55 (lv_at hl 5 rfl) ?_
                refine lv_bipush (v := eI (-100)) hx hb d_M_station_57 (by decide) ?_
                refine lv_bipush (v := eI 100) hx hb d_M_station_59 (by decide) ?_
                refine eh_cRS (As := [.int (eI x3), .int (eI (-100)), .int (eI 100)]) (rest := []) (v := .int (eI (if (-100) ≤ x3 ∧ x3 ≤ 100 then 1 else 0))) hx hb hml hown htb hN (r_M_within l D x3 (-100) 100 hx3 (by omega) (by omega)) 3 ⟨tb_670, tb_671, tb_7, kin_M_within⟩ dv_M_within ⟨by rw [hR1]; decide, by rw [hR2]; decide⟩ hK hP [] rfl [] rfl rfl rfl hl.1 (Nat.le_of_ble_eq_true rfl) d_M_station_61 ⟨Nat.zero_le _, Nat.zero_le _⟩ ?_
                refine we_if_eq (tgt := 104) hx hb (by constructor <;> split <;> omega) d_M_station_64 rfl (fun hc64 => absurd hc64 (by rw [if_pos hx39]; omega)) (fun hc64 => ?_)
                refine lv_iload hx hb d_M_station_67 (lv_at hl 6 rfl) ?_
                refine we_if_lt (tgt := 104) hx hb (by constructor <;> omega) d_M_station_69 rfl (fun hc69 => absurd hc69 (by omega)) (fun hc69 => ?_)
                refine lv_iload hx hb d_M_station_72 (lv_at hl 6 rfl) ?_
                refine lv_bipush (v := eI 100) hx hb d_M_station_74 (by decide) ?_
                refine we_idiv hx hb (by constructor <;> omega) (by constructor <;> omega) (by omega) (by omega) d_M_station_76 ?_
                refine lv_iconst (v := eI 1) hx hb d_M_station_77 rfl ?_
                refine lv_bipush (v := eI 50) hx hb d_M_station_78 (by decide) ?_
                refine eh_cRS (As := [.int (eI (w / 100)), .int (eI 1), .int (eI 50)]) (rest := []) (v := .int (eI (if 1 ≤ (w / 100) ∧ (w / 100) ≤ 50 then 1 else 0))) hx hb hml hown htb hN (r_M_within l D (w / 100) 1 50 (by omega) (by omega) (by omega)) 3 ⟨tb_670, tb_671, tb_7, kin_M_within⟩ dv_M_within ⟨by rw [hR1]; decide, by rw [hR2]; decide⟩ hK hP [] rfl [] rfl rfl rfl hl.1 (Nat.le_of_ble_eq_true rfl) d_M_station_80 ⟨Nat.zero_le _, Nat.zero_le _⟩ ?_
                refine we_if_eq (tgt := 104) hx hb (by constructor <;> split <;> omega) d_M_station_83 rfl (fun hc83 => absurd hc83 (by rw [if_pos hd19]; omega)) (fun hc83 => ?_)
                refine lv_iload hx hb d_M_station_86 (lv_at hl 6 rfl) ?_
                refine lv_bipush (v := eI 100) hx hb d_M_station_88 (by decide) ?_
                refine we_irem hx hb (by constructor <;> omega) (by constructor <;> omega) (by omega) (by omega) d_M_station_90 ?_
                refine lv_iconst (v := eI 1) hx hb d_M_station_91 rfl ?_
                refine lv_bipush (v := eI 50) hx hb d_M_station_92 (by decide) ?_
                refine eh_cRS (As := [.int (eI (w % 100)), .int (eI 1), .int (eI 50)]) (rest := []) (v := .int (eI (if 1 ≤ (w % 100) ∧ (w % 100) ≤ 50 then 1 else 0))) hx hb hml hown htb hN (r_M_within l D (w % 100) 1 50 (by omega) (by omega) (by omega)) 3 ⟨tb_670, tb_671, tb_7, kin_M_within⟩ dv_M_within ⟨by rw [hR1]; decide, by rw [hR2]; decide⟩ hK hP [] rfl [] rfl rfl rfl hl.1 (Nat.le_of_ble_eq_true rfl) d_M_station_94 ⟨Nat.zero_le _, Nat.zero_le _⟩ ?_
                refine we_if_eq (tgt := 104) hx hb (by constructor <;> split <;> omega) d_M_station_97 rfl (fun hc97 => ?_) (fun hc97 => absurd hc97 (by rw [if_neg hd29]; omega))
                refine lv_iconst (v := eI 0) hx hb d_M_station_104 rfl ?_
                refine lv_istore hx hb d_M_station_105 hl (by decide) rfl (fun ls hl => ?_)
                have hl : lv_has ls 7 [(6, .int (eI 0)), (0, .ref (md 0)), (1, .int (eI y)), (2, .int (eI x1)), (3, .int (eI x2)), (4, .int (eI x3)), (5, .int (eI w))] := hl
                refine lv_aload_n hx hb d_M_station_107 rfl (lv_at hl 1 rfl) ?_
                refine lv_iload hx hb d_M_station_108 (lv_at hl 0 rfl) ?_
                refine we_if_ne (tgt := 117) hx hb (by constructor <;> omega) d_M_station_110 rfl (fun hc110 => absurd hc110 (by omega)) (fun hc110 => ?_)
                refine lv_iconst (v := eI 1) hx hb d_M_station_113 rfl ?_
                refine lv_goto (tgt := 130) hx hb d_M_station_114 rfl ?_
                refine va_put (D := D) (ci := 5) (v := .int (eI 1)) (ty := .int) (C := R_M) (T := T_M) (N := 23) hx hb htb in_M t_M t_M_ok n_M hown hK hP hD hS 0 rfl rfl 0 (by decide) (htb _ tb_588) (fun _ h9 => h9) rfl (by decide +kernel) rfl rfl (Nat.le_of_ble_eq_true rfl) d_M_station_130 (fun H locs hP hD hS => ?_)
                have hP : va_P D classes [((md 0), .inr (5, [.int (eI 1), .int (eI ((n : Nat) : Int)), .ref (md 1), .ref (md 2), .ref (md 3), .int (eI sh), .int (eI ra), .ref (md 4), .ref (md 5), .ref (md 6), .ref (md 7), .ref (md 8), .long (eL up), .long (eL lw), .ref (md 9), .ref (md 10), .ref (md 11), .ref (md 12), .ref (md 13), .ref (md 14), .ref (md 15), .int (eI kn), .int (eI fo)])), ((md 1), aI cI 25 sc), ((md 2), aI cI 4 ln), ((md 3), aI cZ 4 cb), ((md 4), aI cZ 3 th), ((md 5), aI cI 3 pl), ((md 6), aI cI 3 lo), ((md 7), aI cI 3 pr), ((md 8), aI cI 30 la)] H := hP
                have hD : va_D A [((md 0), .inr (5, [.int (eI 1), .int (eI ((n : Nat) : Int)), .ref (md 1), .ref (md 2), .ref (md 3), .int (eI sh), .int (eI ra), .ref (md 4), .ref (md 5), .ref (md 6), .ref (md 7), .ref (md 8), .long (eL up), .long (eL lw), .ref (md 9), .ref (md 10), .ref (md 11), .ref (md 12), .ref (md 13), .ref (md 14), .ref (md 15), .int (eI kn), .int (eI fo)])), ((md 1), aI cI 25 sc), ((md 2), aI cI 4 ln), ((md 3), aI cZ 4 cb), ((md 4), aI cZ 3 th), ((md 5), aI cI 3 pl), ((md 6), aI cI 3 lo), ((md 7), aI cI 3 pr), ((md 8), aI cI 30 la)] := hD
                refine lv_aload_n hx hb d_M_station_133 rfl (lv_at hl 1 rfl) ?_
                refine va_get (D := D) (ci := 5) (v := .int (eI 1)) (C := R_M) (T := T_M) (N := 23) hx hb htb in_M hown hK hP 0 rfl rfl 0 (by decide) (htb _ tb_588) (fun _ h9 => h9) rfl d_M_station_134 ?_
                refine we_if_le (tgt := 142) hx hb (by constructor <;> omega) d_M_station_137 rfl (fun hc137 => absurd hc137 (by omega)) (fun hc137 => ?_)
                refine lv_iconst (v := eI 0) hx hb d_M_station_140 rfl ?_
                subst hQ
                exact W.iret hx hb hrt (fun t9 ht hW => ⟨⟨(1, kn, ((n : Nat) : Int), sc, ln), rfl, Or.inl ⟨hng, rfl⟩, by rw [ht]; exact hP, hD⟩, hS.F ht⟩) hS.2.2 d_M_station_141
            ·
              have hng : ¬ (((n = 0 ∧ y = 0) ∨ (n ≠ 0 ∧ 1 ≤ y ∧ y ≤ 100)) ∧ (-100 ≤ x1 ∧ x1 ≤ 100) ∧ (-100 ≤ x2 ∧ x2 ≤ 100) ∧ (-100 ≤ x3 ∧ x3 ≤ 100) ∧ 0 ≤ w ∧ (1 ≤ w / 100 ∧ w / 100 ≤ 50) ∧ (1 ≤ w % 100 ∧ w % 100 ≤ 50)) := fun q9 => hd19 (by obtain ⟨q1, q2, q3, q4, q5, q6, q7⟩ := q9; exact q6)
              refine lv_aload_n hx hb d_M_station_0 rfl (lv_at hl 0 rfl) ?_
              refine va_get (D := D) (ci := 5) (v := .int (eI ((n : Nat) : Int))) (C := R_M) (T := T_M) (N := 23) hx hb htb in_M hown hK hP 0 rfl rfl 1 (by decide) (htb _ tb_589) (fun _ h9 => h9) rfl d_M_station_1 ?_
              refine we_if_ne (tgt := 19) hx hb (by constructor <;> omega) d_M_station_4 rfl (fun hc4 => ?_) (fun hc4 => absurd hc4 (by omega))
              refine lv_iload_n hx hb d_M_station_19 rfl (lv_at hl 1 rfl) ?_
              refine lv_iconst (v := eI 1) hx hb d_M_station_20 rfl ?_
              refine lv_bipush (v := eI 100) hx hb d_M_station_21 (by decide) ?_
              refine eh_cRS (As := [.int (eI y), .int (eI 1), .int (eI 100)]) (rest := []) (v := .int (eI (if 1 ≤ y ∧ y ≤ 100 then 1 else 0))) hx hb hml hown htb hN (r_M_within l D y 1 100 hy (by omega) (by omega)) 3 ⟨tb_670, tb_671, tb_7, kin_M_within⟩ dv_M_within ⟨by rw [hR1]; decide, by rw [hR2]; decide⟩ hK hP [] rfl [] rfl rfl rfl hl.1 (Nat.le_of_ble_eq_true rfl) d_M_station_23 ⟨Nat.zero_le _, Nat.zero_le _⟩ ?_
              refine lv_istore hx hb d_M_station_26 hl (by decide) rfl (fun ls hl => ?_)
              have hl : lv_has ls 7 [(6, .int (eI (if 1 ≤ y ∧ y ≤ 100 then 1 else 0))), (0, .ref (md 0)), (1, .int (eI y)), (2, .int (eI x1)), (3, .int (eI x2)), (4, .int (eI x3)), (5, .int (eI w))] := hl
              refine lv_iload hx hb d_M_station_28 (lv_at hl 0 rfl) ?_
              refine we_if_eq (tgt := 104) hx hb (by constructor <;> split <;> omega) d_M_station_30 rfl (fun hc30 => absurd hc30 (by rw [if_pos hcas.2]; omega)) (fun hc30 => ?_)
              refine lv_iload_n hx hb d_M_station_33 rfl (lv_at hl 3 rfl) ?_
              refine lv_bipush (v := eI (-100)) hx hb d_M_station_34 (by decide) ?_
              refine lv_bipush (v := eI 100) hx hb d_M_station_36 (by decide) ?_
              refine eh_cRS (As := [.int (eI x1), .int (eI (-100)), .int (eI 100)]) (rest := []) (v := .int (eI (if (-100) ≤ x1 ∧ x1 ≤ 100 then 1 else 0))) hx hb hml hown htb hN (r_M_within l D x1 (-100) 100 hx1 (by omega) (by omega)) 3 ⟨tb_670, tb_671, tb_7, kin_M_within⟩ dv_M_within ⟨by rw [hR1]; decide, by rw [hR2]; decide⟩ hK hP [] rfl [] rfl rfl rfl hl.1 (Nat.le_of_ble_eq_true rfl) d_M_station_38 ⟨Nat.zero_le _, Nat.zero_le _⟩ ?_
              refine we_if_eq (tgt := 104) hx hb (by constructor <;> split <;> omega) d_M_station_41 rfl (fun hc41 => absurd hc41 (by rw [if_pos hx19]; omega)) (fun hc41 => ?_)
              refine lv_iload_n hx hb d_M_station_44 rfl (lv_at hl 4 rfl) ?_
              refine lv_bipush (v := eI (-100)) hx hb d_M_station_45 (by decide) ?_
              refine lv_bipush (v := eI 100) hx hb d_M_station_47 (by decide) ?_
              refine eh_cRS (As := [.int (eI x2), .int (eI (-100)), .int (eI 100)]) (rest := []) (v := .int (eI (if (-100) ≤ x2 ∧ x2 ≤ 100 then 1 else 0))) hx hb hml hown htb hN (r_M_within l D x2 (-100) 100 hx2 (by omega) (by omega)) 3 ⟨tb_670, tb_671, tb_7, kin_M_within⟩ dv_M_within ⟨by rw [hR1]; decide, by rw [hR2]; decide⟩ hK hP [] rfl [] rfl rfl rfl hl.1 (Nat.le_of_ble_eq_true rfl) d_M_station_49 ⟨Nat.zero_le _, Nat.zero_le _⟩ ?_
              refine we_if_eq (tgt := 104) hx hb (by constructor <;> split <;> omega) d_M_station_52 rfl (fun hc52 => absurd hc52 (by rw [if_pos hx29]; omega)) (fun hc52 => ?_)
              refine lv_iload hx hb d_M_station_55 (lv_at hl 5 rfl) ?_
              refine lv_bipush (v := eI (-100)) hx hb d_M_station_57 (by decide) ?_
              refine lv_bipush (v := eI 100) hx hb d_M_station_59 (by decide) ?_
              refine eh_cRS (As := [.int (eI x3), .int (eI (-100)), .int (eI 100)]) (rest := []) (v := .int (eI (if (-100) ≤ x3 ∧ x3 ≤ 100 then 1 else 0))) hx hb hml hown htb hN (r_M_within l D x3 (-100) 100 hx3 (by omega) (by omega)) 3 ⟨tb_670, tb_671, tb_7, kin_M_within⟩ dv_M_within ⟨by rw [hR1]; decide, by rw [hR2]; decide⟩ hK hP [] rfl [] rfl rfl rfl hl.1 (Nat.le_of_ble_eq_true rfl) d_M_station_61 ⟨Nat.zero_le _, Nat.zero_le _⟩ ?_
              refine we_if_eq (tgt := 104) hx hb (by constructor <;> split <;> omega) d_M_station_64 rfl (fun hc64 => absurd hc64 (by rw [if_pos hx39]; omega)) (fun hc64 => ?_)
              refine lv_iload hx hb d_M_station_67 (lv_at hl 6 rfl) ?_
              refine we_if_lt (tgt := 104) hx hb (by constructor <;> omega) d_M_station_69 rfl (fun hc69 => absurd hc69 (by omega)) (fun hc69 => ?_)
              refine lv_iload hx hb d_M_station_72 (lv_at hl 6 rfl) ?_
              refine lv_bipush (v := eI 100) hx hb d_M_station_74 (by decide) ?_
              refine we_idiv hx hb (by constructor <;> omega) (by constructor <;> omega) (by omega) (by omega) d_M_station_76 ?_
              refine lv_iconst (v := eI 1) hx hb d_M_station_77 rfl ?_
              refine lv_bipush (v := eI 50) hx hb d_M_station_78 (by decide) ?_
              refine eh_cRS (As := [.int (eI (w / 100)), .int (eI 1), .int (eI 50)]) (rest := []) (v := .int (eI (if 1 ≤ (w / 100) ∧ (w / 100) ≤ 50 then 1 else 0))) hx hb hml hown htb hN (r_M_within l D (w / 100) 1 50 (by omega) (by omega) (by omega)) 3 ⟨tb_670, tb_671, tb_7, kin_M_within⟩ dv_M_within ⟨by rw [hR1]; decide, by rw [hR2]; decide⟩ hK hP [] rfl [] rfl rfl rfl hl.1 (Nat.le_of_ble_eq_true rfl) d_M_station_80 ⟨Nat.zero_le _, Nat.zero_le _⟩ ?_
              refine we_if_eq (tgt := 104) hx hb (by constructor <;> split <;> omega) d_M_station_83 rfl (fun hc83 => ?_) (fun hc83 => absurd hc83 (by rw [if_neg hd19]; omega))
              refine lv_iconst (v := eI 0) hx hb d_M_station_104 rfl ?_
              refine lv_istore hx hb d_M_station_105 hl (by decide) rfl (fun ls hl => ?_)
              have hl : lv_has ls 7 [(6, .int (eI 0)), (0, .ref (md 0)), (1, .int (eI y)), (2, .int (eI x1)), (3, .int (eI x2)), (4, .int (eI x3)), (5, .int (eI w))] := hl
              refine lv_aload_n hx hb d_M_station_107 rfl (lv_at hl 1 rfl) ?_
              refine lv_iload hx hb d_M_station_108 (lv_at hl 0 rfl) ?_
              refine we_if_ne (tgt := 117) hx hb (by constructor <;> omega) d_M_station_110 rfl (fun hc110 => absurd hc110 (by omega)) (fun hc110 => ?_)
              refine lv_iconst (v := eI 1) hx hb d_M_station_113 rfl ?_
              refine lv_goto (tgt := 130) hx hb d_M_station_114 rfl ?_
              refine va_put (D := D) (ci := 5) (v := .int (eI 1)) (ty := .int) (C := R_M) (T := T_M) (N := 23) hx hb htb in_M t_M t_M_ok n_M hown hK hP hD hS 0 rfl rfl 0 (by decide) (htb _ tb_588) (fun _ h9 => h9) rfl (by decide +kernel) rfl rfl (Nat.le_of_ble_eq_true rfl) d_M_station_130 (fun H locs hP hD hS => ?_)
              have hP : va_P D classes [((md 0), .inr (5, [.int (eI 1), .int (eI ((n : Nat) : Int)), .ref (md 1), .ref (md 2), .ref (md 3), .int (eI sh), .int (eI ra), .ref (md 4), .ref (md 5), .ref (md 6), .ref (md 7), .ref (md 8), .long (eL up), .long (eL lw), .ref (md 9), .ref (md 10), .ref (md 11), .ref (md 12), .ref (md 13), .ref (md 14), .ref (md 15), .int (eI kn), .int (eI fo)])), ((md 1), aI cI 25 sc), ((md 2), aI cI 4 ln), ((md 3), aI cZ 4 cb), ((md 4), aI cZ 3 th), ((md 5), aI cI 3 pl), ((md 6), aI cI 3 lo), ((md 7), aI cI 3 pr), ((md 8), aI cI 30 la)] H := hP
              have hD : va_D A [((md 0), .inr (5, [.int (eI 1), .int (eI ((n : Nat) : Int)), .ref (md 1), .ref (md 2), .ref (md 3), .int (eI sh), .int (eI ra), .ref (md 4), .ref (md 5), .ref (md 6), .ref (md 7), .ref (md 8), .long (eL up), .long (eL lw), .ref (md 9), .ref (md 10), .ref (md 11), .ref (md 12), .ref (md 13), .ref (md 14), .ref (md 15), .int (eI kn), .int (eI fo)])), ((md 1), aI cI 25 sc), ((md 2), aI cI 4 ln), ((md 3), aI cZ 4 cb), ((md 4), aI cZ 3 th), ((md 5), aI cI 3 pl), ((md 6), aI cI 3 lo), ((md 7), aI cI 3 pr), ((md 8), aI cI 30 la)] := hD
              refine lv_aload_n hx hb d_M_station_133 rfl (lv_at hl 1 rfl) ?_
              refine va_get (D := D) (ci := 5) (v := .int (eI 1)) (C := R_M) (T := T_M) (N := 23) hx hb htb in_M hown hK hP 0 rfl rfl 0 (by decide) (htb _ tb_588) (fun _ h9 => h9) rfl d_M_station_134 ?_
              refine we_if_le (tgt := 142) hx hb (by constructor <;> omega) d_M_station_137 rfl (fun hc137 => absurd hc137 (by omega)) (fun hc137 => ?_)
              refine lv_iconst (v := eI 0) hx hb d_M_station_140 rfl ?_
              subst hQ
              exact W.iret hx hb hrt (fun t9 ht hW => ⟨⟨(1, kn, ((n : Nat) : Int), sc, ln), rfl, Or.inl ⟨hng, rfl⟩, by rw [ht]; exact hP, hD⟩, hS.F ht⟩) hS.2.2 d_M_station_141
          ·
            have hng : ¬ (((n = 0 ∧ y = 0) ∨ (n ≠ 0 ∧ 1 ≤ y ∧ y ≤ 100)) ∧ (-100 ≤ x1 ∧ x1 ≤ 100) ∧ (-100 ≤ x2 ∧ x2 ≤ 100) ∧ (-100 ≤ x3 ∧ x3 ≤ 100) ∧ 0 ≤ w ∧ (1 ≤ w / 100 ∧ w / 100 ≤ 50) ∧ (1 ≤ w % 100 ∧ w % 100 ≤ 50)) := fun q9 => hw09 (by obtain ⟨q1, q2, q3, q4, q5, q6, q7⟩ := q9; exact q5)
            refine lv_aload_n hx hb d_M_station_0 rfl (lv_at hl 0 rfl) ?_
            refine va_get (D := D) (ci := 5) (v := .int (eI ((n : Nat) : Int))) (C := R_M) (T := T_M) (N := 23) hx hb htb in_M hown hK hP 0 rfl rfl 1 (by decide) (htb _ tb_589) (fun _ h9 => h9) rfl d_M_station_1 ?_
            refine we_if_ne (tgt := 19) hx hb (by constructor <;> omega) d_M_station_4 rfl (fun hc4 => ?_) (fun hc4 => absurd hc4 (by omega))
            refine lv_iload_n hx hb d_M_station_19 rfl (lv_at hl 1 rfl) ?_
            refine lv_iconst (v := eI 1) hx hb d_M_station_20 rfl ?_
            refine lv_bipush (v := eI 100) hx hb d_M_station_21 (by decide) ?_
            refine eh_cRS (As := [.int (eI y), .int (eI 1), .int (eI 100)]) (rest := []) (v := .int (eI (if 1 ≤ y ∧ y ≤ 100 then 1 else 0))) hx hb hml hown htb hN (r_M_within l D y 1 100 hy (by omega) (by omega)) 3 ⟨tb_670, tb_671, tb_7, kin_M_within⟩ dv_M_within ⟨by rw [hR1]; decide, by rw [hR2]; decide⟩ hK hP [] rfl [] rfl rfl rfl hl.1 (Nat.le_of_ble_eq_true rfl) d_M_station_23 ⟨Nat.zero_le _, Nat.zero_le _⟩ ?_
            refine lv_istore hx hb d_M_station_26 hl (by decide) rfl (fun ls hl => ?_)
            have hl : lv_has ls 7 [(6, .int (eI (if 1 ≤ y ∧ y ≤ 100 then 1 else 0))), (0, .ref (md 0)), (1, .int (eI y)), (2, .int (eI x1)), (3, .int (eI x2)), (4, .int (eI x3)), (5, .int (eI w))] := hl
            refine lv_iload hx hb d_M_station_28 (lv_at hl 0 rfl) ?_
            refine we_if_eq (tgt := 104) hx hb (by constructor <;> split <;> omega) d_M_station_30 rfl (fun hc30 => absurd hc30 (by rw [if_pos hcas.2]; omega)) (fun hc30 => ?_)
            refine lv_iload_n hx hb d_M_station_33 rfl (lv_at hl 3 rfl) ?_
            refine lv_bipush (v := eI (-100)) hx hb d_M_station_34 (by decide) ?_
            refine lv_bipush (v := eI 100) hx hb d_M_station_36 (by decide) ?_
            refine eh_cRS (As := [.int (eI x1), .int (eI (-100)), .int (eI 100)]) (rest := []) (v := .int (eI (if (-100) ≤ x1 ∧ x1 ≤ 100 then 1 else 0))) hx hb hml hown htb hN (r_M_within l D x1 (-100) 100 hx1 (by omega) (by omega)) 3 ⟨tb_670, tb_671, tb_7, kin_M_within⟩ dv_M_within ⟨by rw [hR1]; decide, by rw [hR2]; decide⟩ hK hP [] rfl [] rfl rfl rfl hl.1 (Nat.le_of_ble_eq_true rfl) d_M_station_38 ⟨Nat.zero_le _, Nat.zero_le _⟩ ?_
            refine we_if_eq (tgt := 104) hx hb (by constructor <;> split <;> omega) d_M_station_41 rfl (fun hc41 => absurd hc41 (by rw [if_pos hx19]; omega)) (fun hc41 => ?_)
            refine lv_iload_n hx hb d_M_station_44 rfl (lv_at hl 4 rfl) ?_
            refine lv_bipush (v := eI (-100)) hx hb d_M_station_45 (by decide) ?_
            refine lv_bipush (v := eI 100) hx hb d_M_station_47 (by decide) ?_
            refine eh_cRS (As := [.int (eI x2), .int (eI (-100)), .int (eI 100)]) (rest := []) (v := .int (eI (if (-100) ≤ x2 ∧ x2 ≤ 100 then 1 else 0))) hx hb hml hown htb hN (r_M_within l D x2 (-100) 100 hx2 (by omega) (by omega)) 3 ⟨tb_670, tb_671, tb_7, kin_M_within⟩ dv_M_within ⟨by rw [hR1]; decide, by rw [hR2]; decide⟩ hK hP [] rfl [] rfl rfl rfl hl.1 (Nat.le_of_ble_eq_true rfl) d_M_station_49 ⟨Nat.zero_le _, Nat.zero_le _⟩ ?_
            refine we_if_eq (tgt := 104) hx hb (by constructor <;> split <;> omega) d_M_station_52 rfl (fun hc52 => absurd hc52 (by rw [if_pos hx29]; omega)) (fun hc52 => ?_)
            refine lv_iload hx hb d_M_station_55 (lv_at hl 5 rfl) ?_
            refine lv_bipush (v := eI (-100)) hx hb d_M_station_57 (by decide) ?_
            refine lv_bipush (v := eI 100) hx hb d_M_station_59 (by decide) ?_
            refine eh_cRS (As := [.int (eI x3), .int (eI (-100)), .int (eI 100)]) (rest := []) (v := .int (eI (if (-100) ≤ x3 ∧ x3 ≤ 100 then 1 else 0))) hx hb hml hown htb hN (r_M_within l D x3 (-100) 100 hx3 (by omega) (by omega)) 3 ⟨tb_670, tb_671, tb_7, kin_M_within⟩ dv_M_within ⟨by rw [hR1]; decide, by rw [hR2]; decide⟩ hK hP [] rfl [] rfl rfl rfl hl.1 (Nat.le_of_ble_eq_true rfl) d_M_station_61 ⟨Nat.zero_le _, Nat.zero_le _⟩ ?_
            refine we_if_eq (tgt := 104) hx hb (by constructor <;> split <;> omega) d_M_station_64 rfl (fun hc64 => absurd hc64 (by rw [if_pos hx39]; omega)) (fun hc64 => ?_)
            refine lv_iload hx hb d_M_station_67 (lv_at hl 6 rfl) ?_
            refine we_if_lt (tgt := 104) hx hb (by constructor <;> omega) d_M_station_69 rfl (fun hc69 => ?_) (fun hc69 => absurd hc69 (by omega))
            refine lv_iconst (v := eI 0) hx hb d_M_station_104 rfl ?_
            refine lv_istore hx hb d_M_station_105 hl (by decide) rfl (fun ls hl => ?_)
            have hl : lv_has ls 7 [(6, .int (eI 0)), (0, .ref (md 0)), (1, .int (eI y)), (2, .int (eI x1)), (3, .int (eI x2)), (4, .int (eI x3)), (5, .int (eI w))] := hl
            refine lv_aload_n hx hb d_M_station_107 rfl (lv_at hl 1 rfl) ?_
            refine lv_iload hx hb d_M_station_108 (lv_at hl 0 rfl) ?_
            refine we_if_ne (tgt := 117) hx hb (by constructor <;> omega) d_M_station_110 rfl (fun hc110 => absurd hc110 (by omega)) (fun hc110 => ?_)
            refine lv_iconst (v := eI 1) hx hb d_M_station_113 rfl ?_
            refine lv_goto (tgt := 130) hx hb d_M_station_114 rfl ?_
            refine va_put (D := D) (ci := 5) (v := .int (eI 1)) (ty := .int) (C := R_M) (T := T_M) (N := 23) hx hb htb in_M t_M t_M_ok n_M hown hK hP hD hS 0 rfl rfl 0 (by decide) (htb _ tb_588) (fun _ h9 => h9) rfl (by decide +kernel) rfl rfl (Nat.le_of_ble_eq_true rfl) d_M_station_130 (fun H locs hP hD hS => ?_)
            have hP : va_P D classes [((md 0), .inr (5, [.int (eI 1), .int (eI ((n : Nat) : Int)), .ref (md 1), .ref (md 2), .ref (md 3), .int (eI sh), .int (eI ra), .ref (md 4), .ref (md 5), .ref (md 6), .ref (md 7), .ref (md 8), .long (eL up), .long (eL lw), .ref (md 9), .ref (md 10), .ref (md 11), .ref (md 12), .ref (md 13), .ref (md 14), .ref (md 15), .int (eI kn), .int (eI fo)])), ((md 1), aI cI 25 sc), ((md 2), aI cI 4 ln), ((md 3), aI cZ 4 cb), ((md 4), aI cZ 3 th), ((md 5), aI cI 3 pl), ((md 6), aI cI 3 lo), ((md 7), aI cI 3 pr), ((md 8), aI cI 30 la)] H := hP
            have hD : va_D A [((md 0), .inr (5, [.int (eI 1), .int (eI ((n : Nat) : Int)), .ref (md 1), .ref (md 2), .ref (md 3), .int (eI sh), .int (eI ra), .ref (md 4), .ref (md 5), .ref (md 6), .ref (md 7), .ref (md 8), .long (eL up), .long (eL lw), .ref (md 9), .ref (md 10), .ref (md 11), .ref (md 12), .ref (md 13), .ref (md 14), .ref (md 15), .int (eI kn), .int (eI fo)])), ((md 1), aI cI 25 sc), ((md 2), aI cI 4 ln), ((md 3), aI cZ 4 cb), ((md 4), aI cZ 3 th), ((md 5), aI cI 3 pl), ((md 6), aI cI 3 lo), ((md 7), aI cI 3 pr), ((md 8), aI cI 30 la)] := hD
            refine lv_aload_n hx hb d_M_station_133 rfl (lv_at hl 1 rfl) ?_
            refine va_get (D := D) (ci := 5) (v := .int (eI 1)) (C := R_M) (T := T_M) (N := 23) hx hb htb in_M hown hK hP 0 rfl rfl 0 (by decide) (htb _ tb_588) (fun _ h9 => h9) rfl d_M_station_134 ?_
            refine we_if_le (tgt := 142) hx hb (by constructor <;> omega) d_M_station_137 rfl (fun hc137 => absurd hc137 (by omega)) (fun hc137 => ?_)
            refine lv_iconst (v := eI 0) hx hb d_M_station_140 rfl ?_
            subst hQ
            exact W.iret hx hb hrt (fun t9 ht hW => ⟨⟨(1, kn, ((n : Nat) : Int), sc, ln), rfl, Or.inl ⟨hng, rfl⟩, by rw [ht]; exact hP, hD⟩, hS.F ht⟩) hS.2.2 d_M_station_141
        ·
          have hng : ¬ (((n = 0 ∧ y = 0) ∨ (n ≠ 0 ∧ 1 ≤ y ∧ y ≤ 100)) ∧ (-100 ≤ x1 ∧ x1 ≤ 100) ∧ (-100 ≤ x2 ∧ x2 ≤ 100) ∧ (-100 ≤ x3 ∧ x3 ≤ 100) ∧ 0 ≤ w ∧ (1 ≤ w / 100 ∧ w / 100 ≤ 50) ∧ (1 ≤ w % 100 ∧ w % 100 ≤ 50)) := fun q9 => hx39 (by obtain ⟨q1, q2, q3, q4, q5, q6, q7⟩ := q9; exact q4)
          refine lv_aload_n hx hb d_M_station_0 rfl (lv_at hl 0 rfl) ?_
          refine va_get (D := D) (ci := 5) (v := .int (eI ((n : Nat) : Int))) (C := R_M) (T := T_M) (N := 23) hx hb htb in_M hown hK hP 0 rfl rfl 1 (by decide) (htb _ tb_589) (fun _ h9 => h9) rfl d_M_station_1 ?_
          refine we_if_ne (tgt := 19) hx hb (by constructor <;> omega) d_M_station_4 rfl (fun hc4 => ?_) (fun hc4 => absurd hc4 (by omega))
          refine lv_iload_n hx hb d_M_station_19 rfl (lv_at hl 1 rfl) ?_
          refine lv_iconst (v := eI 1) hx hb d_M_station_20 rfl ?_
          refine lv_bipush (v := eI 100) hx hb d_M_station_21 (by decide) ?_
          refine eh_cRS (As := [.int (eI y), .int (eI 1), .int (eI 100)]) (rest := []) (v := .int (eI (if 1 ≤ y ∧ y ≤ 100 then 1 else 0))) hx hb hml hown htb hN (r_M_within l D y 1 100 hy (by omega) (by omega)) 3 ⟨tb_670, tb_671, tb_7, kin_M_within⟩ dv_M_within ⟨by rw [hR1]; decide, by rw [hR2]; decide⟩ hK hP [] rfl [] rfl rfl rfl hl.1 (Nat.le_of_ble_eq_true rfl) d_M_station_23 ⟨Nat.zero_le _, Nat.zero_le _⟩ ?_
          refine lv_istore hx hb d_M_station_26 hl (by decide) rfl (fun ls hl => ?_)
          have hl : lv_has ls 7 [(6, .int (eI (if 1 ≤ y ∧ y ≤ 100 then 1 else 0))), (0, .ref (md 0)), (1, .int (eI y)), (2, .int (eI x1)), (3, .int (eI x2)), (4, .int (eI x3)), (5, .int (eI w))] := hl
          refine lv_iload hx hb d_M_station_28 (lv_at hl 0 rfl) ?_
          refine we_if_eq (tgt := 104) hx hb (by constructor <;> split <;> omega) d_M_station_30 rfl (fun hc30 => absurd hc30 (by rw [if_pos hcas.2]; omega)) (fun hc30 => ?_)
          refine lv_iload_n hx hb d_M_station_33 rfl (lv_at hl 3 rfl) ?_
          refine lv_bipush (v := eI (-100)) hx hb d_M_station_34 (by decide) ?_
          refine lv_bipush (v := eI 100) hx hb d_M_station_36 (by decide) ?_
          refine eh_cRS (As := [.int (eI x1), .int (eI (-100)), .int (eI 100)]) (rest := []) (v := .int (eI (if (-100) ≤ x1 ∧ x1 ≤ 100 then 1 else 0))) hx hb hml hown htb hN (r_M_within l D x1 (-100) 100 hx1 (by omega) (by omega)) 3 ⟨tb_670, tb_671, tb_7, kin_M_within⟩ dv_M_within ⟨by rw [hR1]; decide, by rw [hR2]; decide⟩ hK hP [] rfl [] rfl rfl rfl hl.1 (Nat.le_of_ble_eq_true rfl) d_M_station_38 ⟨Nat.zero_le _, Nat.zero_le _⟩ ?_
          refine we_if_eq (tgt := 104) hx hb (by constructor <;> split <;> omega) d_M_station_41 rfl (fun hc41 => absurd hc41 (by rw [if_pos hx19]; omega)) (fun hc41 => ?_)
          refine lv_iload_n hx hb d_M_station_44 rfl (lv_at hl 4 rfl) ?_
          refine lv_bipush (v := eI (-100)) hx hb d_M_station_45 (by decide) ?_
          refine lv_bipush (v := eI 100) hx hb d_M_station_47 (by decide) ?_
          refine eh_cRS (As := [.int (eI x2), .int (eI (-100)), .int (eI 100)]) (rest := []) (v := .int (eI (if (-100) ≤ x2 ∧ x2 ≤ 100 then 1 else 0))) hx hb hml hown htb hN (r_M_within l D x2 (-100) 100 hx2 (by omega) (by omega)) 3 ⟨tb_670, tb_671, tb_7, kin_M_within⟩ dv_M_within ⟨by rw [hR1]; decide, by rw [hR2]; decide⟩ hK hP [] rfl [] rfl rfl rfl hl.1 (Nat.le_of_ble_eq_true rfl) d_M_station_49 ⟨Nat.zero_le _, Nat.zero_le _⟩ ?_
          refine we_if_eq (tgt := 104) hx hb (by constructor <;> split <;> omega) d_M_station_52 rfl (fun hc52 => absurd hc52 (by rw [if_pos hx29]; omega)) (fun hc52 => ?_)
          refine lv_iload hx hb d_M_station_55 (lv_at hl 5 rfl) ?_
          refine lv_bipush (v := eI (-100)) hx hb d_M_station_57 (by decide) ?_
          refine lv_bipush (v := eI 100) hx hb d_M_station_59 (by decide) ?_
          refine eh_cRS (As := [.int (eI x3), .int (eI (-100)), .int (eI 100)]) (rest := []) (v := .int (eI (if (-100) ≤ x3 ∧ x3 ≤ 100 then 1 else 0))) hx hb hml hown htb hN (r_M_within l D x3 (-100) 100 hx3 (by omega) (by omega)) 3 ⟨tb_670, tb_671, tb_7, kin_M_within⟩ dv_M_within ⟨by rw [hR1]; decide, by rw [hR2]; decide⟩ hK hP [] rfl [] rfl rfl rfl hl.1 (Nat.le_of_ble_eq_true rfl) d_M_station_61 ⟨Nat.zero_le _, Nat.zero_le _⟩ ?_
          refine we_if_eq (tgt := 104) hx hb (by constructor <;> split <;> omega) d_M_station_64 rfl (fun hc64 => ?_) (fun hc64 => absurd hc64 (by rw [if_neg hx39]; omega))
          refine lv_iconst (v := eI 0) hx hb d_M_station_104 rfl ?_
          refine lv_istore hx hb d_M_station_105 hl (by decide) rfl (fun ls hl => ?_)
          have hl : lv_has ls 7 [(6, .int (eI 0)), (0, .ref (md 0)), (1, .int (eI y)), (2, .int (eI x1)), (3, .int (eI x2)), (4, .int (eI x3)), (5, .int (eI w))] := hl
          refine lv_aload_n hx hb d_M_station_107 rfl (lv_at hl 1 rfl) ?_
          refine lv_iload hx hb d_M_station_108 (lv_at hl 0 rfl) ?_
          refine we_if_ne (tgt := 117) hx hb (by constructor <;> omega) d_M_station_110 rfl (fun hc110 => absurd hc110 (by omega)) (fun hc110 => ?_)
          refine lv_iconst (v := eI 1) hx hb d_M_station_113 rfl ?_
          refine lv_goto (tgt := 130) hx hb d_M_station_114 rfl ?_
          refine va_put (D := D) (ci := 5) (v := .int (eI 1)) (ty := .int) (C := R_M) (T := T_M) (N := 23) hx hb htb in_M t_M t_M_ok n_M hown hK hP hD hS 0 rfl rfl 0 (by decide) (htb _ tb_588) (fun _ h9 => h9) rfl (by decide +kernel) rfl rfl (Nat.le_of_ble_eq_true rfl) d_M_station_130 (fun H locs hP hD hS => ?_)
          have hP : va_P D classes [((md 0), .inr (5, [.int (eI 1), .int (eI ((n : Nat) : Int)), .ref (md 1), .ref (md 2), .ref (md 3), .int (eI sh), .int (eI ra), .ref (md 4), .ref (md 5), .ref (md 6), .ref (md 7), .ref (md 8), .long (eL up), .long (eL lw), .ref (md 9), .ref (md 10), .ref (md 11), .ref (md 12), .ref (md 13), .ref (md 14), .ref (md 15), .int (eI kn), .int (eI fo)])), ((md 1), aI cI 25 sc), ((md 2), aI cI 4 ln), ((md 3), aI cZ 4 cb), ((md 4), aI cZ 3 th), ((md 5), aI cI 3 pl), ((md 6), aI cI 3 lo), ((md 7), aI cI 3 pr), ((md 8), aI cI 30 la)] H := hP
          have hD : va_D A [((md 0), .inr (5, [.int (eI 1), .int (eI ((n : Nat) : Int)), .ref (md 1), .ref (md 2), .ref (md 3), .int (eI sh), .int (eI ra), .ref (md 4), .ref (md 5), .ref (md 6), .ref (md 7), .ref (md 8), .long (eL up), .long (eL lw), .ref (md 9), .ref (md 10), .ref (md 11), .ref (md 12), .ref (md 13), .ref (md 14), .ref (md 15), .int (eI kn), .int (eI fo)])), ((md 1), aI cI 25 sc), ((md 2), aI cI 4 ln), ((md 3), aI cZ 4 cb), ((md 4), aI cZ 3 th), ((md 5), aI cI 3 pl), ((md 6), aI cI 3 lo), ((md 7), aI cI 3 pr), ((md 8), aI cI 30 la)] := hD
          refine lv_aload_n hx hb d_M_station_133 rfl (lv_at hl 1 rfl) ?_
          refine va_get (D := D) (ci := 5) (v := .int (eI 1)) (C := R_M) (T := T_M) (N := 23) hx hb htb in_M hown hK hP 0 rfl rfl 0 (by decide) (htb _ tb_588) (fun _ h9 => h9) rfl d_M_station_134 ?_
          refine we_if_le (tgt := 142) hx hb (by constructor <;> omega) d_M_station_137 rfl (fun hc137 => absurd hc137 (by omega)) (fun hc137 => ?_)
          refine lv_iconst (v := eI 0) hx hb d_M_station_140 rfl ?_
          subst hQ
          exact W.iret hx hb hrt (fun t9 ht hW => ⟨⟨(1, kn, ((n : Nat) : Int), sc, ln), rfl, Or.inl ⟨hng, rfl⟩, by rw [ht]; exact hP, hD⟩, hS.F ht⟩) hS.2.2 d_M_station_141
      ·
        have hng : ¬ (((n = 0 ∧ y = 0) ∨ (n ≠ 0 ∧ 1 ≤ y ∧ y ≤ 100)) ∧ (-100 ≤ x1 ∧ x1 ≤ 100) ∧ (-100 ≤ x2 ∧ x2 ≤ 100) ∧ (-100 ≤ x3 ∧ x3 ≤ 100) ∧ 0 ≤ w ∧ (1 ≤ w / 100 ∧ w / 100 ≤ 50) ∧ (1 ≤ w % 100 ∧ w % 100 ≤ 50)) := fun q9 => hx29 (by obtain ⟨q1, q2, q3, q4, q5, q6, q7⟩ := q9; exact q3)
        refine lv_aload_n hx hb d_M_station_0 rfl (lv_at hl 0 rfl) ?_
        refine va_get (D := D) (ci := 5) (v := .int (eI ((n : Nat) : Int))) (C := R_M) (T := T_M) (N := 23) hx hb htb in_M hown hK hP 0 rfl rfl 1 (by decide) (htb _ tb_589) (fun _ h9 => h9) rfl d_M_station_1 ?_
        refine we_if_ne (tgt := 19) hx hb (by constructor <;> omega) d_M_station_4 rfl (fun hc4 => ?_) (fun hc4 => absurd hc4 (by omega))
        refine lv_iload_n hx hb d_M_station_19 rfl (lv_at hl 1 rfl) ?_
        refine lv_iconst (v := eI 1) hx hb d_M_station_20 rfl ?_
        refine lv_bipush (v := eI 100) hx hb d_M_station_21 (by decide) ?_
        refine eh_cRS (As := [.int (eI y), .int (eI 1), .int (eI 100)]) (rest := []) (v := .int (eI (if 1 ≤ y ∧ y ≤ 100 then 1 else 0))) hx hb hml hown htb hN (r_M_within l D y 1 100 hy (by omega) (by omega)) 3 ⟨tb_670, tb_671, tb_7, kin_M_within⟩ dv_M_within ⟨by rw [hR1]; decide, by rw [hR2]; decide⟩ hK hP [] rfl [] rfl rfl rfl hl.1 (Nat.le_of_ble_eq_true rfl) d_M_station_23 ⟨Nat.zero_le _, Nat.zero_le _⟩ ?_
        refine lv_istore hx hb d_M_station_26 hl (by decide) rfl (fun ls hl => ?_)
        have hl : lv_has ls 7 [(6, .int (eI (if 1 ≤ y ∧ y ≤ 100 then 1 else 0))), (0, .ref (md 0)), (1, .int (eI y)), (2, .int (eI x1)), (3, .int (eI x2)), (4, .int (eI x3)), (5, .int (eI w))] := hl
        refine lv_iload hx hb d_M_station_28 (lv_at hl 0 rfl) ?_
        refine we_if_eq (tgt := 104) hx hb (by constructor <;> split <;> omega) d_M_station_30 rfl (fun hc30 => absurd hc30 (by rw [if_pos hcas.2]; omega)) (fun hc30 => ?_)
        refine lv_iload_n hx hb d_M_station_33 rfl (lv_at hl 3 rfl) ?_
        refine lv_bipush (v := eI (-100)) hx hb d_M_station_34 (by decide) ?_
        refine lv_bipush (v := eI 100) hx hb d_M_station_36 (by decide) ?_
        refine eh_cRS (As := [.int (eI x1), .int (eI (-100)), .int (eI 100)]) (rest := []) (v := .int (eI (if (-100) ≤ x1 ∧ x1 ≤ 100 then 1 else 0))) hx hb hml hown htb hN (r_M_within l D x1 (-100) 100 hx1 (by omega) (by omega)) 3 ⟨tb_670, tb_671, tb_7, kin_M_within⟩ dv_M_within ⟨by rw [hR1]; decide, by rw [hR2]; decide⟩ hK hP [] rfl [] rfl rfl rfl hl.1 (Nat.le_of_ble_eq_true rfl) d_M_station_38 ⟨Nat.zero_le _, Nat.zero_le _⟩ ?_
        refine we_if_eq (tgt := 104) hx hb (by constructor <;> split <;> omega) d_M_station_41 rfl (fun hc41 => absurd hc41 (by rw [if_pos hx19]; omega)) (fun hc41 => ?_)
        refine lv_iload_n hx hb d_M_station_44 rfl (lv_at hl 4 rfl) ?_
        refine lv_bipush (v := eI (-100)) hx hb d_M_station_45 (by decide) ?_
        refine lv_bipush (v := eI 100) hx hb d_M_station_47 (by decide) ?_
        refine eh_cRS (As := [.int (eI x2), .int (eI (-100)), .int (eI 100)]) (rest := []) (v := .int (eI (if (-100) ≤ x2 ∧ x2 ≤ 100 then 1 else 0))) hx hb hml hown htb hN (r_M_within l D x2 (-100) 100 hx2 (by omega) (by omega)) 3 ⟨tb_670, tb_671, tb_7, kin_M_within⟩ dv_M_within ⟨by rw [hR1]; decide, by rw [hR2]; decide⟩ hK hP [] rfl [] rfl rfl rfl hl.1 (Nat.le_of_ble_eq_true rfl) d_M_station_49 ⟨Nat.zero_le _, Nat.zero_le _⟩ ?_
        refine we_if_eq (tgt := 104) hx hb (by constructor <;> split <;> omega) d_M_station_52 rfl (fun hc52 => ?_) (fun hc52 => absurd hc52 (by rw [if_neg hx29]; omega))
        refine lv_iconst (v := eI 0) hx hb d_M_station_104 rfl ?_
        refine lv_istore hx hb d_M_station_105 hl (by decide) rfl (fun ls hl => ?_)
        have hl : lv_has ls 7 [(6, .int (eI 0)), (0, .ref (md 0)), (1, .int (eI y)), (2, .int (eI x1)), (3, .int (eI x2)), (4, .int (eI x3)), (5, .int (eI w))] := hl
        refine lv_aload_n hx hb d_M_station_107 rfl (lv_at hl 1 rfl) ?_
        refine lv_iload hx hb d_M_station_108 (lv_at hl 0 rfl) ?_
        refine we_if_ne (tgt := 117) hx hb (by constructor <;> omega) d_M_station_110 rfl (fun hc110 => absurd hc110 (by omega)) (fun hc110 => ?_)
        refine lv_iconst (v := eI 1) hx hb d_M_station_113 rfl ?_
        refine lv_goto (tgt := 130) hx hb d_M_station_114 rfl ?_
        refine va_put (D := D) (ci := 5) (v := .int (eI 1)) (ty := .int) (C := R_M) (T := T_M) (N := 23) hx hb htb in_M t_M t_M_ok n_M hown hK hP hD hS 0 rfl rfl 0 (by decide) (htb _ tb_588) (fun _ h9 => h9) rfl (by decide +kernel) rfl rfl (Nat.le_of_ble_eq_true rfl) d_M_station_130 (fun H locs hP hD hS => ?_)
        have hP : va_P D classes [((md 0), .inr (5, [.int (eI 1), .int (eI ((n : Nat) : Int)), .ref (md 1), .ref (md 2), .ref (md 3), .int (eI sh), .int (eI ra), .ref (md 4), .ref (md 5), .ref (md 6), .ref (md 7), .ref (md 8), .long (eL up), .long (eL lw), .ref (md 9), .ref (md 10), .ref (md 11), .ref (md 12), .ref (md 13), .ref (md 14), .ref (md 15), .int (eI kn), .int (eI fo)])), ((md 1), aI cI 25 sc), ((md 2), aI cI 4 ln), ((md 3), aI cZ 4 cb), ((md 4), aI cZ 3 th), ((md 5), aI cI 3 pl), ((md 6), aI cI 3 lo), ((md 7), aI cI 3 pr), ((md 8), aI cI 30 la)] H := hP
        have hD : va_D A [((md 0), .inr (5, [.int (eI 1), .int (eI ((n : Nat) : Int)), .ref (md 1), .ref (md 2), .ref (md 3), .int (eI sh), .int (eI ra), .ref (md 4), .ref (md 5), .ref (md 6), .ref (md 7), .ref (md 8), .long (eL up), .long (eL lw), .ref (md 9), .ref (md 10), .ref (md 11), .ref (md 12), .ref (md 13), .ref (md 14), .ref (md 15), .int (eI kn), .int (eI fo)])), ((md 1), aI cI 25 sc), ((md 2), aI cI 4 ln), ((md 3), aI cZ 4 cb), ((md 4), aI cZ 3 th), ((md 5), aI cI 3 pl), ((md 6), aI cI 3 lo), ((md 7), aI cI 3 pr), ((md 8), aI cI 30 la)] := hD
        refine lv_aload_n hx hb d_M_station_133 rfl (lv_at hl 1 rfl) ?_
        refine va_get (D := D) (ci := 5) (v := .int (eI 1)) (C := R_M) (T := T_M) (N := 23) hx hb htb in_M hown hK hP 0 rfl rfl 0 (by decide) (htb _ tb_588) (fun _ h9 => h9) rfl d_M_station_134 ?_
        refine we_if_le (tgt := 142) hx hb (by constructor <;> omega) d_M_station_137 rfl (fun hc137 => absurd hc137 (by omega)) (fun hc137 => ?_)
        refine lv_iconst (v := eI 0) hx hb d_M_station_140 rfl ?_
        subst hQ
        exact W.iret hx hb hrt (fun t9 ht hW => ⟨⟨(1, kn, ((n : Nat) : Int), sc, ln), rfl, Or.inl ⟨hng, rfl⟩, by rw [ht]; exact hP, hD⟩, hS.F ht⟩) hS.2.2 d_M_station_141
    ·
      have hng : ¬ (((n = 0 ∧ y = 0) ∨ (n ≠ 0 ∧ 1 ≤ y ∧ y ≤ 100)) ∧ (-100 ≤ x1 ∧ x1 ≤ 100) ∧ (-100 ≤ x2 ∧ x2 ≤ 100) ∧ (-100 ≤ x3 ∧ x3 ≤ 100) ∧ 0 ≤ w ∧ (1 ≤ w / 100 ∧ w / 100 ≤ 50) ∧ (1 ≤ w % 100 ∧ w % 100 ≤ 50)) := fun q9 => hx19 (by obtain ⟨q1, q2, q3, q4, q5, q6, q7⟩ := q9; exact q2)
      refine lv_aload_n hx hb d_M_station_0 rfl (lv_at hl 0 rfl) ?_
      refine va_get (D := D) (ci := 5) (v := .int (eI ((n : Nat) : Int))) (C := R_M) (T := T_M) (N := 23) hx hb htb in_M hown hK hP 0 rfl rfl 1 (by decide) (htb _ tb_589) (fun _ h9 => h9) rfl d_M_station_1 ?_
      refine we_if_ne (tgt := 19) hx hb (by constructor <;> omega) d_M_station_4 rfl (fun hc4 => ?_) (fun hc4 => absurd hc4 (by omega))
      refine lv_iload_n hx hb d_M_station_19 rfl (lv_at hl 1 rfl) ?_
      refine lv_iconst (v := eI 1) hx hb d_M_station_20 rfl ?_
      refine lv_bipush (v := eI 100) hx hb d_M_station_21 (by decide) ?_
      refine eh_cRS (As := [.int (eI y), .int (eI 1), .int (eI 100)]) (rest := []) (v := .int (eI (if 1 ≤ y ∧ y ≤ 100 then 1 else 0))) hx hb hml hown htb hN (r_M_within l D y 1 100 hy (by omega) (by omega)) 3 ⟨tb_670, tb_671, tb_7, kin_M_within⟩ dv_M_within ⟨by rw [hR1]; decide, by rw [hR2]; decide⟩ hK hP [] rfl [] rfl rfl rfl hl.1 (Nat.le_of_ble_eq_true rfl) d_M_station_23 ⟨Nat.zero_le _, Nat.zero_le _⟩ ?_
      refine lv_istore hx hb d_M_station_26 hl (by decide) rfl (fun ls hl => ?_)
      have hl : lv_has ls 7 [(6, .int (eI (if 1 ≤ y ∧ y ≤ 100 then 1 else 0))), (0, .ref (md 0)), (1, .int (eI y)), (2, .int (eI x1)), (3, .int (eI x2)), (4, .int (eI x3)), (5, .int (eI w))] := hl
      refine lv_iload hx hb d_M_station_28 (lv_at hl 0 rfl) ?_
      refine we_if_eq (tgt := 104) hx hb (by constructor <;> split <;> omega) d_M_station_30 rfl (fun hc30 => absurd hc30 (by rw [if_pos hcas.2]; omega)) (fun hc30 => ?_)
      refine lv_iload_n hx hb d_M_station_33 rfl (lv_at hl 3 rfl) ?_
      refine lv_bipush (v := eI (-100)) hx hb d_M_station_34 (by decide) ?_
      refine lv_bipush (v := eI 100) hx hb d_M_station_36 (by decide) ?_
      refine eh_cRS (As := [.int (eI x1), .int (eI (-100)), .int (eI 100)]) (rest := []) (v := .int (eI (if (-100) ≤ x1 ∧ x1 ≤ 100 then 1 else 0))) hx hb hml hown htb hN (r_M_within l D x1 (-100) 100 hx1 (by omega) (by omega)) 3 ⟨tb_670, tb_671, tb_7, kin_M_within⟩ dv_M_within ⟨by rw [hR1]; decide, by rw [hR2]; decide⟩ hK hP [] rfl [] rfl rfl rfl hl.1 (Nat.le_of_ble_eq_true rfl) d_M_station_38 ⟨Nat.zero_le _, Nat.zero_le _⟩ ?_
      refine we_if_eq (tgt := 104) hx hb (by constructor <;> split <;> omega) d_M_station_41 rfl (fun hc41 => ?_) (fun hc41 => absurd hc41 (by rw [if_neg hx19]; omega))
      refine lv_iconst (v := eI 0) hx hb d_M_station_104 rfl ?_
      refine lv_istore hx hb d_M_station_105 hl (by decide) rfl (fun ls hl => ?_)
      have hl : lv_has ls 7 [(6, .int (eI 0)), (0, .ref (md 0)), (1, .int (eI y)), (2, .int (eI x1)), (3, .int (eI x2)), (4, .int (eI x3)), (5, .int (eI w))] := hl
      refine lv_aload_n hx hb d_M_station_107 rfl (lv_at hl 1 rfl) ?_
      refine lv_iload hx hb d_M_station_108 (lv_at hl 0 rfl) ?_
      refine we_if_ne (tgt := 117) hx hb (by constructor <;> omega) d_M_station_110 rfl (fun hc110 => absurd hc110 (by omega)) (fun hc110 => ?_)
      refine lv_iconst (v := eI 1) hx hb d_M_station_113 rfl ?_
      refine lv_goto (tgt := 130) hx hb d_M_station_114 rfl ?_
      refine va_put (D := D) (ci := 5) (v := .int (eI 1)) (ty := .int) (C := R_M) (T := T_M) (N := 23) hx hb htb in_M t_M t_M_ok n_M hown hK hP hD hS 0 rfl rfl 0 (by decide) (htb _ tb_588) (fun _ h9 => h9) rfl (by decide +kernel) rfl rfl (Nat.le_of_ble_eq_true rfl) d_M_station_130 (fun H locs hP hD hS => ?_)
      have hP : va_P D classes [((md 0), .inr (5, [.int (eI 1), .int (eI ((n : Nat) : Int)), .ref (md 1), .ref (md 2), .ref (md 3), .int (eI sh), .int (eI ra), .ref (md 4), .ref (md 5), .ref (md 6), .ref (md 7), .ref (md 8), .long (eL up), .long (eL lw), .ref (md 9), .ref (md 10), .ref (md 11), .ref (md 12), .ref (md 13), .ref (md 14), .ref (md 15), .int (eI kn), .int (eI fo)])), ((md 1), aI cI 25 sc), ((md 2), aI cI 4 ln), ((md 3), aI cZ 4 cb), ((md 4), aI cZ 3 th), ((md 5), aI cI 3 pl), ((md 6), aI cI 3 lo), ((md 7), aI cI 3 pr), ((md 8), aI cI 30 la)] H := hP
      have hD : va_D A [((md 0), .inr (5, [.int (eI 1), .int (eI ((n : Nat) : Int)), .ref (md 1), .ref (md 2), .ref (md 3), .int (eI sh), .int (eI ra), .ref (md 4), .ref (md 5), .ref (md 6), .ref (md 7), .ref (md 8), .long (eL up), .long (eL lw), .ref (md 9), .ref (md 10), .ref (md 11), .ref (md 12), .ref (md 13), .ref (md 14), .ref (md 15), .int (eI kn), .int (eI fo)])), ((md 1), aI cI 25 sc), ((md 2), aI cI 4 ln), ((md 3), aI cZ 4 cb), ((md 4), aI cZ 3 th), ((md 5), aI cI 3 pl), ((md 6), aI cI 3 lo), ((md 7), aI cI 3 pr), ((md 8), aI cI 30 la)] := hD
      refine lv_aload_n hx hb d_M_station_133 rfl (lv_at hl 1 rfl) ?_
      refine va_get (D := D) (ci := 5) (v := .int (eI 1)) (C := R_M) (T := T_M) (N := 23) hx hb htb in_M hown hK hP 0 rfl rfl 0 (by decide) (htb _ tb_588) (fun _ h9 => h9) rfl d_M_station_134 ?_
      refine we_if_le (tgt := 142) hx hb (by constructor <;> omega) d_M_station_137 rfl (fun hc137 => absurd hc137 (by omega)) (fun hc137 => ?_)
      refine lv_iconst (v := eI 0) hx hb d_M_station_140 rfl ?_
      subst hQ
      exact W.iret hx hb hrt (fun t9 ht hW => ⟨⟨(1, kn, ((n : Nat) : Int), sc, ln), rfl, Or.inl ⟨hng, rfl⟩, by rw [ht]; exact hP, hD⟩, hS.F ht⟩) hS.2.2 d_M_station_141
  ·
    have hng : ¬ (((n = 0 ∧ y = 0) ∨ (n ≠ 0 ∧ 1 ≤ y ∧ y ≤ 100)) ∧ (-100 ≤ x1 ∧ x1 ≤ 100) ∧ (-100 ≤ x2 ∧ x2 ≤ 100) ∧ (-100 ≤ x3 ∧ x3 ≤ 100) ∧ 0 ≤ w ∧ (1 ≤ w / 100 ∧ w / 100 ≤ 50) ∧ (1 ≤ w % 100 ∧ w % 100 ≤ 50)) := fun q9 => by obtain ⟨q1, _⟩ := q9; omega
    refine lv_aload_n hx hb d_M_station_0 rfl (lv_at hl 0 rfl) ?_
    refine va_get (D := D) (ci := 5) (v := .int (eI ((n : Nat) : Int))) (C := R_M) (T := T_M) (N := 23) hx hb htb in_M hown hK hP 0 rfl rfl 1 (by decide) (htb _ tb_589) (fun _ h9 => h9) rfl d_M_station_1 ?_
    refine we_if_ne (tgt := 19) hx hb (by constructor <;> omega) d_M_station_4 rfl (fun hc4 => ?_) (fun hc4 => absurd hc4 (by omega))
    refine lv_iload_n hx hb d_M_station_19 rfl (lv_at hl 1 rfl) ?_
    refine lv_iconst (v := eI 1) hx hb d_M_station_20 rfl ?_
    refine lv_bipush (v := eI 100) hx hb d_M_station_21 (by decide) ?_
    refine eh_cRS (As := [.int (eI y), .int (eI 1), .int (eI 100)]) (rest := []) (v := .int (eI (if 1 ≤ y ∧ y ≤ 100 then 1 else 0))) hx hb hml hown htb hN (r_M_within l D y 1 100 hy (by omega) (by omega)) 3 ⟨tb_670, tb_671, tb_7, kin_M_within⟩ dv_M_within ⟨by rw [hR1]; decide, by rw [hR2]; decide⟩ hK hP [] rfl [] rfl rfl rfl hl.1 (Nat.le_of_ble_eq_true rfl) d_M_station_23 ⟨Nat.zero_le _, Nat.zero_le _⟩ ?_
    refine lv_istore hx hb d_M_station_26 hl (by decide) rfl (fun ls hl => ?_)
    have hl : lv_has ls 7 [(6, .int (eI (if 1 ≤ y ∧ y ≤ 100 then 1 else 0))), (0, .ref (md 0)), (1, .int (eI y)), (2, .int (eI x1)), (3, .int (eI x2)), (4, .int (eI x3)), (5, .int (eI w))] := hl
    refine lv_iload hx hb d_M_station_28 (lv_at hl 0 rfl) ?_
    refine we_if_eq (tgt := 104) hx hb (by constructor <;> split <;> omega) d_M_station_30 rfl (fun hc30 => ?_) (fun hc30 => absurd hc30 (by rw [if_neg hcas.2]; omega))
    refine lv_iconst (v := eI 0) hx hb d_M_station_104 rfl ?_
    refine lv_istore hx hb d_M_station_105 hl (by decide) rfl (fun ls hl => ?_)
    have hl : lv_has ls 7 [(6, .int (eI 0)), (0, .ref (md 0)), (1, .int (eI y)), (2, .int (eI x1)), (3, .int (eI x2)), (4, .int (eI x3)), (5, .int (eI w))] := hl
    refine lv_aload_n hx hb d_M_station_107 rfl (lv_at hl 1 rfl) ?_
    refine lv_iload hx hb d_M_station_108 (lv_at hl 0 rfl) ?_
    refine we_if_ne (tgt := 117) hx hb (by constructor <;> omega) d_M_station_110 rfl (fun hc110 => absurd hc110 (by omega)) (fun hc110 => ?_)
    refine lv_iconst (v := eI 1) hx hb d_M_station_113 rfl ?_
    refine lv_goto (tgt := 130) hx hb d_M_station_114 rfl ?_
    refine va_put (D := D) (ci := 5) (v := .int (eI 1)) (ty := .int) (C := R_M) (T := T_M) (N := 23) hx hb htb in_M t_M t_M_ok n_M hown hK hP hD hS 0 rfl rfl 0 (by decide) (htb _ tb_588) (fun _ h9 => h9) rfl (by decide +kernel) rfl rfl (Nat.le_of_ble_eq_true rfl) d_M_station_130 (fun H locs hP hD hS => ?_)
    have hP : va_P D classes [((md 0), .inr (5, [.int (eI 1), .int (eI ((n : Nat) : Int)), .ref (md 1), .ref (md 2), .ref (md 3), .int (eI sh), .int (eI ra), .ref (md 4), .ref (md 5), .ref (md 6), .ref (md 7), .ref (md 8), .long (eL up), .long (eL lw), .ref (md 9), .ref (md 10), .ref (md 11), .ref (md 12), .ref (md 13), .ref (md 14), .ref (md 15), .int (eI kn), .int (eI fo)])), ((md 1), aI cI 25 sc), ((md 2), aI cI 4 ln), ((md 3), aI cZ 4 cb), ((md 4), aI cZ 3 th), ((md 5), aI cI 3 pl), ((md 6), aI cI 3 lo), ((md 7), aI cI 3 pr), ((md 8), aI cI 30 la)] H := hP
    have hD : va_D A [((md 0), .inr (5, [.int (eI 1), .int (eI ((n : Nat) : Int)), .ref (md 1), .ref (md 2), .ref (md 3), .int (eI sh), .int (eI ra), .ref (md 4), .ref (md 5), .ref (md 6), .ref (md 7), .ref (md 8), .long (eL up), .long (eL lw), .ref (md 9), .ref (md 10), .ref (md 11), .ref (md 12), .ref (md 13), .ref (md 14), .ref (md 15), .int (eI kn), .int (eI fo)])), ((md 1), aI cI 25 sc), ((md 2), aI cI 4 ln), ((md 3), aI cZ 4 cb), ((md 4), aI cZ 3 th), ((md 5), aI cI 3 pl), ((md 6), aI cI 3 lo), ((md 7), aI cI 3 pr), ((md 8), aI cI 30 la)] := hD
    refine lv_aload_n hx hb d_M_station_133 rfl (lv_at hl 1 rfl) ?_
    refine va_get (D := D) (ci := 5) (v := .int (eI 1)) (C := R_M) (T := T_M) (N := 23) hx hb htb in_M hown hK hP 0 rfl rfl 0 (by decide) (htb _ tb_588) (fun _ h9 => h9) rfl d_M_station_134 ?_
    refine we_if_le (tgt := 142) hx hb (by constructor <;> omega) d_M_station_137 rfl (fun hc137 => absurd hc137 (by omega)) (fun hc137 => ?_)
    refine lv_iconst (v := eI 0) hx hb d_M_station_140 rfl ?_
    subst hQ
    exact W.iret hx hb hrt (fun t9 ht hW => ⟨⟨(1, kn, ((n : Nat) : Int), sc, ln), rfl, Or.inl ⟨hng, rfl⟩, by rw [ht]; exact hP, hD⟩, hS.F ht⟩) hS.2.2 d_M_station_141
