abbrev c_M_push : ByteArray := prog_7_method_31_code
def y_M_push : MethodName := ⟨"EarthHaulsModel", "push", "()Z"⟩
abbrev k_M_push : Cond := .code y_M_push c_M_push 4 (some .boolean)
theorem kin_M_push : k_M_push ∈ ew_t := tb_781
theorem dv_M_push : eh_dV y_M_push "EarthHaulsModel" 0 := ⟨rfl, by decide, by decide, by decide +kernel⟩
theorem d_M_push_0 : decode c_M_push 0 = .ok (.iconst 0, 1) := by decide +kernel
theorem d_M_push_1 : decode c_M_push 1 = .ok (.istore_n 1, 1) := by decide +kernel
theorem d_M_push_2 : decode c_M_push 2 = .ok (.iload_n 1, 1) := by decide +kernel
theorem d_M_push_3 : decode c_M_push 3 = .ok (.bipush 13, 2) := by decide +kernel
theorem d_M_push_5 : decode c_M_push 5 = .ok (.if_icmp .ge 37, 3) := by decide +kernel
theorem d_M_push_8 : decode c_M_push 8 = .ok (.aload_n 0, 1) := by decide +kernel
theorem d_M_push_9 : decode c_M_push 9 = .ok (.getfield 61, 3) := by decide +kernel
theorem d_M_push_12 : decode c_M_push 12 = .ok (.iload_n 1, 1) := by decide +kernel
theorem d_M_push_13 : decode c_M_push 13 = .ok (.iload_n 1, 1) := by decide +kernel
theorem d_M_push_14 : decode c_M_push 14 = .ok (.bipush 7, 2) := by decide +kernel
theorem d_M_push_16 : decode c_M_push 16 = .ok (.if_icmp .ge 18, 3) := by decide +kernel
theorem d_M_push_19 : decode c_M_push 19 = .ok (.aload_n 0, 1) := by decide +kernel
theorem d_M_push_20 : decode c_M_push 20 = .ok (.getfield 42, 3) := by decide +kernel
theorem d_M_push_23 : decode c_M_push 23 = .ok (.iload_n 1, 1) := by decide +kernel
theorem d_M_push_24 : decode c_M_push 24 = .ok (.laload, 1) := by decide +kernel
theorem d_M_push_25 : decode c_M_push 25 = .ok (.lconst 0, 1) := by decide +kernel
theorem d_M_push_26 : decode c_M_push 26 = .ok (.lcmp, 1) := by decide +kernel
theorem d_M_push_27 : decode c_M_push 27 = .ok (.ifCond .le 7, 3) := by decide +kernel
theorem d_M_push_30 : decode c_M_push 30 = .ok (.iload_n 1, 1) := by decide +kernel
theorem d_M_push_31 : decode c_M_push 31 = .ok (.goto 4, 3) := by decide +kernel
theorem d_M_push_34 : decode c_M_push 34 = .ok (.iconst (-1), 1) := by decide +kernel
theorem d_M_push_35 : decode c_M_push 35 = .ok (.iastore, 1) := by decide +kernel
theorem d_M_push_36 : decode c_M_push 36 = .ok (.iinc 1 1, 3) := by decide +kernel
theorem d_M_push_39 : decode c_M_push 39 = .ok (.goto (-37), 3) := by decide +kernel
theorem d_M_push_42 : decode c_M_push 42 = .ok (.iconst 1, 1) := by decide +kernel
theorem d_M_push_43 : decode c_M_push 43 = .ok (.istore_n 1, 1) := by decide +kernel
theorem d_M_push_44 : decode c_M_push 44 = .ok (.iload_n 1, 1) := by decide +kernel
theorem d_M_push_45 : decode c_M_push 45 = .ok (.ifCond .eq 127, 3) := by decide +kernel
theorem d_M_push_48 : decode c_M_push 48 = .ok (.iconst 0, 1) := by decide +kernel
theorem d_M_push_49 : decode c_M_push 49 = .ok (.istore_n 1, 1) := by decide +kernel
theorem d_M_push_50 : decode c_M_push 50 = .ok (.iconst 0, 1) := by decide +kernel
theorem d_M_push_51 : decode c_M_push 51 = .ok (.istore_n 2, 1) := by decide +kernel
theorem d_M_push_52 : decode c_M_push 52 = .ok (.iload_n 2, 1) := by decide +kernel
theorem d_M_push_53 : decode c_M_push 53 = .ok (.bipush 7, 2) := by decide +kernel
theorem d_M_push_55 : decode c_M_push 55 = .ok (.if_icmp .ge 114, 3) := by decide +kernel
theorem d_M_push_58 : decode c_M_push 58 = .ok (.iconst 0, 1) := by decide +kernel
theorem d_M_push_59 : decode c_M_push 59 = .ok (.istore_n 3, 1) := by decide +kernel
theorem d_M_push_60 : decode c_M_push 60 = .ok (.iload_n 3, 1) := by decide +kernel
theorem d_M_push_61 : decode c_M_push 61 = .ok (.bipush 6, 2) := by decide +kernel
theorem d_M_push_63 : decode c_M_push 63 = .ok (.if_icmp .ge 100, 3) := by decide +kernel
theorem d_M_push_66 : decode c_M_push 66 = .ok (.aload_n 0, 1) := by decide +kernel
theorem d_M_push_67 : decode c_M_push 67 = .ok (.getfield 61, 3) := by decide +kernel
theorem d_M_push_70 : decode c_M_push 70 = .ok (.iload_n 2, 1) := by decide +kernel
theorem d_M_push_71 : decode c_M_push 71 = .ok (.iaload, 1) := by decide +kernel
theorem d_M_push_72 : decode c_M_push 72 = .ok (.ifCond .lt 36, 3) := by decide +kernel
theorem d_M_push_75 : decode c_M_push 75 = .ok (.aload_n 0, 1) := by decide +kernel
theorem d_M_push_76 : decode c_M_push 76 = .ok (.getfield 61, 3) := by decide +kernel
theorem d_M_push_79 : decode c_M_push 79 = .ok (.bipush 7, 2) := by decide +kernel
theorem d_M_push_81 : decode c_M_push 81 = .ok (.iload_n 3, 1) := by decide +kernel
theorem d_M_push_82 : decode c_M_push 82 = .ok (.iadd, 1) := by decide +kernel
theorem d_M_push_83 : decode c_M_push 83 = .ok (.iaload, 1) := by decide +kernel
theorem d_M_push_84 : decode c_M_push 84 = .ok (.ifCond .ge 24, 3) := by decide +kernel
theorem d_M_push_87 : decode c_M_push 87 = .ok (.aload_n 0, 1) := by decide +kernel
theorem d_M_push_88 : decode c_M_push 88 = .ok (.iload_n 2, 1) := by decide +kernel
theorem d_M_push_89 : decode c_M_push 89 = .ok (.iload_n 3, 1) := by decide +kernel
theorem d_M_push_90 : decode c_M_push 90 = .ok (.invokevirtual 145, 3) := by decide +kernel
theorem d_M_push_93 : decode c_M_push 93 = .ok (.ifCond .eq 15, 3) := by decide +kernel
theorem d_M_push_96 : decode c_M_push 96 = .ok (.aload_n 0, 1) := by decide +kernel
theorem d_M_push_97 : decode c_M_push 97 = .ok (.getfield 61, 3) := by decide +kernel
theorem d_M_push_100 : decode c_M_push 100 = .ok (.bipush 7, 2) := by decide +kernel
theorem d_M_push_102 : decode c_M_push 102 = .ok (.iload_n 3, 1) := by decide +kernel
theorem d_M_push_103 : decode c_M_push 103 = .ok (.iadd, 1) := by decide +kernel
theorem d_M_push_104 : decode c_M_push 104 = .ok (.iload_n 2, 1) := by decide +kernel
theorem d_M_push_105 : decode c_M_push 105 = .ok (.iastore, 1) := by decide +kernel
theorem d_M_push_106 : decode c_M_push 106 = .ok (.iconst 1, 1) := by decide +kernel
theorem d_M_push_107 : decode c_M_push 107 = .ok (.istore_n 1, 1) := by decide +kernel
theorem d_M_push_108 : decode c_M_push 108 = .ok (.aload_n 0, 1) := by decide +kernel
theorem d_M_push_109 : decode c_M_push 109 = .ok (.getfield 61, 3) := by decide +kernel
theorem d_M_push_112 : decode c_M_push 112 = .ok (.iload_n 2, 1) := by decide +kernel
theorem d_M_push_113 : decode c_M_push 113 = .ok (.iaload, 1) := by decide +kernel
theorem d_M_push_114 : decode c_M_push 114 = .ok (.ifCond .ge 43, 3) := by decide +kernel
theorem d_M_push_117 : decode c_M_push 117 = .ok (.aload_n 0, 1) := by decide +kernel
theorem d_M_push_118 : decode c_M_push 118 = .ok (.getfield 61, 3) := by decide +kernel
theorem d_M_push_121 : decode c_M_push 121 = .ok (.bipush 7, 2) := by decide +kernel
theorem d_M_push_123 : decode c_M_push 123 = .ok (.iload_n 3, 1) := by decide +kernel
theorem d_M_push_124 : decode c_M_push 124 = .ok (.iadd, 1) := by decide +kernel
theorem d_M_push_125 : decode c_M_push 125 = .ok (.iaload, 1) := by decide +kernel
theorem d_M_push_126 : decode c_M_push 126 = .ok (.ifCond .lt 31, 3) := by decide +kernel
theorem d_M_push_129 : decode c_M_push 129 = .ok (.aload_n 0, 1) := by decide +kernel
theorem d_M_push_130 : decode c_M_push 130 = .ok (.getfield 49, 3) := by decide +kernel
theorem d_M_push_133 : decode c_M_push 133 = .ok (.bipush 6, 2) := by decide +kernel
theorem d_M_push_135 : decode c_M_push 135 = .ok (.iload_n 2, 1) := by decide +kernel
theorem d_M_push_136 : decode c_M_push 136 = .ok (.imul, 1) := by decide +kernel
theorem d_M_push_137 : decode c_M_push 137 = .ok (.iload_n 3, 1) := by decide +kernel
theorem d_M_push_138 : decode c_M_push 138 = .ok (.iadd, 1) := by decide +kernel
theorem d_M_push_139 : decode c_M_push 139 = .ok (.laload, 1) := by decide +kernel
theorem d_M_push_140 : decode c_M_push 140 = .ok (.lconst 0, 1) := by decide +kernel
theorem d_M_push_141 : decode c_M_push 141 = .ok (.lcmp, 1) := by decide +kernel
theorem d_M_push_142 : decode c_M_push 142 = .ok (.ifCond .le 15, 3) := by decide +kernel
theorem d_M_push_145 : decode c_M_push 145 = .ok (.aload_n 0, 1) := by decide +kernel
theorem d_M_push_146 : decode c_M_push 146 = .ok (.getfield 61, 3) := by decide +kernel
theorem d_M_push_149 : decode c_M_push 149 = .ok (.iload_n 2, 1) := by decide +kernel
theorem d_M_push_150 : decode c_M_push 150 = .ok (.bipush 7, 2) := by decide +kernel
theorem d_M_push_152 : decode c_M_push 152 = .ok (.iload_n 3, 1) := by decide +kernel
theorem d_M_push_153 : decode c_M_push 153 = .ok (.iadd, 1) := by decide +kernel
theorem d_M_push_154 : decode c_M_push 154 = .ok (.iastore, 1) := by decide +kernel
theorem d_M_push_155 : decode c_M_push 155 = .ok (.iconst 1, 1) := by decide +kernel
theorem d_M_push_156 : decode c_M_push 156 = .ok (.istore_n 1, 1) := by decide +kernel
theorem d_M_push_157 : decode c_M_push 157 = .ok (.iinc 3 1, 3) := by decide +kernel
theorem d_M_push_160 : decode c_M_push 160 = .ok (.goto (-100), 3) := by decide +kernel
theorem d_M_push_163 : decode c_M_push 163 = .ok (.iinc 2 1, 3) := by decide +kernel
theorem d_M_push_166 : decode c_M_push 166 = .ok (.goto (-114), 3) := by decide +kernel
theorem d_M_push_169 : decode c_M_push 169 = .ok (.goto (-125), 3) := by decide +kernel
theorem d_M_push_172 : decode c_M_push 172 = .ok (.iconst 0, 1) := by decide +kernel
theorem d_M_push_173 : decode c_M_push 173 = .ok (.istore_n 2, 1) := by decide +kernel
theorem d_M_push_174 : decode c_M_push 174 = .ok (.iload_n 2, 1) := by decide +kernel
theorem d_M_push_175 : decode c_M_push 175 = .ok (.bipush 6, 2) := by decide +kernel
theorem d_M_push_177 : decode c_M_push 177 = .ok (.if_icmp .ge 39, 3) := by decide +kernel
theorem d_M_push_180 : decode c_M_push 180 = .ok (.aload_n 0, 1) := by decide +kernel
theorem d_M_push_181 : decode c_M_push 181 = .ok (.getfield 46, 3) := by decide +kernel
theorem d_M_push_184 : decode c_M_push 184 = .ok (.iload_n 2, 1) := by decide +kernel
theorem d_M_push_185 : decode c_M_push 185 = .ok (.laload, 1) := by decide +kernel
theorem d_M_push_186 : decode c_M_push 186 = .ok (.lconst 0, 1) := by decide +kernel
theorem d_M_push_187 : decode c_M_push 187 = .ok (.lcmp, 1) := by decide +kernel
theorem d_M_push_188 : decode c_M_push 188 = .ok (.ifCond .le 22, 3) := by decide +kernel
theorem d_M_push_191 : decode c_M_push 191 = .ok (.aload_n 0, 1) := by decide +kernel
theorem d_M_push_192 : decode c_M_push 192 = .ok (.getfield 61, 3) := by decide +kernel
theorem d_M_push_195 : decode c_M_push 195 = .ok (.bipush 7, 2) := by decide +kernel
theorem d_M_push_197 : decode c_M_push 197 = .ok (.iload_n 2, 1) := by decide +kernel
theorem d_M_push_198 : decode c_M_push 198 = .ok (.iadd, 1) := by decide +kernel
theorem d_M_push_199 : decode c_M_push 199 = .ok (.iaload, 1) := by decide +kernel
theorem d_M_push_200 : decode c_M_push 200 = .ok (.ifCond .lt 10, 3) := by decide +kernel
theorem d_M_push_203 : decode c_M_push 203 = .ok (.aload_n 0, 1) := by decide +kernel
theorem d_M_push_204 : decode c_M_push 204 = .ok (.iload_n 2, 1) := by decide +kernel
theorem d_M_push_205 : decode c_M_push 205 = .ok (.invokevirtual 148, 3) := by decide +kernel
theorem d_M_push_208 : decode c_M_push 208 = .ok (.iconst 1, 1) := by decide +kernel
theorem d_M_push_209 : decode c_M_push 209 = .ok (.ireturn, 1) := by decide +kernel
theorem d_M_push_210 : decode c_M_push 210 = .ok (.iinc 2 1, 3) := by decide +kernel
theorem d_M_push_213 : decode c_M_push 213 = .ok (.goto (-39), 3) := by decide +kernel
theorem d_M_push_216 : decode c_M_push 216 = .ok (.iconst 0, 1) := by decide +kernel
theorem d_M_push_217 : decode c_M_push 217 = .ok (.ireturn, 1) := by decide +kernel
set_option maxHeartbeats 1000000 in
set_option maxRecDepth 100000 in
theorem m_M_push (l : Launch) (D : va_G) (cI cL cZ : ClassId) (md : Nat → Nat) (co : Int) (n : Nat) (sh ra up lw kn fo : Int) (cc9 Sv Dv su de fw cs BY0 : Nat → Int) (hf : eh_rf cc9 Sv Dv fw su de) (hcs : ∀ y z, y < 7 → z < 6 → cs (6 * y + z) = eh_rc cc9 y z) (hcs2 : ∀ k, k < 42 → -1 ≤ cs k ∧ cs k ≤ 100000) (hSb : ∀ y, y < 7 → Sv y ≤ 1000000000000) (hDb : ∀ z, z < 6 → Dv z ≤ 1000000000000) : eh_M (S := Int × (Nat → Int) × (Nat → Int) × (Nat → Int) × (Nat → Int)) l y_M_push k_M_push 1 26 D classes [(cI, .int), (cL, .long), (cZ, .boolean)] [.ref (md 0)] [((md 0), .inr (5, [.int (eI co), .int (eI ((n : Nat) : Int)), .ref (md 1), .ref (md 2), .ref (md 3), .int (eI sh), .int (eI ra), .ref (md 4), .ref (md 5), .ref (md 6), .ref (md 7), .ref (md 8), .long (eL up), .long (eL lw), .ref (md 9), .ref (md 10), .ref (md 11), .ref (md 12), .ref (md 13), .ref (md 14), .ref (md 15), .int (eI kn), .int (eI fo)])), ((md 9), aL cL 7 su), ((md 10), aL cL 6 de), ((md 11), aL cL 42 fw), ((md 12), aI cI 42 cs), ((md 15), aI cI 13 BY0)] (fun u => (u.1 = 1 ∧ eh_rf cc9 Sv Dv u.2.2.2.1 u.2.1 u.2.2.1 ∧ eh_sm u.2.2.1 6 < eh_sm de 6) ∨ (u.1 = 0 ∧ u.2.1 = su ∧ u.2.2.1 = de ∧ u.2.2.2.1 = fw ∧ (∀ v, v < 7 → 0 < su v → 0 ≤ u.2.2.2.2 v) ∧ (∀ y z, y < 7 → z < 6 → eh_cl cs fw u.2.2.2.2 y z) ∧ (∀ z, z < 6 → 0 ≤ u.2.2.2.2 (7 + z) → de z ≤ 0))) (fun u => some (.int (eI u.1))) (fun u => [((md 0), .inr (5, [.int (eI co), .int (eI ((n : Nat) : Int)), .ref (md 1), .ref (md 2), .ref (md 3), .int (eI sh), .int (eI ra), .ref (md 4), .ref (md 5), .ref (md 6), .ref (md 7), .ref (md 8), .long (eL up), .long (eL lw), .ref (md 9), .ref (md 10), .ref (md 11), .ref (md 12), .ref (md 13), .ref (md 14), .ref (md 15), .int (eI kn), .int (eI fo)])), ((md 9), aL cL 7 u.2.1), ((md 10), aL cL 6 u.2.2.1), ((md 11), aL cL 42 u.2.2.2.1), ((md 12), aI cI 42 cs), ((md 15), aI cI 13 u.2.2.2.2)]) := by
  intro sz
  refine Met.ofW (cc := c_M_push) (maxL := 4) (ret := (some .boolean)) (by decide) rfl ?_
  intro p e s m args below meth c s₁ B hml hv
  obtain ⟨hargs, hsz, hP, hK, hD0, hN⟩ := hv
  have hx := B.exec
  have hb := B.bytes
  have hrt := B.returns
  have hts := atoms_spec (ws := k_M_push :: ew_t) B.pre
  have htb : ∀ w ∈ ew_t, w.before args s = true := fun w h => hts w (List.mem_cons_of_mem _ h)
  have hown : s.vm.findClass "EarthHaulsModel" = some m.cls := findClass_of_methodNamed B.named
  have hlocks := B.notSynchronized
  have hE : entryFrame m args 4 = entryFrame m ([.ref (md 0)] : List Value).toArray 4 := by rw [hargs]
  rw [hE]
  clear hE hts B hargs
  generalize hRe : (headSpec _ _).room = R
  have hR1 : R.frames = 1 := by rw [← hRe]; rfl
  have hR2 : R.locals = 26 := by rw [← hRe]; rfl
  clear hRe
  generalize hQ : MQ below _ _ s 0 0 _ = Q
  subst hsz
  have hD := hD0.self (sz := s.heap.size)
  generalize hAe : va_A [((md 0), .inr (5, [.int (eI co), .int (eI ((n : Nat) : Int)), .ref (md 1), .ref (md 2), .ref (md 3), .int (eI sh), .int (eI ra), .ref (md 4), .ref (md 5), .ref (md 6), .ref (md 7), .ref (md 8), .long (eL up), .long (eL lw), .ref (md 9), .ref (md 10), .ref (md 11), .ref (md 12), .ref (md 13), .ref (md 14), .ref (md 15), .int (eI kn), .int (eI fo)])), ((md 9), aL cL 7 su), ((md 10), aL cL 6 de), ((md 11), aL cL 42 fw), ((md 12), aI cI 42 cs), ((md 15), aI cI 13 BY0)] s.heap.size = A at hD hQ
  have hA : ∀ q : Nat, s.heap.size ≤ q → A q := fun q h => by rw [← hAe]; exact Or.inr h
  have hS : va_S A s.heap s.heap [] := va_S.rf
  have hP : va_P D classes [((md 0), .inr (5, [.int (eI co), .int (eI ((n : Nat) : Int)), .ref (md 1), .ref (md 2), .ref (md 3), .int (eI sh), .int (eI ra), .ref (md 4), .ref (md 5), .ref (md 6), .ref (md 7), .ref (md 8), .long (eL up), .long (eL lw), .ref (md 9), .ref (md 10), .ref (md 11), .ref (md 12), .ref (md 13), .ref (md 14), .ref (md 15), .int (eI kn), .int (eI fo)])), ((md 9), aL cL 7 su), ((md 10), aL cL 6 de), ((md 11), aL cL 42 fw), ((md 12), aI cI 42 cs), ((md 15), aI cI 13 BY0)] s.heap := hP
  have hl := lv_entry ([.ref (md 0)]) (n := 4) (Nat.le_of_ble_eq_true rfl)
  rw [lg_entry_eq]
  generalize (lg_sl ([.ref (md 0)]) ++ List.replicate (4 - (lg_sl ([.ref (md 0)])).length) Slot.unset).toArray = ls at hl ⊢
  have hl : lv_has ls 4 [(0, .ref (md 0))] := hl
  obtain ⟨hfw, hsu, hde⟩ := eh_rf_bd hf hSb hDb
  have hcb : ∀ k, k < 42 → -1 ≤ cs k ∧ cs k ≤ 100000 := hcs2
  have lastl : ∀ (BY : Nat → Int), eh_bn cs fw su BY → (∀ v, v < 7 → 0 < su v → 0 ≤ BY v) → (∀ y z, y < 7 → z < 6 → eh_cl cs fw BY y z) → ∀ (q i : Nat) (H : Heap) (locs : List Loc) (ls : Array Slot), 6 - i = q → i ≤ 6 → (∀ z, z < i → 0 ≤ BY (7 + z) → de z ≤ 0) → lv_has ls 4 [(2, .int (eI ((i : Nat) : Int))), (0, .ref (md 0))] → va_P D classes [((md 0), .inr (5, [.int (eI co), .int (eI ((n : Nat) : Int)), .ref (md 1), .ref (md 2), .ref (md 3), .int (eI sh), .int (eI ra), .ref (md 4), .ref (md 5), .ref (md 6), .ref (md 7), .ref (md 8), .long (eL up), .long (eL lw), .ref (md 9), .ref (md 10), .ref (md 11), .ref (md 12), .ref (md 13), .ref (md 14), .ref (md 15), .int (eI kn), .int (eI fo)])), ((md 9), aL cL 7 su), ((md 10), aL cL 6 de), ((md 11), aL cL 42 fw), ((md 12), aI cI 42 cs), ((md 15), aI cI 13 BY)] H → va_D A [((md 0), .inr (5, [.int (eI co), .int (eI ((n : Nat) : Int)), .ref (md 1), .ref (md 2), .ref (md 3), .int (eI sh), .int (eI ra), .ref (md 4), .ref (md 5), .ref (md 6), .ref (md 7), .ref (md 8), .long (eL up), .long (eL lw), .ref (md 9), .ref (md 10), .ref (md 11), .ref (md 12), .ref (md 13), .ref (md 14), .ref (md 15), .int (eI kn), .int (eI fo)])), ((md 9), aL cL 7 su), ((md 10), aL cL 6 de), ((md 11), aL cL 42 fw), ((md 12), aI cI 42 cs), ((md 15), aI cI 13 BY)] → va_S A s.heap H locs → W p l e R s m args below meth c H locs 0 0 Q (F0 m 174 ls []) := by
    intro BY hbn hroot hcl q
    induction q with
    | zero =>
      intro i H locs ls hq hi hno hl hP hD hS
      have hi6 : i = 6 := by omega
      subst hi6
      refine lv_iload_n hx hb d_M_push_174 rfl (lv_at hl 0 rfl) ?_
      refine lv_bipush (v := eI 6) hx hb d_M_push_175 (by decide) ?_
      refine we_icmp_ge (tgt := 216) hx hb (by constructor <;> omega) (by constructor <;> omega) d_M_push_177 rfl (fun hc177 => ?_) (fun hc177 => absurd hc177 (by omega))
      refine lv_iconst (v := eI 0) hx hb d_M_push_216 rfl ?_
      subst hQ
      exact W.zret (v := eI 0) hx hb hrt (by decide) (fun t9 ht hW => ⟨⟨(0, su, de, fw, BY), rfl, Or.inr ⟨rfl, rfl, rfl, rfl, hroot, hcl, hno⟩, by rw [ht]; exact hP, hD⟩, hS.F ht⟩) hS.2.2 d_M_push_217
    | succ q ih =>
      intro i H locs ls hq hi hno hl hP hD hS
      have hdi := hde i (by omega)
      have hbi : -1 ≤ BY (7 + i) ∧ BY (7 + i) < 13 := by obtain ⟨rk, N, hbt, _⟩ := hbn; exact hbt.1 _ (by omega)
      refine lv_iload_n hx hb d_M_push_174 rfl (lv_at hl 0 rfl) ?_
      refine lv_bipush (v := eI 6) hx hb d_M_push_175 (by decide) ?_
      refine we_icmp_ge (tgt := 216) hx hb (by constructor <;> omega) (by constructor <;> omega) d_M_push_177 rfl (fun hc177 => absurd hc177 (by omega)) (fun hc177 => ?_)
      refine lv_aload_n hx hb d_M_push_180 rfl (lv_at hl 1 rfl) ?_
      refine va_get (D := D) (ci := 5) (v := .ref (md 10)) (C := R_M) (T := T_M) (N := 23) hx hb htb in_M hown hK hP 0 rfl rfl 15 (by decide) (htb _ tb_603) (fun _ h9 => h9) rfl d_M_push_181 ?_
      refine lv_iload_n hx hb d_M_push_184 rfl (lv_at hl 0 rfl) ?_
      refine we_lald hx hb hK hP 2 1 rfl rfl i rfl (by omega) (by decide) d_M_push_185 ?_
      refine lv_lconst (v := eL 0) hx hb d_M_push_186 (by decide) ?_
      refine we_lcmp_le (pc2 := 188) (tgt := 210) hx hb (by constructor <;> omega) (by constructor <;> omega) d_M_push_187 rfl d_M_push_188 rfl (fun hc187 => ?_) (fun hc187 => ?_)
      ·
        refine lv_iinc (v := eI (((i : Nat) : Int) + 1)) hx hb d_M_push_210 hl (k := 0) rfl (eI_add _ _) (by decide) rfl (fun ls hl => ?_)
        have hl : lv_has ls 4 [(2, .int (eI (((i : Nat) : Int) + 1))), (0, .ref (md 0))] := hl
        refine lv_goto (tgt := 174) hx hb d_M_push_213 rfl ?_
        exact ih (i + 1) H locs ls (by omega) (by omega) (fun z hz h0 => by
          by_cases w : z = i
          · subst w; omega
          · exact hno z (by omega) h0) (lv_sub hl [0, 1] rfl) hP hD hS
      ·
        refine lv_aload_n hx hb d_M_push_191 rfl (lv_at hl 1 rfl) ?_
        refine va_get (D := D) (ci := 5) (v := .ref (md 15)) (C := R_M) (T := T_M) (N := 23) hx hb htb in_M hown hK hP 0 rfl rfl 20 (by decide) (htb _ tb_608) (fun _ h9 => h9) rfl d_M_push_192 ?_
        refine lv_bipush (v := eI 7) hx hb d_M_push_195 (by decide) ?_
        refine lv_iload_n hx hb d_M_push_197 rfl (lv_at hl 0 rfl) ?_
        refine we_iadd hx hb d_M_push_198 ?_
        refine we_iald hx hb hK hP 5 0 rfl rfl (7 + i) (by omega) (by omega) (by decide) d_M_push_199 ?_
        refine we_if_lt (tgt := 210) hx hb (by constructor <;> omega) d_M_push_200 rfl (fun hc200 => ?_) (fun hc200 => ?_)
        ·
          refine lv_iinc (v := eI (((i : Nat) : Int) + 1)) hx hb d_M_push_210 hl (k := 0) rfl (eI_add _ _) (by decide) rfl (fun ls hl => ?_)
          have hl : lv_has ls 4 [(2, .int (eI (((i : Nat) : Int) + 1))), (0, .ref (md 0))] := hl
          refine lv_goto (tgt := 174) hx hb d_M_push_213 rfl ?_
          exact ih (i + 1) H locs ls (by omega) (by omega) (fun z hz h0 => by
            by_cases w : z = i
            · subst w; omega
            · exact hno z (by omega) h0) (lv_sub hl [0, 1] rfl) hP hD hS
        ·
          obtain ⟨rk9, N9, hbt, _⟩ := hbn
          refine lv_aload_n hx hb d_M_push_203 rfl (lv_at hl 1 rfl) ?_
          refine lv_iload_n hx hb d_M_push_204 rfl (lv_at hl 0 rfl) ?_
          refine eh_cMV (As := [.int (eI ((i : Nat) : Int))]) (rest := []) (q := (R_M, T_M, 23)) (wr := [((md 12), aI cI 42 cs)]) hx hb hml hown htb hN (m_M_shift l D cI cL cZ md co n sh ra up lw kn fo cc9 Sv Dv su de fw cs BY rk9 i (by omega) hf hcs hbt (by omega) (by omega) hsu hfw) 1 ⟨tb_786, tb_788, ts_44, tb_7, kin_M_shift⟩ dv_M_shift ⟨by rw [hR1]; decide, by rw [hR2]; decide⟩ hK hP hD hS hA 0 rfl rfl [0, 1, 2, 3, 5] [4] rfl rfl (by decide) rfl (by decide) (by decide) [0, 1, 2] rfl rfl rfl hl.1 (Nat.le_of_ble_eq_true rfl) d_M_push_205 ⟨Nat.zero_le _, Nat.zero_le _⟩ (fun u H locs hu hP hD hS => ?_)
          obtain ⟨su2, de2, fw2⟩ := u
          have hP := hP.sub (ws' := [((md 0), .inr (5, [.int (eI co), .int (eI ((n : Nat) : Int)), .ref (md 1), .ref (md 2), .ref (md 3), .int (eI sh), .int (eI ra), .ref (md 4), .ref (md 5), .ref (md 6), .ref (md 7), .ref (md 8), .long (eL up), .long (eL lw), .ref (md 9), .ref (md 10), .ref (md 11), .ref (md 12), .ref (md 13), .ref (md 14), .ref (md 15), .int (eI kn), .int (eI fo)])), ((md 9), aL cL 7 su2), ((md 10), aL cL 6 de2), ((md 11), aL cL 42 fw2), ((md 12), aI cI 42 cs), ((md 15), aI cI 13 BY)]) [1, 2, 3, 4, 0, 5] rfl
          have hD := hD.sub (ws' := [((md 0), .inr (5, [.int (eI co), .int (eI ((n : Nat) : Int)), .ref (md 1), .ref (md 2), .ref (md 3), .int (eI sh), .int (eI ra), .ref (md 4), .ref (md 5), .ref (md 6), .ref (md 7), .ref (md 8), .long (eL up), .long (eL lw), .ref (md 9), .ref (md 10), .ref (md 11), .ref (md 12), .ref (md 13), .ref (md 14), .ref (md 15), .int (eI kn), .int (eI fo)])), ((md 9), aL cL 7 su2), ((md 10), aL cL 6 de2), ((md 11), aL cL 42 fw2), ((md 12), aI cI 42 cs), ((md 15), aI cI 13 BY)]) [1, 2, 3, 4, 0, 5] (by decide) rfl
          refine lv_iconst (v := eI 1) hx hb d_M_push_208 rfl ?_
          subst hQ
          exact W.zret (v := eI 1) hx hb hrt (by decide) (fun t9 ht hW => ⟨⟨(1, su2, de2, fw2, BY), rfl, Or.inl ⟨rfl, hu⟩, by rw [ht]; exact hP, hD⟩, hS.F ht⟩) hS.2.2 d_M_push_209
  have sweeps : ∀ (q : Nat) (BY : Nat → Int) (mo n0 : Int) (H : Heap) (locs : List Loc) (ls : Array Slot), 13 - eh_cnt BY ≤ (q : Int) - mo → eh_sw cs fw su n0 7 0 BY mo → lv_has ls 4 [(1, .int (eI mo)), (0, .ref (md 0))] → va_P D classes [((md 0), .inr (5, [.int (eI co), .int (eI ((n : Nat) : Int)), .ref (md 1), .ref (md 2), .ref (md 3), .int (eI sh), .int (eI ra), .ref (md 4), .ref (md 5), .ref (md 6), .ref (md 7), .ref (md 8), .long (eL up), .long (eL lw), .ref (md 9), .ref (md 10), .ref (md 11), .ref (md 12), .ref (md 13), .ref (md 14), .ref (md 15), .int (eI kn), .int (eI fo)])), ((md 9), aL cL 7 su), ((md 10), aL cL 6 de), ((md 11), aL cL 42 fw), ((md 12), aI cI 42 cs), ((md 15), aI cI 13 BY)] H → va_D A [((md 0), .inr (5, [.int (eI co), .int (eI ((n : Nat) : Int)), .ref (md 1), .ref (md 2), .ref (md 3), .int (eI sh), .int (eI ra), .ref (md 4), .ref (md 5), .ref (md 6), .ref (md 7), .ref (md 8), .long (eL up), .long (eL lw), .ref (md 9), .ref (md 10), .ref (md 11), .ref (md 12), .ref (md 13), .ref (md 14), .ref (md 15), .int (eI kn), .int (eI fo)])), ((md 9), aL cL 7 su), ((md 10), aL cL 6 de), ((md 11), aL cL 42 fw), ((md 12), aI cI 42 cs), ((md 15), aI cI 13 BY)] → va_S A s.heap H locs → W p l e R s m args below meth c H locs 0 0 Q (F0 m 44 ls []) := by
    intro q
    induction q with
    | zero =>
      intro BY mo n0 H locs ls hq hsw hl hP hD hS
      have hcn := eh_cnt_b BY
      have hmo : mo = 0 ∨ mo = 1 := by rcases hsw.2.2.1 with w | w; exact Or.inl w.1; exact Or.inr w.1
      refine lv_iload_n hx hb d_M_push_44 rfl (lv_at hl 0 rfl) ?_
      refine we_if_eq (tgt := 172) hx hb (by constructor <;> omega) d_M_push_45 rfl (fun hc45 => ?_) (fun hc45 => absurd hc45 (by omega))
      refine lv_iconst (v := eI 0) hx hb d_M_push_172 rfl ?_
      refine lv_istore_n hx hb d_M_push_173 rfl hl (by decide) rfl (fun ls hl => ?_)
      have hl : lv_has ls 4 [(2, .int (eI 0)), (1, .int (eI mo)), (0, .ref (md 0))] := hl
      have hall : ∀ y z, y < 7 → z < 6 → eh_cl cs fw BY y z := by
        rcases hsw.2.2.1 with w | w
        · exact fun y z hy hz => w.2 y z hy hz (by omega)
        · omega
      exact lastl BY hsw.1 hsw.2.1 hall 6 0 H locs ls (by omega) (by omega) (fun z hz => by omega) (lv_sub hl [0, 2] rfl) hP hD hS
    | succ q ih =>
      intro BY mo n0 H locs ls hq hsw hl hP hD hS
      have hcn := eh_cnt_b BY
      have hmo : mo = 0 ∨ mo = 1 := by rcases hsw.2.2.1 with w | w; exact Or.inl w.1; exact Or.inr w.1
      refine lv_iload_n hx hb d_M_push_44 rfl (lv_at hl 0 rfl) ?_
      refine we_if_eq (tgt := 172) hx hb (by constructor <;> omega) d_M_push_45 rfl (fun hc45 => ?_) (fun hc45 => ?_)
      ·
        refine lv_iconst (v := eI 0) hx hb d_M_push_172 rfl ?_
        refine lv_istore_n hx hb d_M_push_173 rfl hl (by decide) rfl (fun ls hl => ?_)
        have hl : lv_has ls 4 [(2, .int (eI 0)), (1, .int (eI mo)), (0, .ref (md 0))] := hl
        have hall : ∀ y z, y < 7 → z < 6 → eh_cl cs fw BY y z := by
          rcases hsw.2.2.1 with w | w
          · exact fun y z hy hz => w.2 y z hy hz (by omega)
          · omega
        exact lastl BY hsw.1 hsw.2.1 hall 6 0 H locs ls (by omega) (by omega) (fun z hz => by omega) (lv_sub hl [0, 2] rfl) hP hD hS
      ·
        refine lv_iconst (v := eI 0) hx hb d_M_push_48 rfl ?_
        refine lv_istore_n hx hb d_M_push_49 rfl hl (by decide) rfl (fun ls hl => ?_)
        have hl : lv_has ls 4 [(1, .int (eI 0)), (0, .ref (md 0))] := hl
        refine lv_iconst (v := eI 0) hx hb d_M_push_50 rfl ?_
        refine lv_istore_n hx hb d_M_push_51 rfl hl (by decide) rfl (fun ls hl => ?_)
        have hl : lv_has ls 4 [(2, .int (eI 0)), (1, .int (eI 0)), (0, .ref (md 0))] := hl
        have rows : ∀ (q3 y : Nat) (BY3 : Nat → Int) (mo : Int) (H : Heap) (locs : List Loc) (ls : Array Slot), 7 - y = q3 → y ≤ 7 → eh_sw cs fw su (eh_cnt BY) y 0 BY3 mo → lv_has ls 4 [(2, .int (eI ((y : Nat) : Int))), (1, .int (eI mo)), (0, .ref (md 0))] → va_P D classes [((md 0), .inr (5, [.int (eI co), .int (eI ((n : Nat) : Int)), .ref (md 1), .ref (md 2), .ref (md 3), .int (eI sh), .int (eI ra), .ref (md 4), .ref (md 5), .ref (md 6), .ref (md 7), .ref (md 8), .long (eL up), .long (eL lw), .ref (md 9), .ref (md 10), .ref (md 11), .ref (md 12), .ref (md 13), .ref (md 14), .ref (md 15), .int (eI kn), .int (eI fo)])), ((md 9), aL cL 7 su), ((md 10), aL cL 6 de), ((md 11), aL cL 42 fw), ((md 12), aI cI 42 cs), ((md 15), aI cI 13 BY3)] H → va_D A [((md 0), .inr (5, [.int (eI co), .int (eI ((n : Nat) : Int)), .ref (md 1), .ref (md 2), .ref (md 3), .int (eI sh), .int (eI ra), .ref (md 4), .ref (md 5), .ref (md 6), .ref (md 7), .ref (md 8), .long (eL up), .long (eL lw), .ref (md 9), .ref (md 10), .ref (md 11), .ref (md 12), .ref (md 13), .ref (md 14), .ref (md 15), .int (eI kn), .int (eI fo)])), ((md 9), aL cL 7 su), ((md 10), aL cL 6 de), ((md 11), aL cL 42 fw), ((md 12), aI cI 42 cs), ((md 15), aI cI 13 BY3)] → va_S A s.heap H locs → W p l e R s m args below meth c H locs 0 0 Q (F0 m 52 ls []) := by
          intro q3
          induction q3 with
          | zero =>
            intro y BY3 mo H locs ls hq3 hy hsw3 hl hP hD hS
            have hy7 : y = 7 := by omega
            subst hy7
            refine lv_iload_n hx hb d_M_push_52 rfl (lv_at hl 0 rfl) ?_
            refine lv_bipush (v := eI 7) hx hb d_M_push_53 (by decide) ?_
            refine we_icmp_ge (tgt := 169) hx hb (by constructor <;> omega) (by constructor <;> omega) d_M_push_55 rfl (fun hc55 => ?_) (fun hc55 => absurd hc55 (by omega))
            refine lv_goto (tgt := 44) hx hb d_M_push_169 rfl ?_
            exact ih BY3 mo _ H locs ls (by
              have w4 := hsw3.2.2.2
              rcases hsw3.2.2.1 with w | w
              · omega
              · omega) hsw3 (lv_sub hl [1, 2] rfl) hP hD hS
          | succ q3 ih3 =>
            intro y BY3 mo H locs ls hq3 hy hsw3 hl hP hD hS
            refine lv_iload_n hx hb d_M_push_52 rfl (lv_at hl 0 rfl) ?_
            refine lv_bipush (v := eI 7) hx hb d_M_push_53 (by decide) ?_
            refine we_icmp_ge (tgt := 169) hx hb (by constructor <;> omega) (by constructor <;> omega) d_M_push_55 rfl (fun hc55 => absurd hc55 (by omega)) (fun hc55 => ?_)
            refine lv_iconst (v := eI 0) hx hb d_M_push_58 rfl ?_
            refine lv_istore_n hx hb d_M_push_59 rfl hl (by decide) rfl (fun ls hl => ?_)
            have hl : lv_has ls 4 [(3, .int (eI 0)), (2, .int (eI ((y : Nat) : Int))), (1, .int (eI mo)), (0, .ref (md 0))] := hl
            have cols : ∀ (q4 z : Nat) (BY4 : Nat → Int) (mo : Int) (H : Heap) (locs : List Loc) (ls : Array Slot), 6 - z = q4 → z ≤ 6 → eh_sw cs fw su (eh_cnt BY) y z BY4 mo → lv_has ls 4 [(3, .int (eI ((z : Nat) : Int))), (2, .int (eI ((y : Nat) : Int))), (1, .int (eI mo)), (0, .ref (md 0))] → va_P D classes [((md 0), .inr (5, [.int (eI co), .int (eI ((n : Nat) : Int)), .ref (md 1), .ref (md 2), .ref (md 3), .int (eI sh), .int (eI ra), .ref (md 4), .ref (md 5), .ref (md 6), .ref (md 7), .ref (md 8), .long (eL up), .long (eL lw), .ref (md 9), .ref (md 10), .ref (md 11), .ref (md 12), .ref (md 13), .ref (md 14), .ref (md 15), .int (eI kn), .int (eI fo)])), ((md 9), aL cL 7 su), ((md 10), aL cL 6 de), ((md 11), aL cL 42 fw), ((md 12), aI cI 42 cs), ((md 15), aI cI 13 BY4)] H → va_D A [((md 0), .inr (5, [.int (eI co), .int (eI ((n : Nat) : Int)), .ref (md 1), .ref (md 2), .ref (md 3), .int (eI sh), .int (eI ra), .ref (md 4), .ref (md 5), .ref (md 6), .ref (md 7), .ref (md 8), .long (eL up), .long (eL lw), .ref (md 9), .ref (md 10), .ref (md 11), .ref (md 12), .ref (md 13), .ref (md 14), .ref (md 15), .int (eI kn), .int (eI fo)])), ((md 9), aL cL 7 su), ((md 10), aL cL 6 de), ((md 11), aL cL 42 fw), ((md 12), aI cI 42 cs), ((md 15), aI cI 13 BY4)] → va_S A s.heap H locs → W p l e R s m args below meth c H locs 0 0 Q (F0 m 60 ls []) := by
              intro q4
              induction q4 with
              | zero =>
                intro z BY4 mo H locs ls hq4 hz hsw4 hl hP hD hS
                have hz6 : z = 6 := by omega
                subst hz6
                refine lv_iload_n hx hb d_M_push_60 rfl (lv_at hl 0 rfl) ?_
                refine lv_bipush (v := eI 6) hx hb d_M_push_61 (by decide) ?_
                refine we_icmp_ge (tgt := 163) hx hb (by constructor <;> omega) (by constructor <;> omega) d_M_push_63 rfl (fun hc63 => ?_) (fun hc63 => absurd hc63 (by omega))
                refine lv_iinc (v := eI (((y : Nat) : Int) + 1)) hx hb d_M_push_163 hl (k := 1) rfl (eI_add _ _) (by decide) rfl (fun ls hl => ?_)
                have hl : lv_has ls 4 [(2, .int (eI (((y : Nat) : Int) + 1))), (3, .int (eI ((6 : Nat) : Int))), (1, .int (eI mo)), (0, .ref (md 0))] := hl
                refine lv_goto (tgt := 52) hx hb d_M_push_166 rfl ?_
                exact ih3 (y + 1) BY4 mo H locs ls (by omega) (by omega) (eh_sw_row hsw4) (lv_sub hl [0, 2, 3] rfl) hP hD hS
              | succ q4 ih4 =>
                have second : ∀ (z : Nat) (BY4 : Nat → Int) (mo : Int) (H : Heap) (locs : List Loc) (ls : Array Slot), 6 - z = q4 + 1 → z ≤ 6 → (0 ≤ BY4 y ∧ eh_sw cs fw su (eh_cnt BY) y (z + 1) BY4 mo ∨ (0 ≤ BY4 y → 0 ≤ cs (6 * y + z) → 0 ≤ BY4 (7 + z)) ∧ eh_sw cs fw su (eh_cnt BY) y z BY4 mo) → lv_has ls 4 [(3, .int (eI ((z : Nat) : Int))), (2, .int (eI ((y : Nat) : Int))), (1, .int (eI mo)), (0, .ref (md 0))] → va_P D classes [((md 0), .inr (5, [.int (eI co), .int (eI ((n : Nat) : Int)), .ref (md 1), .ref (md 2), .ref (md 3), .int (eI sh), .int (eI ra), .ref (md 4), .ref (md 5), .ref (md 6), .ref (md 7), .ref (md 8), .long (eL up), .long (eL lw), .ref (md 9), .ref (md 10), .ref (md 11), .ref (md 12), .ref (md 13), .ref (md 14), .ref (md 15), .int (eI kn), .int (eI fo)])), ((md 9), aL cL 7 su), ((md 10), aL cL 6 de), ((md 11), aL cL 42 fw), ((md 12), aI cI 42 cs), ((md 15), aI cI 13 BY4)] H → va_D A [((md 0), .inr (5, [.int (eI co), .int (eI ((n : Nat) : Int)), .ref (md 1), .ref (md 2), .ref (md 3), .int (eI sh), .int (eI ra), .ref (md 4), .ref (md 5), .ref (md 6), .ref (md 7), .ref (md 8), .long (eL up), .long (eL lw), .ref (md 9), .ref (md 10), .ref (md 11), .ref (md 12), .ref (md 13), .ref (md 14), .ref (md 15), .int (eI kn), .int (eI fo)])), ((md 9), aL cL 7 su), ((md 10), aL cL 6 de), ((md 11), aL cL 42 fw), ((md 12), aI cI 42 cs), ((md 15), aI cI 13 BY4)] → va_S A s.heap H locs → W p l e R s m args below meth c H locs 0 0 Q (F0 m 108 ls []) := by
                  intro z BY4 mo H locs ls hq4 hz hor hl hP hD hS
                  have hbn4 : eh_bn cs fw su BY4 := by rcases hor with w | w; exact w.2.1; exact w.2.1
                  have hb4 : ∀ v, v < 13 → -1 ≤ BY4 v ∧ BY4 v < 13 := by obtain ⟨rk, N, hbt, _⟩ := hbn4; exact hbt.1
                  have hb4y := hb4 y (by omega)
                  have hb4z := hb4 (7 + z) (by omega)
                  have hfz := hfw (6 * y + z) (by omega)
                  refine lv_aload_n hx hb d_M_push_108 rfl (lv_at hl 3 rfl) ?_
                  refine va_get (D := D) (ci := 5) (v := .ref (md 15)) (C := R_M) (T := T_M) (N := 23) hx hb htb in_M hown hK hP 0 rfl rfl 20 (by decide) (htb _ tb_608) (fun _ h9 => h9) rfl d_M_push_109 ?_
                  refine lv_iload_n hx hb d_M_push_112 rfl (lv_at hl 1 rfl) ?_
                  refine we_iald hx hb hK hP 5 0 rfl rfl y rfl (by omega) (by decide) d_M_push_113 ?_
                  refine we_if_ge (tgt := 157) hx hb (by constructor <;> omega) d_M_push_114 rfl (fun hc114 => ?_) (fun hc114 => ?_)
                  ·
                    refine lv_iinc (v := eI (((z : Nat) : Int) + 1)) hx hb d_M_push_157 hl (k := 0) rfl (eI_add _ _) (by decide) rfl (fun ls hl => ?_)
                    have hl : lv_has ls 4 [(3, .int (eI (((z : Nat) : Int) + 1))), (2, .int (eI ((y : Nat) : Int))), (1, .int (eI mo)), (0, .ref (md 0))] := hl
                    refine lv_goto (tgt := 60) hx hb d_M_push_160 rfl ?_
                    have hsw5 : eh_sw cs fw su (eh_cnt BY) y (z + 1) BY4 mo := by
                      rcases hor with w | w
                      · first | exact w.2 | omega
                      · exact eh_sw_skip w.2 (by omega) ⟨w.1, fun a1 a2 => by omega⟩
                    exact ih4 (z + 1) _ _ H locs ls (by omega) (by omega) hsw5 (lv_sub hl [0, 1, 2, 3] rfl) hP hD hS
                  ·
                    refine lv_aload_n hx hb d_M_push_117 rfl (lv_at hl 3 rfl) ?_
                    refine va_get (D := D) (ci := 5) (v := .ref (md 15)) (C := R_M) (T := T_M) (N := 23) hx hb htb in_M hown hK hP 0 rfl rfl 20 (by decide) (htb _ tb_608) (fun _ h9 => h9) rfl d_M_push_118 ?_
                    refine lv_bipush (v := eI 7) hx hb d_M_push_121 (by decide) ?_
                    refine lv_iload_n hx hb d_M_push_123 rfl (lv_at hl 0 rfl) ?_
                    refine we_iadd hx hb d_M_push_124 ?_
                    refine we_iald hx hb hK hP 5 0 rfl rfl (7 + z) (by omega) (by omega) (by decide) d_M_push_125 ?_
                    refine we_if_lt (tgt := 157) hx hb (by constructor <;> omega) d_M_push_126 rfl (fun hc126 => ?_) (fun hc126 => ?_)
                    ·
                      refine lv_iinc (v := eI (((z : Nat) : Int) + 1)) hx hb d_M_push_157 hl (k := 0) rfl (eI_add _ _) (by decide) rfl (fun ls hl => ?_)
                      have hl : lv_has ls 4 [(3, .int (eI (((z : Nat) : Int) + 1))), (2, .int (eI ((y : Nat) : Int))), (1, .int (eI mo)), (0, .ref (md 0))] := hl
                      refine lv_goto (tgt := 60) hx hb d_M_push_160 rfl ?_
                      have hsw5 : eh_sw cs fw su (eh_cnt BY) y (z + 1) BY4 mo := by
                        rcases hor with w | w
                        · first | exact w.2 | omega
                        · exact eh_sw_skip w.2 (by omega) ⟨w.1, fun a1 a2 => by omega⟩
                      exact ih4 (z + 1) _ _ H locs ls (by omega) (by omega) hsw5 (lv_sub hl [0, 1, 2, 3] rfl) hP hD hS
                    ·
                      refine lv_aload_n hx hb d_M_push_129 rfl (lv_at hl 3 rfl) ?_
                      refine va_get (D := D) (ci := 5) (v := .ref (md 11)) (C := R_M) (T := T_M) (N := 23) hx hb htb in_M hown hK hP 0 rfl rfl 16 (by decide) (htb _ tb_604) (fun _ h9 => h9) rfl d_M_push_130 ?_
                      refine lv_bipush (v := eI 6) hx hb d_M_push_133 (by decide) ?_
                      refine lv_iload_n hx hb d_M_push_135 rfl (lv_at hl 1 rfl) ?_
                      refine we_imul hx hb d_M_push_136 ?_
                      refine lv_iload_n hx hb d_M_push_137 rfl (lv_at hl 0 rfl) ?_
                      refine we_iadd hx hb d_M_push_138 ?_
                      refine we_lald hx hb hK hP 3 1 rfl rfl (6 * y + z) (by omega) (by omega) (by decide) d_M_push_139 ?_
                      refine lv_lconst (v := eL 0) hx hb d_M_push_140 (by decide) ?_
                      refine we_lcmp_le (pc2 := 142) (tgt := 157) hx hb (by constructor <;> omega) (by constructor <;> omega) d_M_push_141 rfl d_M_push_142 rfl (fun hc141 => ?_) (fun hc141 => ?_)
                      ·
                        refine lv_iinc (v := eI (((z : Nat) : Int) + 1)) hx hb d_M_push_157 hl (k := 0) rfl (eI_add _ _) (by decide) rfl (fun ls hl => ?_)
                        have hl : lv_has ls 4 [(3, .int (eI (((z : Nat) : Int) + 1))), (2, .int (eI ((y : Nat) : Int))), (1, .int (eI mo)), (0, .ref (md 0))] := hl
                        refine lv_goto (tgt := 60) hx hb d_M_push_160 rfl ?_
                        have hsw5 : eh_sw cs fw su (eh_cnt BY) y (z + 1) BY4 mo := by
                          rcases hor with w | w
                          · first | exact w.2 | omega
                          · exact eh_sw_skip w.2 (by omega) ⟨w.1, fun a1 a2 => by omega⟩
                        exact ih4 (z + 1) _ _ H locs ls (by omega) (by omega) hsw5 (lv_sub hl [0, 1, 2, 3] rfl) hP hD hS
                      ·
                        refine lv_aload_n hx hb d_M_push_145 rfl (lv_at hl 3 rfl) ?_
                        refine va_get (D := D) (ci := 5) (v := .ref (md 15)) (C := R_M) (T := T_M) (N := 23) hx hb htb in_M hown hK hP 0 rfl rfl 20 (by decide) (htb _ tb_608) (fun _ h9 => h9) rfl d_M_push_146 ?_
                        refine lv_iload_n hx hb d_M_push_149 rfl (lv_at hl 1 rfl) ?_
                        refine lv_bipush (v := eI 7) hx hb d_M_push_150 (by decide) ?_
                        refine lv_iload_n hx hb d_M_push_152 rfl (lv_at hl 0 rfl) ?_
                        refine we_iadd hx hb d_M_push_153 ?_
                        refine we_iast hx hb hK hP hD hS 5 0 rfl rfl y rfl (by omega) (by decide) d_M_push_154 (fun H locs hP hD hS => ?_)
                        have hP : va_P D classes [((md 0), .inr (5, [.int (eI co), .int (eI ((n : Nat) : Int)), .ref (md 1), .ref (md 2), .ref (md 3), .int (eI sh), .int (eI ra), .ref (md 4), .ref (md 5), .ref (md 6), .ref (md 7), .ref (md 8), .long (eL up), .long (eL lw), .ref (md 9), .ref (md 10), .ref (md 11), .ref (md 12), .ref (md 13), .ref (md 14), .ref (md 15), .int (eI kn), .int (eI fo)])), ((md 9), aL cL 7 su), ((md 10), aL cL 6 de), ((md 11), aL cL 42 fw), ((md 12), aI cI 42 cs), ((md 15), aI cI 13 (eh_upd BY4 y (7 + ((z : Nat) : Int))))] H := hP
                        have hD : va_D A [((md 0), .inr (5, [.int (eI co), .int (eI ((n : Nat) : Int)), .ref (md 1), .ref (md 2), .ref (md 3), .int (eI sh), .int (eI ra), .ref (md 4), .ref (md 5), .ref (md 6), .ref (md 7), .ref (md 8), .long (eL up), .long (eL lw), .ref (md 9), .ref (md 10), .ref (md 11), .ref (md 12), .ref (md 13), .ref (md 14), .ref (md 15), .int (eI kn), .int (eI fo)])), ((md 9), aL cL 7 su), ((md 10), aL cL 6 de), ((md 11), aL cL 42 fw), ((md 12), aI cI 42 cs), ((md 15), aI cI 13 (eh_upd BY4 y (7 + ((z : Nat) : Int))))] := hD
                        refine lv_iconst (v := eI 1) hx hb d_M_push_155 rfl ?_
                        refine lv_istore_n hx hb d_M_push_156 rfl hl (by decide) rfl (fun ls hl => ?_)
                        have hl : lv_has ls 4 [(1, .int (eI 1)), (3, .int (eI ((z : Nat) : Int))), (2, .int (eI ((y : Nat) : Int))), (0, .ref (md 0))] := hl
                        refine lv_iinc (v := eI (((z : Nat) : Int) + 1)) hx hb d_M_push_157 hl (k := 1) rfl (eI_add _ _) (by decide) rfl (fun ls hl => ?_)
                        have hl : lv_has ls 4 [(3, .int (eI (((z : Nat) : Int) + 1))), (1, .int (eI 1)), (2, .int (eI ((y : Nat) : Int))), (0, .ref (md 0))] := hl
                        refine lv_goto (tgt := 60) hx hb d_M_push_160 rfl ?_
                        have hsw5 : eh_sw cs fw su (eh_cnt BY) y (z + 1) (eh_upd BY4 y ((7 + z : Nat) : Int)) 1 := by
                          rcases hor with w | w
                          · omega
                          · exact eh_sw_2 w.2 (by omega) (by omega) (by omega) (by omega) (by omega)
                        exact ih4 (z + 1) _ _ H locs ls (by omega) (by omega) hsw5 (lv_sub hl [0, 2, 1, 3] rfl) hP hD hS
                intro z BY4 mo H locs ls hq4 hz hsw4 hl hP hD hS
                have hb4 : ∀ v, v < 13 → -1 ≤ BY4 v ∧ BY4 v < 13 := by obtain ⟨rk, N, hbt, _⟩ := hsw4.1; exact hbt.1
                have hb4y := hb4 y (by omega)
                have hb4z := hb4 (7 + z) (by omega)
                have hcz := hcb (6 * y + z) (by omega)
                refine lv_iload_n hx hb d_M_push_60 rfl (lv_at hl 0 rfl) ?_
                refine lv_bipush (v := eI 6) hx hb d_M_push_61 (by decide) ?_
                refine we_icmp_ge (tgt := 163) hx hb (by constructor <;> omega) (by constructor <;> omega) d_M_push_63 rfl (fun hc63 => absurd hc63 (by omega)) (fun hc63 => ?_)
                refine lv_aload_n hx hb d_M_push_66 rfl (lv_at hl 3 rfl) ?_
                refine va_get (D := D) (ci := 5) (v := .ref (md 15)) (C := R_M) (T := T_M) (N := 23) hx hb htb in_M hown hK hP 0 rfl rfl 20 (by decide) (htb _ tb_608) (fun _ h9 => h9) rfl d_M_push_67 ?_
                refine lv_iload_n hx hb d_M_push_70 rfl (lv_at hl 1 rfl) ?_
                refine we_iald hx hb hK hP 5 0 rfl rfl y rfl (by omega) (by decide) d_M_push_71 ?_
                refine we_if_lt (tgt := 108) hx hb (by constructor <;> omega) d_M_push_72 rfl (fun hc72 => ?_) (fun hc72 => ?_)
                ·
                  exact second z BY4 mo H locs ls hq4 hz (Or.inr ⟨fun a1 a2 => by first | omega | (rw [if_pos a2] at hc93; omega), hsw4⟩) (lv_sub hl [0, 1, 2, 3] rfl) hP hD hS
                ·
                  refine lv_aload_n hx hb d_M_push_75 rfl (lv_at hl 3 rfl) ?_
                  refine va_get (D := D) (ci := 5) (v := .ref (md 15)) (C := R_M) (T := T_M) (N := 23) hx hb htb in_M hown hK hP 0 rfl rfl 20 (by decide) (htb _ tb_608) (fun _ h9 => h9) rfl d_M_push_76 ?_
                  refine lv_bipush (v := eI 7) hx hb d_M_push_79 (by decide) ?_
                  refine lv_iload_n hx hb d_M_push_81 rfl (lv_at hl 0 rfl) ?_
                  refine we_iadd hx hb d_M_push_82 ?_
                  refine we_iald hx hb hK hP 5 0 rfl rfl (7 + z) (by omega) (by omega) (by decide) d_M_push_83 ?_
                  refine we_if_ge (tgt := 108) hx hb (by constructor <;> omega) d_M_push_84 rfl (fun hc84 => ?_) (fun hc84 => ?_)
                  ·
                    exact second z BY4 mo H locs ls hq4 hz (Or.inr ⟨fun a1 a2 => by first | omega | (rw [if_pos a2] at hc93; omega), hsw4⟩) (lv_sub hl [0, 1, 2, 3] rfl) hP hD hS
                  ·
                    refine lv_aload_n hx hb d_M_push_87 rfl (lv_at hl 3 rfl) ?_
                    refine lv_iload_n hx hb d_M_push_88 rfl (lv_at hl 1 rfl) ?_
                    refine lv_iload_n hx hb d_M_push_89 rfl (lv_at hl 0 rfl) ?_
                    refine eh_cRV (As := [.int (eI ((y : Nat) : Int)), .int (eI ((z : Nat) : Int))]) (rest := []) (v := .int (eI (if 0 ≤ cs (6 * y + z) then 1 else 0))) (q := (R_M, T_M, 23)) hx hb hml hown htb hN (r_M_isArc l D cI cL cZ md co n sh ra up lw kn fo cs hcb y z (by omega) (by omega)) 2 ⟨tb_782, tb_784, ts_43, tb_7, kin_M_isArc⟩ dv_M_isArc ⟨by rw [hR1]; decide, by rw [hR2]; decide⟩ hK hP 0 rfl rfl [0, 4] rfl [0, 1, 2] rfl rfl rfl hl.1 (Nat.le_of_ble_eq_true rfl) d_M_push_90 ⟨Nat.zero_le _, Nat.zero_le _⟩ ?_
                    refine we_if_eq (tgt := 108) hx hb (by constructor <;> split <;> omega) d_M_push_93 rfl (fun hc93 => ?_) (fun hc93 => ?_)
                    ·
                      exact second z BY4 mo H locs ls hq4 hz (Or.inr ⟨fun a1 a2 => by first | omega | (rw [if_pos a2] at hc93; omega), hsw4⟩) (lv_sub hl [0, 1, 2, 3] rfl) hP hD hS
                    ·
                      refine lv_aload_n hx hb d_M_push_96 rfl (lv_at hl 3 rfl) ?_
                      refine va_get (D := D) (ci := 5) (v := .ref (md 15)) (C := R_M) (T := T_M) (N := 23) hx hb htb in_M hown hK hP 0 rfl rfl 20 (by decide) (htb _ tb_608) (fun _ h9 => h9) rfl d_M_push_97 ?_
                      refine lv_bipush (v := eI 7) hx hb d_M_push_100 (by decide) ?_
                      refine lv_iload_n hx hb d_M_push_102 rfl (lv_at hl 0 rfl) ?_
                      refine we_iadd hx hb d_M_push_103 ?_
                      refine lv_iload_n hx hb d_M_push_104 rfl (lv_at hl 1 rfl) ?_
                      refine we_iast hx hb hK hP hD hS 5 0 rfl rfl (7 + z) (by omega) (by omega) (by decide) d_M_push_105 (fun H locs hP hD hS => ?_)
                      have hP : va_P D classes [((md 0), .inr (5, [.int (eI co), .int (eI ((n : Nat) : Int)), .ref (md 1), .ref (md 2), .ref (md 3), .int (eI sh), .int (eI ra), .ref (md 4), .ref (md 5), .ref (md 6), .ref (md 7), .ref (md 8), .long (eL up), .long (eL lw), .ref (md 9), .ref (md 10), .ref (md 11), .ref (md 12), .ref (md 13), .ref (md 14), .ref (md 15), .int (eI kn), .int (eI fo)])), ((md 9), aL cL 7 su), ((md 10), aL cL 6 de), ((md 11), aL cL 42 fw), ((md 12), aI cI 42 cs), ((md 15), aI cI 13 (eh_upd BY4 (7 + z) ((y : Nat) : Int)))] H := hP
                      have hD : va_D A [((md 0), .inr (5, [.int (eI co), .int (eI ((n : Nat) : Int)), .ref (md 1), .ref (md 2), .ref (md 3), .int (eI sh), .int (eI ra), .ref (md 4), .ref (md 5), .ref (md 6), .ref (md 7), .ref (md 8), .long (eL up), .long (eL lw), .ref (md 9), .ref (md 10), .ref (md 11), .ref (md 12), .ref (md 13), .ref (md 14), .ref (md 15), .int (eI kn), .int (eI fo)])), ((md 9), aL cL 7 su), ((md 10), aL cL 6 de), ((md 11), aL cL 42 fw), ((md 12), aI cI 42 cs), ((md 15), aI cI 13 (eh_upd BY4 (7 + z) ((y : Nat) : Int)))] := hD
                      refine lv_iconst (v := eI 1) hx hb d_M_push_106 rfl ?_
                      refine lv_istore_n hx hb d_M_push_107 rfl hl (by decide) rfl (fun ls hl => ?_)
                      have hl : lv_has ls 4 [(1, .int (eI 1)), (3, .int (eI ((z : Nat) : Int))), (2, .int (eI ((y : Nat) : Int))), (0, .ref (md 0))] := hl
                      have hcp : 0 ≤ cs (6 * y + z) := by
                        by_cases w : 0 ≤ cs (6 * y + z)
                        · exact w
                        · exact absurd (if_neg w) hc93
                      exact second z _ 1 H locs ls hq4 hz (Or.inl ⟨by rw [eh_upd_n _ _ (by omega)]; omega, eh_sw_1 hsw4 (by omega) (by omega) (by omega) (by omega) hcp⟩) (lv_sub hl [1, 2, 0, 3] rfl) hP hD hS
            exact cols 6 0 BY3 mo H locs ls (by omega) (by omega) hsw3 (lv_sub hl [0, 1, 2, 3] rfl) hP hD hS
        exact rows 7 0 BY 0 H locs ls (by omega) (by omega) (eh_sw_new hsw) (lv_sub hl [0, 1, 2] rfl) hP hD hS
  refine lv_iconst (v := eI 0) hx hb d_M_push_0 rfl ?_
  refine lv_istore_n hx hb d_M_push_1 rfl hl (by decide) rfl (fun ls hl => ?_)
  have hl : lv_has ls 4 [(1, .int (eI 0)), (0, .ref (md 0))] := hl
  have firstl : ∀ (q i : Nat) (BY : Nat → Int) (H : Heap) (locs : List Loc) (ls : Array Slot), 13 - i = q → i ≤ 13 → (∀ v, v < i → BY v = if v < 7 ∧ 0 < su v then (v : Int) else -1) → lv_has ls 4 [(1, .int (eI ((i : Nat) : Int))), (0, .ref (md 0))] → va_P D classes [((md 0), .inr (5, [.int (eI co), .int (eI ((n : Nat) : Int)), .ref (md 1), .ref (md 2), .ref (md 3), .int (eI sh), .int (eI ra), .ref (md 4), .ref (md 5), .ref (md 6), .ref (md 7), .ref (md 8), .long (eL up), .long (eL lw), .ref (md 9), .ref (md 10), .ref (md 11), .ref (md 12), .ref (md 13), .ref (md 14), .ref (md 15), .int (eI kn), .int (eI fo)])), ((md 9), aL cL 7 su), ((md 10), aL cL 6 de), ((md 11), aL cL 42 fw), ((md 12), aI cI 42 cs), ((md 15), aI cI 13 BY)] H → va_D A [((md 0), .inr (5, [.int (eI co), .int (eI ((n : Nat) : Int)), .ref (md 1), .ref (md 2), .ref (md 3), .int (eI sh), .int (eI ra), .ref (md 4), .ref (md 5), .ref (md 6), .ref (md 7), .ref (md 8), .long (eL up), .long (eL lw), .ref (md 9), .ref (md 10), .ref (md 11), .ref (md 12), .ref (md 13), .ref (md 14), .ref (md 15), .int (eI kn), .int (eI fo)])), ((md 9), aL cL 7 su), ((md 10), aL cL 6 de), ((md 11), aL cL 42 fw), ((md 12), aI cI 42 cs), ((md 15), aI cI 13 BY)] → va_S A s.heap H locs → W p l e R s m args below meth c H locs 0 0 Q (F0 m 2 ls []) := by
    intro q
    induction q with
    | zero =>
      intro i BY H locs ls hq hi hB hl hP hD hS
      have hi13 : i = 13 := by omega
      subst hi13
      refine lv_iload_n hx hb d_M_push_2 rfl (lv_at hl 0 rfl) ?_
      refine lv_bipush (v := eI 13) hx hb d_M_push_3 (by decide) ?_
      refine we_icmp_ge (tgt := 42) hx hb (by constructor <;> omega) (by constructor <;> omega) d_M_push_5 rfl (fun hc5 => ?_) (fun hc5 => absurd hc5 (by omega))
      refine lv_iconst (v := eI 1) hx hb d_M_push_42 rfl ?_
      refine lv_istore_n hx hb d_M_push_43 rfl hl (by decide) rfl (fun ls hl => ?_)
      have hl : lv_has ls 4 [(1, .int (eI 1)), (0, .ref (md 0))] := hl
      have hcn := eh_cnt_b BY
      exact sweeps 14 BY 1 (-1) H locs ls (by omega) ⟨eh_bn_0 hB, fun v hv hs => by rw [hB v (by omega), if_pos ⟨hv, hs⟩]; omega, Or.inr ⟨rfl, by omega⟩, by omega⟩ (lv_sub hl [0, 1] rfl) hP hD hS
    | succ q ih =>
      intro i BY H locs ls hq hi hB hl hP hD hS
      refine lv_iload_n hx hb d_M_push_2 rfl (lv_at hl 0 rfl) ?_
      refine lv_bipush (v := eI 13) hx hb d_M_push_3 (by decide) ?_
      refine we_icmp_ge (tgt := 42) hx hb (by constructor <;> omega) (by constructor <;> omega) d_M_push_5 rfl (fun hc5 => absurd hc5 (by omega)) (fun hc5 => ?_)
      refine lv_aload_n hx hb d_M_push_8 rfl (lv_at hl 1 rfl) ?_
      refine va_get (D := D) (ci := 5) (v := .ref (md 15)) (C := R_M) (T := T_M) (N := 23) hx hb htb in_M hown hK hP 0 rfl rfl 20 (by decide) (htb _ tb_608) (fun _ h9 => h9) rfl d_M_push_9 ?_
      refine lv_iload_n hx hb d_M_push_12 rfl (lv_at hl 0 rfl) ?_
      refine lv_iload_n hx hb d_M_push_13 rfl (lv_at hl 0 rfl) ?_
      refine lv_bipush (v := eI 7) hx hb d_M_push_14 (by decide) ?_
      refine we_icmp_ge (tgt := 34) hx hb (by constructor <;> omega) (by constructor <;> omega) d_M_push_16 rfl (fun hc16 => ?_) (fun hc16 => ?_)
      ·
        refine lv_iconst (v := eI (-1)) hx hb d_M_push_34 rfl ?_
        refine we_iast hx hb hK hP hD hS 5 0 rfl rfl i rfl (by omega) (by decide) d_M_push_35 (fun H locs hP hD hS => ?_)
        have hP : va_P D classes [((md 0), .inr (5, [.int (eI co), .int (eI ((n : Nat) : Int)), .ref (md 1), .ref (md 2), .ref (md 3), .int (eI sh), .int (eI ra), .ref (md 4), .ref (md 5), .ref (md 6), .ref (md 7), .ref (md 8), .long (eL up), .long (eL lw), .ref (md 9), .ref (md 10), .ref (md 11), .ref (md 12), .ref (md 13), .ref (md 14), .ref (md 15), .int (eI kn), .int (eI fo)])), ((md 9), aL cL 7 su), ((md 10), aL cL 6 de), ((md 11), aL cL 42 fw), ((md 12), aI cI 42 cs), ((md 15), aI cI 13 (eh_upd BY i (-1)))] H := hP
        have hD : va_D A [((md 0), .inr (5, [.int (eI co), .int (eI ((n : Nat) : Int)), .ref (md 1), .ref (md 2), .ref (md 3), .int (eI sh), .int (eI ra), .ref (md 4), .ref (md 5), .ref (md 6), .ref (md 7), .ref (md 8), .long (eL up), .long (eL lw), .ref (md 9), .ref (md 10), .ref (md 11), .ref (md 12), .ref (md 13), .ref (md 14), .ref (md 15), .int (eI kn), .int (eI fo)])), ((md 9), aL cL 7 su), ((md 10), aL cL 6 de), ((md 11), aL cL 42 fw), ((md 12), aI cI 42 cs), ((md 15), aI cI 13 (eh_upd BY i (-1)))] := hD
        refine lv_iinc (v := eI (((i : Nat) : Int) + 1)) hx hb d_M_push_36 hl (k := 0) rfl (eI_add _ _) (by decide) rfl (fun ls hl => ?_)
        have hl : lv_has ls 4 [(1, .int (eI (((i : Nat) : Int) + 1))), (0, .ref (md 0))] := hl
        refine lv_goto (tgt := 2) hx hb d_M_push_39 rfl ?_
        exact ih (i + 1) _ H locs ls (by omega) (by omega) (fun v hv => by
          by_cases w : v = i
          · rw [w, eh_upd_s, if_neg (by omega)]
          · rw [eh_upd_n _ _ w]; exact hB v (by omega)) (lv_sub hl [0, 1] rfl) hP hD hS
      ·
        have hsi := hsu i (by omega)
        refine lv_aload_n hx hb d_M_push_19 rfl (lv_at hl 1 rfl) ?_
        refine va_get (D := D) (ci := 5) (v := .ref (md 9)) (C := R_M) (T := T_M) (N := 23) hx hb htb in_M hown hK hP 0 rfl rfl 14 (by decide) (htb _ tb_602) (fun _ h9 => h9) rfl d_M_push_20 ?_
        refine lv_iload_n hx hb d_M_push_23 rfl (lv_at hl 0 rfl) ?_
        refine we_lald hx hb hK hP 1 1 rfl rfl i rfl (by omega) (by decide) d_M_push_24 ?_
        refine lv_lconst (v := eL 0) hx hb d_M_push_25 (by decide) ?_
        refine we_lcmp_le (pc2 := 27) (tgt := 34) hx hb (by constructor <;> omega) (by constructor <;> omega) d_M_push_26 rfl d_M_push_27 rfl (fun hc26 => ?_) (fun hc26 => ?_)
        ·
          refine lv_iconst (v := eI (-1)) hx hb d_M_push_34 rfl ?_
          refine we_iast hx hb hK hP hD hS 5 0 rfl rfl i rfl (by omega) (by decide) d_M_push_35 (fun H locs hP hD hS => ?_)
          have hP : va_P D classes [((md 0), .inr (5, [.int (eI co), .int (eI ((n : Nat) : Int)), .ref (md 1), .ref (md 2), .ref (md 3), .int (eI sh), .int (eI ra), .ref (md 4), .ref (md 5), .ref (md 6), .ref (md 7), .ref (md 8), .long (eL up), .long (eL lw), .ref (md 9), .ref (md 10), .ref (md 11), .ref (md 12), .ref (md 13), .ref (md 14), .ref (md 15), .int (eI kn), .int (eI fo)])), ((md 9), aL cL 7 su), ((md 10), aL cL 6 de), ((md 11), aL cL 42 fw), ((md 12), aI cI 42 cs), ((md 15), aI cI 13 (eh_upd BY i (-1)))] H := hP
          have hD : va_D A [((md 0), .inr (5, [.int (eI co), .int (eI ((n : Nat) : Int)), .ref (md 1), .ref (md 2), .ref (md 3), .int (eI sh), .int (eI ra), .ref (md 4), .ref (md 5), .ref (md 6), .ref (md 7), .ref (md 8), .long (eL up), .long (eL lw), .ref (md 9), .ref (md 10), .ref (md 11), .ref (md 12), .ref (md 13), .ref (md 14), .ref (md 15), .int (eI kn), .int (eI fo)])), ((md 9), aL cL 7 su), ((md 10), aL cL 6 de), ((md 11), aL cL 42 fw), ((md 12), aI cI 42 cs), ((md 15), aI cI 13 (eh_upd BY i (-1)))] := hD
          refine lv_iinc (v := eI (((i : Nat) : Int) + 1)) hx hb d_M_push_36 hl (k := 0) rfl (eI_add _ _) (by decide) rfl (fun ls hl => ?_)
          have hl : lv_has ls 4 [(1, .int (eI (((i : Nat) : Int) + 1))), (0, .ref (md 0))] := hl
          refine lv_goto (tgt := 2) hx hb d_M_push_39 rfl ?_
          exact ih (i + 1) _ H locs ls (by omega) (by omega) (fun v hv => by
            by_cases w : v = i
            · rw [w, eh_upd_s, if_neg (by omega)]
            · rw [eh_upd_n _ _ w]; exact hB v (by omega)) (lv_sub hl [0, 1] rfl) hP hD hS
        ·
          refine lv_iload_n hx hb d_M_push_30 rfl (lv_at hl 0 rfl) ?_
          refine lv_goto (tgt := 35) hx hb d_M_push_31 rfl ?_
          refine we_iast hx hb hK hP hD hS 5 0 rfl rfl i rfl (by omega) (by decide) d_M_push_35 (fun H locs hP hD hS => ?_)
          have hP : va_P D classes [((md 0), .inr (5, [.int (eI co), .int (eI ((n : Nat) : Int)), .ref (md 1), .ref (md 2), .ref (md 3), .int (eI sh), .int (eI ra), .ref (md 4), .ref (md 5), .ref (md 6), .ref (md 7), .ref (md 8), .long (eL up), .long (eL lw), .ref (md 9), .ref (md 10), .ref (md 11), .ref (md 12), .ref (md 13), .ref (md 14), .ref (md 15), .int (eI kn), .int (eI fo)])), ((md 9), aL cL 7 su), ((md 10), aL cL 6 de), ((md 11), aL cL 42 fw), ((md 12), aI cI 42 cs), ((md 15), aI cI 13 (eh_upd BY i ((i : Nat) : Int)))] H := hP
          have hD : va_D A [((md 0), .inr (5, [.int (eI co), .int (eI ((n : Nat) : Int)), .ref (md 1), .ref (md 2), .ref (md 3), .int (eI sh), .int (eI ra), .ref (md 4), .ref (md 5), .ref (md 6), .ref (md 7), .ref (md 8), .long (eL up), .long (eL lw), .ref (md 9), .ref (md 10), .ref (md 11), .ref (md 12), .ref (md 13), .ref (md 14), .ref (md 15), .int (eI kn), .int (eI fo)])), ((md 9), aL cL 7 su), ((md 10), aL cL 6 de), ((md 11), aL cL 42 fw), ((md 12), aI cI 42 cs), ((md 15), aI cI 13 (eh_upd BY i ((i : Nat) : Int)))] := hD
          refine lv_iinc (v := eI (((i : Nat) : Int) + 1)) hx hb d_M_push_36 hl (k := 0) rfl (eI_add _ _) (by decide) rfl (fun ls hl => ?_)
          have hl : lv_has ls 4 [(1, .int (eI (((i : Nat) : Int) + 1))), (0, .ref (md 0))] := hl
          refine lv_goto (tgt := 2) hx hb d_M_push_39 rfl ?_
          exact ih (i + 1) _ H locs ls (by omega) (by omega) (fun v hv => by
            by_cases w : v = i
            · rw [w, eh_upd_s, if_pos (by omega)]
            · rw [eh_upd_n _ _ w]; exact hB v (by omega)) (lv_sub hl [0, 1] rfl) hP hD hS
  exact firstl 13 0 BY0 s.heap [] ls (by omega) (by omega) (fun v hv => by omega) (lv_sub hl [0, 1] rfl) hP hD hS
