abbrev c_N_findWays : ByteArray := prog_3_method_17_code
def y_N_findWays : MethodName := ⟨"EarthHauls$Network", "findWays", "(I)V"⟩
abbrev k_N_findWays : Cond := .code y_N_findWays c_N_findWays 7 none
theorem kin_N_findWays : k_N_findWays ∈ ew_t := tb_268
theorem dv_N_findWays : eh_dV y_N_findWays "EarthHauls$Network" 1 := ⟨rfl, by decide, by decide, by decide +kernel⟩
theorem d_N_findWays_0 : decode c_N_findWays 0 = .ok (.aload_n 0, 1) := by decide +kernel
theorem d_N_findWays_1 : decode c_N_findWays 1 = .ok (.getfield 28, 3) := by decide +kernel
theorem d_N_findWays_4 : decode c_N_findWays 4 = .ok (.ldc2_w 85, 3) := by decide +kernel
theorem d_N_findWays_7 : decode c_N_findWays 7 = .ok (.invokestatic 87, 3) := by decide +kernel
theorem d_N_findWays_10 : decode c_N_findWays 10 = .ok (.aload_n 0, 1) := by decide +kernel
theorem d_N_findWays_11 : decode c_N_findWays 11 = .ok (.getfield 31, 3) := by decide +kernel
theorem d_N_findWays_14 : decode c_N_findWays 14 = .ok (.iconst (-1), 1) := by decide +kernel
theorem d_N_findWays_15 : decode c_N_findWays 15 = .ok (.invokestatic 38, 3) := by decide +kernel
theorem d_N_findWays_18 : decode c_N_findWays 18 = .ok (.aload_n 0, 1) := by decide +kernel
theorem d_N_findWays_19 : decode c_N_findWays 19 = .ok (.getfield 28, 3) := by decide +kernel
theorem d_N_findWays_22 : decode c_N_findWays 22 = .ok (.iload_n 1, 1) := by decide +kernel
theorem d_N_findWays_23 : decode c_N_findWays 23 = .ok (.lconst 0, 1) := by decide +kernel
theorem d_N_findWays_24 : decode c_N_findWays 24 = .ok (.lastore, 1) := by decide +kernel
theorem d_N_findWays_25 : decode c_N_findWays 25 = .ok (.iconst 1, 1) := by decide +kernel
theorem d_N_findWays_26 : decode c_N_findWays 26 = .ok (.istore_n 2, 1) := by decide +kernel
theorem d_N_findWays_27 : decode c_N_findWays 27 = .ok (.iconst 0, 1) := by decide +kernel
theorem d_N_findWays_28 : decode c_N_findWays 28 = .ok (.istore_n 3, 1) := by decide +kernel
theorem d_N_findWays_29 : decode c_N_findWays 29 = .ok (.iload_n 3, 1) := by decide +kernel
theorem d_N_findWays_30 : decode c_N_findWays 30 = .ok (.bipush 12, 2) := by decide +kernel
theorem d_N_findWays_32 : decode c_N_findWays 32 = .ok (.if_icmp .ge 132, 3) := by decide +kernel
theorem d_N_findWays_35 : decode c_N_findWays 35 = .ok (.iload_n 2, 1) := by decide +kernel
theorem d_N_findWays_36 : decode c_N_findWays 36 = .ok (.ifCond .eq 128, 3) := by decide +kernel
theorem d_N_findWays_39 : decode c_N_findWays 39 = .ok (.iconst 0, 1) := by decide +kernel
theorem d_N_findWays_40 : decode c_N_findWays 40 = .ok (.istore_n 2, 1) := by decide +kernel
theorem d_N_findWays_41 : decode c_N_findWays 41 = .ok (.iconst 0, 1) := by decide +kernel
theorem d_N_findWays_42 : decode c_N_findWays 42 = .ok (.istore 4, 2) := by decide +kernel
theorem d_N_findWays_44 : decode c_N_findWays 44 = .ok (.iload 4, 2) := by decide +kernel
theorem d_N_findWays_46 : decode c_N_findWays 46 = .ok (.aload_n 0, 1) := by decide +kernel
theorem d_N_findWays_47 : decode c_N_findWays 47 = .ok (.getfield 34, 3) := by decide +kernel
theorem d_N_findWays_50 : decode c_N_findWays 50 = .ok (.if_icmp .ge 108, 3) := by decide +kernel
theorem d_N_findWays_53 : decode c_N_findWays 53 = .ok (.aload_n 0, 1) := by decide +kernel
theorem d_N_findWays_54 : decode c_N_findWays 54 = .ok (.getfield 18, 3) := by decide +kernel
theorem d_N_findWays_57 : decode c_N_findWays 57 = .ok (.iload 4, 2) := by decide +kernel
theorem d_N_findWays_59 : decode c_N_findWays 59 = .ok (.iaload, 1) := by decide +kernel
theorem d_N_findWays_60 : decode c_N_findWays 60 = .ok (.ifCond .le 92, 3) := by decide +kernel
theorem d_N_findWays_63 : decode c_N_findWays 63 = .ok (.aload_n 0, 1) := by decide +kernel
theorem d_N_findWays_64 : decode c_N_findWays 64 = .ok (.getfield 28, 3) := by decide +kernel
theorem d_N_findWays_67 : decode c_N_findWays 67 = .ok (.aload_n 0, 1) := by decide +kernel
theorem d_N_findWays_68 : decode c_N_findWays 68 = .ok (.getfield 11, 3) := by decide +kernel
theorem d_N_findWays_71 : decode c_N_findWays 71 = .ok (.iload 4, 2) := by decide +kernel
theorem d_N_findWays_73 : decode c_N_findWays 73 = .ok (.iaload, 1) := by decide +kernel
theorem d_N_findWays_74 : decode c_N_findWays 74 = .ok (.laload, 1) := by decide +kernel
theorem d_N_findWays_75 : decode c_N_findWays 75 = .ok (.ldc2_w 85, 3) := by decide +kernel
theorem d_N_findWays_78 : decode c_N_findWays 78 = .ok (.lcmp, 1) := by decide +kernel
theorem d_N_findWays_79 : decode c_N_findWays 79 = .ok (.ifCond .ge 73, 3) := by decide +kernel
theorem d_N_findWays_82 : decode c_N_findWays 82 = .ok (.aload_n 0, 1) := by decide +kernel
theorem d_N_findWays_83 : decode c_N_findWays 83 = .ok (.getfield 28, 3) := by decide +kernel
theorem d_N_findWays_86 : decode c_N_findWays 86 = .ok (.aload_n 0, 1) := by decide +kernel
theorem d_N_findWays_87 : decode c_N_findWays 87 = .ok (.getfield 11, 3) := by decide +kernel
theorem d_N_findWays_90 : decode c_N_findWays 90 = .ok (.iload 4, 2) := by decide +kernel
theorem d_N_findWays_92 : decode c_N_findWays 92 = .ok (.iaload, 1) := by decide +kernel
theorem d_N_findWays_93 : decode c_N_findWays 93 = .ok (.laload, 1) := by decide +kernel
theorem d_N_findWays_94 : decode c_N_findWays 94 = .ok (.aload_n 0, 1) := by decide +kernel
theorem d_N_findWays_95 : decode c_N_findWays 95 = .ok (.getfield 21, 3) := by decide +kernel
theorem d_N_findWays_98 : decode c_N_findWays 98 = .ok (.iload 4, 2) := by decide +kernel
theorem d_N_findWays_100 : decode c_N_findWays 100 = .ok (.laload, 1) := by decide +kernel
theorem d_N_findWays_101 : decode c_N_findWays 101 = .ok (.ladd, 1) := by decide +kernel
theorem d_N_findWays_102 : decode c_N_findWays 102 = .ok (.lstore 5, 2) := by decide +kernel
theorem d_N_findWays_104 : decode c_N_findWays 104 = .ok (.lload 5, 2) := by decide +kernel
theorem d_N_findWays_106 : decode c_N_findWays 106 = .ok (.aload_n 0, 1) := by decide +kernel
theorem d_N_findWays_107 : decode c_N_findWays 107 = .ok (.getfield 28, 3) := by decide +kernel
theorem d_N_findWays_110 : decode c_N_findWays 110 = .ok (.aload_n 0, 1) := by decide +kernel
theorem d_N_findWays_111 : decode c_N_findWays 111 = .ok (.getfield 15, 3) := by decide +kernel
theorem d_N_findWays_114 : decode c_N_findWays 114 = .ok (.iload 4, 2) := by decide +kernel
theorem d_N_findWays_116 : decode c_N_findWays 116 = .ok (.iaload, 1) := by decide +kernel
theorem d_N_findWays_117 : decode c_N_findWays 117 = .ok (.laload, 1) := by decide +kernel
theorem d_N_findWays_118 : decode c_N_findWays 118 = .ok (.lcmp, 1) := by decide +kernel
theorem d_N_findWays_119 : decode c_N_findWays 119 = .ok (.ifCond .ge 33, 3) := by decide +kernel
theorem d_N_findWays_122 : decode c_N_findWays 122 = .ok (.aload_n 0, 1) := by decide +kernel
theorem d_N_findWays_123 : decode c_N_findWays 123 = .ok (.getfield 28, 3) := by decide +kernel
theorem d_N_findWays_126 : decode c_N_findWays 126 = .ok (.aload_n 0, 1) := by decide +kernel
theorem d_N_findWays_127 : decode c_N_findWays 127 = .ok (.getfield 15, 3) := by decide +kernel
theorem d_N_findWays_130 : decode c_N_findWays 130 = .ok (.iload 4, 2) := by decide +kernel
theorem d_N_findWays_132 : decode c_N_findWays 132 = .ok (.iaload, 1) := by decide +kernel
theorem d_N_findWays_133 : decode c_N_findWays 133 = .ok (.lload 5, 2) := by decide +kernel
theorem d_N_findWays_135 : decode c_N_findWays 135 = .ok (.lastore, 1) := by decide +kernel
theorem d_N_findWays_136 : decode c_N_findWays 136 = .ok (.aload_n 0, 1) := by decide +kernel
theorem d_N_findWays_137 : decode c_N_findWays 137 = .ok (.getfield 31, 3) := by decide +kernel
theorem d_N_findWays_140 : decode c_N_findWays 140 = .ok (.aload_n 0, 1) := by decide +kernel
theorem d_N_findWays_141 : decode c_N_findWays 141 = .ok (.getfield 15, 3) := by decide +kernel
theorem d_N_findWays_144 : decode c_N_findWays 144 = .ok (.iload 4, 2) := by decide +kernel
theorem d_N_findWays_146 : decode c_N_findWays 146 = .ok (.iaload, 1) := by decide +kernel
theorem d_N_findWays_147 : decode c_N_findWays 147 = .ok (.iload 4, 2) := by decide +kernel
theorem d_N_findWays_149 : decode c_N_findWays 149 = .ok (.iastore, 1) := by decide +kernel
theorem d_N_findWays_150 : decode c_N_findWays 150 = .ok (.iconst 1, 1) := by decide +kernel
theorem d_N_findWays_151 : decode c_N_findWays 151 = .ok (.istore_n 2, 1) := by decide +kernel
theorem d_N_findWays_152 : decode c_N_findWays 152 = .ok (.iinc 4 1, 3) := by decide +kernel
theorem d_N_findWays_155 : decode c_N_findWays 155 = .ok (.goto (-111), 3) := by decide +kernel
theorem d_N_findWays_158 : decode c_N_findWays 158 = .ok (.iinc 3 1, 3) := by decide +kernel
theorem d_N_findWays_161 : decode c_N_findWays 161 = .ok (.goto (-132), 3) := by decide +kernel
theorem d_N_findWays_164 : decode c_N_findWays 164 = .ok (.return_, 1) := by decide +kernel
set_option maxHeartbeats 4000000 in
set_option maxRecDepth 100000 in
theorem m_N_findWays (l : Launch) (D : va_G) (cI cL : ClassId) (h0 qT qH qR qW qA qD qE : Nat) (K : Nat) (a b : Nat → Nat) (w cap x gT gH gR gW gD0 gE0 : Nat → Int) (st : Nat) (hst : st < 12) (hns : eh_NS K a b w cap x gT gH gR gW) (hcx : eh_cx K a b w cap x) : eh_M (S := (Nat → Int) × (Nat → Int)) l y_N_findWays k_N_findWays 1 24 D classes [(cI, .int), (cL, .long)] [.ref h0, .int (eI (st : Int))] [(h0, .inr (1, [.ref qT, .ref qH, .ref qR, .ref qW, .ref qA, .ref qD, .ref qE, .int (eI ((2 * K : Nat) : Int))])), (qT, aI cI 82 gT), (qH, aI cI 82 gH), (qR, aI cI 82 gR), (qW, aL cL 82 gW), (qD, aL cL 12 gD0), (qE, aI cI 12 gE0)] (fun u => eh_fE K a b w cap x st u.1 u.2) (fun _ => none) (fun u => [(h0, .inr (1, [.ref qT, .ref qH, .ref qR, .ref qW, .ref qA, .ref qD, .ref qE, .int (eI ((2 * K : Nat) : Int))])), (qT, aI cI 82 gT), (qH, aI cI 82 gH), (qR, aI cI 82 gR), (qW, aL cL 82 gW), (qD, aL cL 12 u.1), (qE, aI cI 12 u.2)]) := by
  intro sz
  refine Met.ofW (cc := c_N_findWays) (maxL := 7) (ret := none) (by decide) rfl ?_
  intro p e s m args below meth c s₁ B hml hv
  obtain ⟨hargs, hsz, hP, hK, hD0, hN⟩ := hv
  have hx := B.exec
  have hb := B.bytes
  have hrt := B.returns
  have hts := atoms_spec (ws := k_N_findWays :: ew_t) B.pre
  have htb : ∀ w ∈ ew_t, w.before args s = true := fun w h => hts w (List.mem_cons_of_mem _ h)
  have hown : s.vm.findClass "EarthHauls$Network" = some m.cls := findClass_of_methodNamed B.named
  have hlocks := B.notSynchronized
  have hE : entryFrame m args 7 = entryFrame m ([.ref h0, .int (eI (st : Int))] : List Value).toArray 7 := by rw [hargs]
  rw [hE]
  clear hE hts B hargs
  generalize hRe : (headSpec _ _).room = R
  have hR1 : R.frames = 1 := by rw [← hRe]; rfl
  have hR2 : R.locals = 24 := by rw [← hRe]; rfl
  clear hRe
  generalize hQ : MQ below _ _ s 0 0 _ = Q
  subst hsz
  have hD := hD0.self (sz := s.heap.size)
  generalize hAe : va_A [(h0, .inr (1, [.ref qT, .ref qH, .ref qR, .ref qW, .ref qA, .ref qD, .ref qE, .int (eI ((2 * K : Nat) : Int))])), (qT, aI cI 82 gT), (qH, aI cI 82 gH), (qR, aI cI 82 gR), (qW, aL cL 82 gW), (qD, aL cL 12 gD0), (qE, aI cI 12 gE0)] s.heap.size = A at hD hQ
  have hA : ∀ q : Nat, s.heap.size ≤ q → A q := fun q h => by rw [← hAe]; exact Or.inr h
  have hS : va_S A s.heap s.heap [] := va_S.rf
  have hP : va_P D classes [(h0, .inr (1, [.ref qT, .ref qH, .ref qR, .ref qW, .ref qA, .ref qD, .ref qE, .int (eI ((2 * K : Nat) : Int))])), (qT, aI cI 82 gT), (qH, aI cI 82 gH), (qR, aI cI 82 gR), (qW, aL cL 82 gW), (qD, aL cL 12 gD0), (qE, aI cI 12 gE0)] s.heap := hP
  have hl := lv_entry ([.ref h0, .int (eI (st : Int))]) (n := 7) (Nat.le_of_ble_eq_true rfl)
  rw [lg_entry_eq]
  generalize (lg_sl ([.ref h0, .int (eI (st : Int))]) ++ List.replicate (7 - (lg_sl ([.ref h0, .int (eI (st : Int))])).length) Slot.unset).toArray = ls at hl ⊢
  have hl : lv_has ls 7 [(0, .ref h0), (1, .int (eI (st : Int)))] := hl
  refine lv_aload_n hx hb d_N_findWays_0 rfl (lv_at hl 0 rfl) ?_
  refine va_get (D := D) (ci := 1) (v := .ref qD) (C := R_N) (T := T_N) (N := 8) hx hb htb in_N hown hK hP 0 rfl rfl 5 (by decide) (htb _ tb_38) (fun _ h9 => h9) rfl d_N_findWays_1 ?_
  refine we_ldc2 (a := 4611686018427387904) hx hb hown (htb _ tb_269) (by decide) d_N_findWays_4 ?_
  refine eh_cMS (As := [.ref qD, .long (eL 4611686018427387904)]) (rest := []) (wr := [(h0, .inr (1, [.ref qT, .ref qH, .ref qR, .ref qW, .ref qA, .ref qD, .ref qE, .int (eI ((2 * K : Nat) : Int))])), (qT, aI cI 82 gT), (qH, aI cI 82 gH), (qR, aI cI 82 gR), (qW, aL cL 82 gW), (qE, aI cI 12 gE0)]) hx hb hml hown htb hN (m_A_fill_aJJV l D cL qD 12 (by decide) gD0 4611686018427387904) 2 ⟨tb_270, tb_271, tb_6, kin_A_fill_aJJV⟩ dv_A_fill_aJJV ⟨by rw [hR1]; decide, by rw [hR2]; decide⟩ hK hP hD hS hA [5] [0, 1, 2, 3, 4, 6] rfl rfl (by decide) rfl (by decide) (by decide) [1] rfl rfl rfl hl.1 (by decide) d_N_findWays_7 ⟨Nat.zero_le _, Nat.zero_le _⟩ (fun u H locs hu hP hD hS => ?_)
  obtain ⟨uD, rfl⟩ : ∃ z, z = u := ⟨_, rfl⟩
  have huD := hu
  have hP := hP.sub (ws' := [(h0, .inr (1, [.ref qT, .ref qH, .ref qR, .ref qW, .ref qA, .ref qD, .ref qE, .int (eI ((2 * K : Nat) : Int))])), (qT, aI cI 82 gT), (qH, aI cI 82 gH), (qR, aI cI 82 gR), (qW, aL cL 82 gW), (qD, aL cL 12 uD), (qE, aI cI 12 gE0)]) [0, 1, 2, 3, 4, 6, 5] rfl
  have hD := hD.sub (ws' := [(h0, .inr (1, [.ref qT, .ref qH, .ref qR, .ref qW, .ref qA, .ref qD, .ref qE, .int (eI ((2 * K : Nat) : Int))])), (qT, aI cI 82 gT), (qH, aI cI 82 gH), (qR, aI cI 82 gR), (qW, aL cL 82 gW), (qD, aL cL 12 uD), (qE, aI cI 12 gE0)]) [0, 1, 2, 3, 4, 6, 5] (by decide) rfl
  refine lv_aload_n hx hb d_N_findWays_10 rfl (lv_at hl 0 rfl) ?_
  refine va_get (D := D) (ci := 1) (v := .ref qE) (C := R_N) (T := T_N) (N := 8) hx hb htb in_N hown hK hP 0 rfl rfl 6 (by decide) (htb _ tb_39) (fun _ h9 => h9) rfl d_N_findWays_11 ?_
  refine lv_iconst (v := eI (-1)) hx hb d_N_findWays_14 rfl ?_
  refine eh_cMS (As := [.ref qE, .int (eI (-1))]) (rest := []) (wr := [(h0, .inr (1, [.ref qT, .ref qH, .ref qR, .ref qW, .ref qA, .ref qD, .ref qE, .int (eI ((2 * K : Nat) : Int))])), (qT, aI cI 82 gT), (qH, aI cI 82 gH), (qR, aI cI 82 gR), (qW, aL cL 82 gW), (qD, aL cL 12 uD)]) hx hb hml hown htb hN (m_A_fill_aIIV l D cI qE 12 (by decide) gE0 (-1)) 2 ⟨tb_196, tb_122, tb_6, kin_A_fill_aIIV⟩ dv_A_fill_aIIV ⟨by rw [hR1]; decide, by rw [hR2]; decide⟩ hK hP hD hS hA [6] [0, 1, 2, 3, 4, 5] rfl rfl (by decide) rfl (by decide) (by decide) [0] rfl rfl rfl hl.1 (by decide) d_N_findWays_15 ⟨Nat.zero_le _, Nat.zero_le _⟩ (fun u H locs hu hP hD hS => ?_)
  obtain ⟨uE, rfl⟩ : ∃ z, z = u := ⟨_, rfl⟩
  have huE := hu
  have hP := hP.sub (ws' := [(h0, .inr (1, [.ref qT, .ref qH, .ref qR, .ref qW, .ref qA, .ref qD, .ref qE, .int (eI ((2 * K : Nat) : Int))])), (qT, aI cI 82 gT), (qH, aI cI 82 gH), (qR, aI cI 82 gR), (qW, aL cL 82 gW), (qD, aL cL 12 uD), (qE, aI cI 12 uE)]) [0, 1, 2, 3, 4, 5, 6] rfl
  have hD := hD.sub (ws' := [(h0, .inr (1, [.ref qT, .ref qH, .ref qR, .ref qW, .ref qA, .ref qD, .ref qE, .int (eI ((2 * K : Nat) : Int))])), (qT, aI cI 82 gT), (qH, aI cI 82 gH), (qR, aI cI 82 gR), (qW, aL cL 82 gW), (qD, aL cL 12 uD), (qE, aI cI 12 uE)]) [0, 1, 2, 3, 4, 5, 6] (by decide) rfl
  refine lv_aload_n hx hb d_N_findWays_18 rfl (lv_at hl 0 rfl) ?_
  refine va_get (D := D) (ci := 1) (v := .ref qD) (C := R_N) (T := T_N) (N := 8) hx hb htb in_N hown hK hP 0 rfl rfl 5 (by decide) (htb _ tb_38) (fun _ h9 => h9) rfl d_N_findWays_19 ?_
  refine lv_iload_n hx hb d_N_findWays_22 rfl (lv_at hl 1 rfl) ?_
  refine lv_lconst (v := eL 0) hx hb d_N_findWays_23 (by decide) ?_
  refine we_last hx hb hK hP hD hS 5 1 rfl rfl st rfl hst (by decide) d_N_findWays_24 (fun H locs hP hD hS => ?_)
  have hP : va_P D classes [(h0, .inr (1, [.ref qT, .ref qH, .ref qR, .ref qW, .ref qA, .ref qD, .ref qE, .int (eI ((2 * K : Nat) : Int))])), (qT, aI cI 82 gT), (qH, aI cI 82 gH), (qR, aI cI 82 gR), (qW, aL cL 82 gW), (qD, aL cL 12 (eh_upd uD st 0)), (qE, aI cI 12 uE)] H := hP
  have hD : va_D A [(h0, .inr (1, [.ref qT, .ref qH, .ref qR, .ref qW, .ref qA, .ref qD, .ref qE, .int (eI ((2 * K : Nat) : Int))])), (qT, aI cI 82 gT), (qH, aI cI 82 gH), (qR, aI cI 82 gR), (qW, aL cL 82 gW), (qD, aL cL 12 (eh_upd uD st 0)), (qE, aI cI 12 uE)] := hD
  refine lv_iconst (v := eI 1) hx hb d_N_findWays_25 rfl ?_
  refine lv_istore_n hx hb d_N_findWays_26 rfl hl (by decide) rfl (fun ls hl => ?_)
  have hl : lv_has ls 7 [(2, .int (eI 1)), (0, .ref h0), (1, .int (eI (st : Int)))] := hl
  refine lv_iconst (v := eI 0) hx hb d_N_findWays_27 rfl ?_
  refine lv_istore_n hx hb d_N_findWays_28 rfl hl (by decide) rfl (fun ls hl => ?_)
  have hl : lv_has ls 7 [(3, .int (eI 0)), (2, .int (eI 1)), (0, .ref h0), (1, .int (eI (st : Int)))] := hl
  have outer : ∀ (q r : Nat) (bv : Int) (gD gE : Nat → Int) (H : Heap) (locs : List Loc) (ls : Array Slot), 12 - r = q → r ≤ 12 → lv_has ls 7 [(3, .int (eI ((r : Nat) : Int))), (2, .int (eI bv)), (1, .int (eI (st : Int))), (0, .ref h0)] → va_P D classes [(h0, .inr (1, [.ref qT, .ref qH, .ref qR, .ref qW, .ref qA, .ref qD, .ref qE, .int (eI ((2 * K : Nat) : Int))])), (qT, aI cI 82 gT), (qH, aI cI 82 gH), (qR, aI cI 82 gR), (qW, aL cL 82 gW), (qD, aL cL 12 gD), (qE, aI cI 12 gE)] H → va_D A [(h0, .inr (1, [.ref qT, .ref qH, .ref qR, .ref qW, .ref qA, .ref qD, .ref qE, .int (eI ((2 * K : Nat) : Int))])), (qT, aI cI 82 gT), (qH, aI cI 82 gH), (qR, aI cI 82 gR), (qW, aL cL 82 gW), (qD, aL cL 12 gD), (qE, aI cI 12 gE)] → va_S A s.heap H locs → eh_fA K a b w cap x st r gD gE bv → W p l e R s m args below meth c H locs 0 0 Q (F0 m 29 ls []) := by
    intro q
    induction q with
    | zero =>
      intro r bv gD gE H locs ls hq hr hl hP hD hS hfA
      refine lv_iload_n hx hb d_N_findWays_29 rfl (lv_at hl 0 rfl) ?_
      refine lv_bipush (v := eI 12) hx hb d_N_findWays_30 (by decide) ?_
      refine we_icmp_ge (tgt := 164) hx hb (by constructor <;> omega) (by constructor <;> omega) d_N_findWays_32 rfl (fun hc32 => ?_) (fun hc32 => absurd hc32 (by omega))
      subst hQ
      exact W.vret hx hb hrt (fun t ht hW => ⟨⟨(gD, gE), rfl, hfA.2.2 (Or.inr (by omega)), by rw [ht]; exact hP, hD⟩, hS.F ht⟩) hS.2.2 d_N_findWays_164
    | succ q ih =>
      intro r bv gD gE H locs ls hq hr hl hP hD hS hfA
      have hbv : bv = 0 ∨ bv = 1 := hfA.1
      refine lv_iload_n hx hb d_N_findWays_29 rfl (lv_at hl 0 rfl) ?_
      refine lv_bipush (v := eI 12) hx hb d_N_findWays_30 (by decide) ?_
      refine we_icmp_ge (tgt := 164) hx hb (by constructor <;> omega) (by constructor <;> omega) d_N_findWays_32 rfl (fun hc32 => absurd hc32 (by omega)) (fun hc32 => ?_)
      refine lv_iload_n hx hb d_N_findWays_35 rfl (lv_at hl 1 rfl) ?_
      refine we_if_eq (tgt := 164) hx hb (by constructor <;> omega) d_N_findWays_36 rfl (fun hc36 => ?_) (fun hc36 => ?_)
      ·
        subst hQ
        exact W.vret hx hb hrt (fun t ht hW => ⟨⟨(gD, gE), rfl, hfA.2.2 (Or.inl (by omega)), by rw [ht]; exact hP, hD⟩, hS.F ht⟩) hS.2.2 d_N_findWays_164
      ·
        refine lv_iconst (v := eI 0) hx hb d_N_findWays_39 rfl ?_
        refine lv_istore_n hx hb d_N_findWays_40 rfl hl (by decide) rfl (fun ls hl => ?_)
        have hl : lv_has ls 7 [(2, .int (eI 0)), (3, .int (eI ((r : Nat) : Int))), (1, .int (eI (st : Int))), (0, .ref h0)] := hl
        refine lv_iconst (v := eI 0) hx hb d_N_findWays_41 rfl ?_
        refine lv_istore hx hb d_N_findWays_42 hl (by decide) rfl (fun ls hl => ?_)
        have hl : lv_has ls 7 [(4, .int (eI 0)), (2, .int (eI 0)), (3, .int (eI ((r : Nat) : Int))), (1, .int (eI (st : Int))), (0, .ref h0)] := hl
        have hfB0 := eh_fA_B hfA
        have inner : ∀ (q2 ee : Nat) (bv : Int) (gD gE : Nat → Int) (H : Heap) (locs : List Loc) (ls : Array Slot), 2 * K - ee = q2 → ee ≤ 2 * K → lv_has ls 7 [(4, .int (eI ((ee : Nat) : Int))), (3, .int (eI ((r : Nat) : Int))), (2, .int (eI bv)), (1, .int (eI (st : Int))), (0, .ref h0)] → va_P D classes [(h0, .inr (1, [.ref qT, .ref qH, .ref qR, .ref qW, .ref qA, .ref qD, .ref qE, .int (eI ((2 * K : Nat) : Int))])), (qT, aI cI 82 gT), (qH, aI cI 82 gH), (qR, aI cI 82 gR), (qW, aL cL 82 gW), (qD, aL cL 12 gD), (qE, aI cI 12 gE)] H → va_D A [(h0, .inr (1, [.ref qT, .ref qH, .ref qR, .ref qW, .ref qA, .ref qD, .ref qE, .int (eI ((2 * K : Nat) : Int))])), (qT, aI cI 82 gT), (qH, aI cI 82 gH), (qR, aI cI 82 gR), (qW, aL cL 82 gW), (qD, aL cL 12 gD), (qE, aI cI 12 gE)] → va_S A s.heap H locs → eh_fB K a b w cap x st r ee gD gE bv → W p l e R s m args below meth c H locs 0 0 Q (F0 m 44 ls []) := by
          have hK41 := hcx.1
          intro q2
          induction q2 with
          | zero =>
            intro ee bv gD gE H locs ls hq hr hl hP hD hS hfB
            have hee : ee = 2 * K := by omega
            subst hee
            refine lv_iload hx hb d_N_findWays_44 (lv_at hl 0 rfl) ?_
            refine lv_aload_n hx hb d_N_findWays_46 rfl (lv_at hl 4 rfl) ?_
            refine va_get (D := D) (ci := 1) (v := .int (eI ((2 * K : Nat) : Int))) (C := R_N) (T := T_N) (N := 8) hx hb htb in_N hown hK hP 0 rfl rfl 7 (by decide) (htb _ tb_40) (fun _ h9 => h9) rfl d_N_findWays_47 ?_
            refine we_icmp_ge (tgt := 158) hx hb (by constructor <;> omega) (by constructor <;> omega) d_N_findWays_50 rfl (fun hc50 => ?_) (fun hc50 => absurd hc50 (by omega))
            refine lv_iinc (v := eI (((r : Nat) : Int) + 1)) hx hb d_N_findWays_158 hl (k := 1) rfl (eI_add _ _) (by decide) rfl (fun ls hl => ?_)
            have hl : lv_has ls 7 [(3, .int (eI (((r : Nat) : Int) + 1))), (4, .int (eI ((2 * K : Nat) : Int))), (2, .int (eI bv)), (1, .int (eI (st : Int))), (0, .ref h0)] := hl
            refine lv_goto (tgt := 29) hx hb d_N_findWays_161 rfl ?_
            exact ih (r + 1) bv gD gE H locs ls (by omega) (by omega) (lv_sub hl [0, 2, 3, 4] rfl) hP hD hS (eh_fB_A hcx hst hfB)
          | succ q2 ih2 =>
            intro ee bv gD gE H locs ls hq hr hl hP hD hS hfB
            have hee : ee < 2 * K := by omega
            obtain ⟨nT, nH, nR, nW⟩ := hns ee hee
            obtain ⟨t12, h12⟩ := hcx.2.1 ee hee
            obtain ⟨w1, w2⟩ := hcx.2.2.1 ee hee
            obtain ⟨r1, r2⟩ := eh_cx_rm hcx hee
            have hlt := eh_fB_low hcx hst hfB t12
            have hlh := eh_fB_low hcx hst hfB h12
            have hF : eh_F = 4611686018427387904 := rfl
            refine lv_iload hx hb d_N_findWays_44 (lv_at hl 0 rfl) ?_
            refine lv_aload_n hx hb d_N_findWays_46 rfl (lv_at hl 4 rfl) ?_
            refine va_get (D := D) (ci := 1) (v := .int (eI ((2 * K : Nat) : Int))) (C := R_N) (T := T_N) (N := 8) hx hb htb in_N hown hK hP 0 rfl rfl 7 (by decide) (htb _ tb_40) (fun _ h9 => h9) rfl d_N_findWays_47 ?_
            refine we_icmp_ge (tgt := 158) hx hb (by constructor <;> omega) (by constructor <;> omega) d_N_findWays_50 rfl (fun hc50 => absurd hc50 (by omega)) (fun hc50 => ?_)
            refine lv_aload_n hx hb d_N_findWays_53 rfl (lv_at hl 4 rfl) ?_
            refine va_get (D := D) (ci := 1) (v := .ref qR) (C := R_N) (T := T_N) (N := 8) hx hb htb in_N hown hK hP 0 rfl rfl 2 (by decide) (htb _ tb_35) (fun _ h9 => h9) rfl d_N_findWays_54 ?_
            refine lv_iload hx hb d_N_findWays_57 (lv_at hl 0 rfl) ?_
            refine we_iald hx hb hK hP 3 0 rfl rfl ee rfl (by omega) (by decide) d_N_findWays_59 ?_
            refine we_if_le (tgt := 152) hx hb (by constructor <;> omega) d_N_findWays_60 rfl (fun hc60 => ?_) (fun hc60 => ?_)
            ·
              refine lv_iinc (v := eI (((ee : Nat) : Int) + 1)) hx hb d_N_findWays_152 hl (k := 0) rfl (eI_add _ _) (by decide) rfl (fun ls hl => ?_)
              have hl : lv_has ls 7 [(4, .int (eI (((ee : Nat) : Int) + 1))), (3, .int (eI ((r : Nat) : Int))), (2, .int (eI bv)), (1, .int (eI (st : Int))), (0, .ref h0)] := hl
              refine lv_goto (tgt := 44) hx hb d_N_findWays_155 rfl ?_
              exact ih2 (ee + 1) bv gD gE H locs ls (by omega) (by omega) (lv_sub hl [0, 1, 2, 3, 4] rfl) hP hD hS (eh_fB_skip hcx (by omega) hee hfB (fun _ _ => by omega))
            ·
              refine lv_aload_n hx hb d_N_findWays_63 rfl (lv_at hl 4 rfl) ?_
              refine va_get (D := D) (ci := 1) (v := .ref qD) (C := R_N) (T := T_N) (N := 8) hx hb htb in_N hown hK hP 0 rfl rfl 5 (by decide) (htb _ tb_38) (fun _ h9 => h9) rfl d_N_findWays_64 ?_
              refine lv_aload_n hx hb d_N_findWays_67 rfl (lv_at hl 4 rfl) ?_
              refine va_get (D := D) (ci := 1) (v := .ref qT) (C := R_N) (T := T_N) (N := 8) hx hb htb in_N hown hK hP 0 rfl rfl 0 (by decide) (htb _ tb_33) (fun _ h9 => h9) rfl d_N_findWays_68 ?_
              refine lv_iload hx hb d_N_findWays_71 (lv_at hl 0 rfl) ?_
              refine we_iald hx hb hK hP 1 0 rfl rfl ee rfl (by omega) (by decide) d_N_findWays_73 ?_
              refine we_lald hx hb hK hP 5 1 rfl rfl (eh_tl a b ee) nT t12 (by decide) d_N_findWays_74 ?_
              refine we_ldc2 (a := 4611686018427387904) hx hb hown (htb _ tb_269) (by decide) d_N_findWays_75 ?_
              refine we_lcmp_ge (pc2 := 79) (tgt := 152) hx hb (by constructor <;> omega) (by constructor <;> omega) d_N_findWays_78 rfl d_N_findWays_79 rfl (fun hc78 => ?_) (fun hc78 => ?_)
              ·
                refine lv_iinc (v := eI (((ee : Nat) : Int) + 1)) hx hb d_N_findWays_152 hl (k := 0) rfl (eI_add _ _) (by decide) rfl (fun ls hl => ?_)
                have hl : lv_has ls 7 [(4, .int (eI (((ee : Nat) : Int) + 1))), (3, .int (eI ((r : Nat) : Int))), (2, .int (eI bv)), (1, .int (eI (st : Int))), (0, .ref h0)] := hl
                refine lv_goto (tgt := 44) hx hb d_N_findWays_155 rfl ?_
                exact ih2 (ee + 1) bv gD gE H locs ls (by omega) (by omega) (lv_sub hl [0, 1, 2, 3, 4] rfl) hP hD hS (eh_fB_skip hcx (by omega) hee hfB (fun _ _ => by omega))
              ·
                refine lv_aload_n hx hb d_N_findWays_82 rfl (lv_at hl 4 rfl) ?_
                refine va_get (D := D) (ci := 1) (v := .ref qD) (C := R_N) (T := T_N) (N := 8) hx hb htb in_N hown hK hP 0 rfl rfl 5 (by decide) (htb _ tb_38) (fun _ h9 => h9) rfl d_N_findWays_83 ?_
                refine lv_aload_n hx hb d_N_findWays_86 rfl (lv_at hl 4 rfl) ?_
                refine va_get (D := D) (ci := 1) (v := .ref qT) (C := R_N) (T := T_N) (N := 8) hx hb htb in_N hown hK hP 0 rfl rfl 0 (by decide) (htb _ tb_33) (fun _ h9 => h9) rfl d_N_findWays_87 ?_
                refine lv_iload hx hb d_N_findWays_90 (lv_at hl 0 rfl) ?_
                refine we_iald hx hb hK hP 1 0 rfl rfl ee rfl (by omega) (by decide) d_N_findWays_92 ?_
                refine we_lald hx hb hK hP 5 1 rfl rfl (eh_tl a b ee) nT t12 (by decide) d_N_findWays_93 ?_
                refine lv_aload_n hx hb d_N_findWays_94 rfl (lv_at hl 4 rfl) ?_
                refine va_get (D := D) (ci := 1) (v := .ref qW) (C := R_N) (T := T_N) (N := 8) hx hb htb in_N hown hK hP 0 rfl rfl 3 (by decide) (htb _ tb_36) (fun _ h9 => h9) rfl d_N_findWays_95 ?_
                refine lv_iload hx hb d_N_findWays_98 (lv_at hl 0 rfl) ?_
                refine we_lald hx hb hK hP 4 1 rfl rfl ee rfl (by omega) (by decide) d_N_findWays_100 ?_
                refine we_ladd hx hb d_N_findWays_101 ?_
                refine lv_lstore hx hb d_N_findWays_102 hl (by decide) rfl (fun ls hl => ?_)
                have hl : lv_has ls 7 [(5, .long (eL ((gD (eh_tl a b ee)) + (gW ee)))), (4, .int (eI ((ee : Nat) : Int))), (3, .int (eI ((r : Nat) : Int))), (2, .int (eI bv)), (1, .int (eI (st : Int))), (0, .ref h0)] := hl
                refine lv_lload hx hb d_N_findWays_104 (lv_at hl 0 rfl) ?_
                refine lv_aload_n hx hb d_N_findWays_106 rfl (lv_at hl 5 rfl) ?_
                refine va_get (D := D) (ci := 1) (v := .ref qD) (C := R_N) (T := T_N) (N := 8) hx hb htb in_N hown hK hP 0 rfl rfl 5 (by decide) (htb _ tb_38) (fun _ h9 => h9) rfl d_N_findWays_107 ?_
                refine lv_aload_n hx hb d_N_findWays_110 rfl (lv_at hl 5 rfl) ?_
                refine va_get (D := D) (ci := 1) (v := .ref qH) (C := R_N) (T := T_N) (N := 8) hx hb htb in_N hown hK hP 0 rfl rfl 1 (by decide) (htb _ tb_34) (fun _ h9 => h9) rfl d_N_findWays_111 ?_
                refine lv_iload hx hb d_N_findWays_114 (lv_at hl 1 rfl) ?_
                refine we_iald hx hb hK hP 2 0 rfl rfl ee rfl (by omega) (by decide) d_N_findWays_116 ?_
                refine we_lald hx hb hK hP 5 1 rfl rfl (eh_hd a b ee) nH h12 (by decide) d_N_findWays_117 ?_
                refine we_lcmp_ge (pc2 := 119) (tgt := 152) hx hb (by constructor <;> omega) (by constructor <;> omega) d_N_findWays_118 rfl d_N_findWays_119 rfl (fun hc118 => ?_) (fun hc118 => ?_)
                ·
                  refine lv_iinc (v := eI (((ee : Nat) : Int) + 1)) hx hb d_N_findWays_152 hl (k := 1) rfl (eI_add _ _) (by decide) rfl (fun ls hl => ?_)
                  have hl : lv_has ls 7 [(4, .int (eI (((ee : Nat) : Int) + 1))), (5, .long (eL ((gD (eh_tl a b ee)) + (gW ee)))), (3, .int (eI ((r : Nat) : Int))), (2, .int (eI bv)), (1, .int (eI (st : Int))), (0, .ref h0)] := hl
                  refine lv_goto (tgt := 44) hx hb d_N_findWays_155 rfl ?_
                  exact ih2 (ee + 1) bv gD gE H locs ls (by omega) (by omega) (lv_sub hl [0, 2, 3, 4, 5] rfl) hP hD hS (eh_fB_skip hcx (by omega) hee hfB (fun _ _ => by omega))
                ·
                  refine lv_aload_n hx hb d_N_findWays_122 rfl (lv_at hl 5 rfl) ?_
                  refine va_get (D := D) (ci := 1) (v := .ref qD) (C := R_N) (T := T_N) (N := 8) hx hb htb in_N hown hK hP 0 rfl rfl 5 (by decide) (htb _ tb_38) (fun _ h9 => h9) rfl d_N_findWays_123 ?_
                  refine lv_aload_n hx hb d_N_findWays_126 rfl (lv_at hl 5 rfl) ?_
                  refine va_get (D := D) (ci := 1) (v := .ref qH) (C := R_N) (T := T_N) (N := 8) hx hb htb in_N hown hK hP 0 rfl rfl 1 (by decide) (htb _ tb_34) (fun _ h9 => h9) rfl d_N_findWays_127 ?_
                  refine lv_iload hx hb d_N_findWays_130 (lv_at hl 1 rfl) ?_
                  refine we_iald hx hb hK hP 2 0 rfl rfl ee rfl (by omega) (by decide) d_N_findWays_132 ?_
                  refine lv_lload hx hb d_N_findWays_133 (lv_at hl 0 rfl) ?_
                  refine we_last hx hb hK hP hD hS 5 1 rfl rfl (eh_hd a b ee) nH h12 (by decide) d_N_findWays_135 (fun H locs hP hD hS => ?_)
                  have hP : va_P D classes [(h0, .inr (1, [.ref qT, .ref qH, .ref qR, .ref qW, .ref qA, .ref qD, .ref qE, .int (eI ((2 * K : Nat) : Int))])), (qT, aI cI 82 gT), (qH, aI cI 82 gH), (qR, aI cI 82 gR), (qW, aL cL 82 gW), (qD, aL cL 12 (eh_upd gD (eh_hd a b ee) ((gD (eh_tl a b ee)) + (gW ee)))), (qE, aI cI 12 gE)] H := hP
                  have hD : va_D A [(h0, .inr (1, [.ref qT, .ref qH, .ref qR, .ref qW, .ref qA, .ref qD, .ref qE, .int (eI ((2 * K : Nat) : Int))])), (qT, aI cI 82 gT), (qH, aI cI 82 gH), (qR, aI cI 82 gR), (qW, aL cL 82 gW), (qD, aL cL 12 (eh_upd gD (eh_hd a b ee) ((gD (eh_tl a b ee)) + (gW ee)))), (qE, aI cI 12 gE)] := hD
                  refine lv_aload_n hx hb d_N_findWays_136 rfl (lv_at hl 5 rfl) ?_
                  refine va_get (D := D) (ci := 1) (v := .ref qE) (C := R_N) (T := T_N) (N := 8) hx hb htb in_N hown hK hP 0 rfl rfl 6 (by decide) (htb _ tb_39) (fun _ h9 => h9) rfl d_N_findWays_137 ?_
                  refine lv_aload_n hx hb d_N_findWays_140 rfl (lv_at hl 5 rfl) ?_
                  refine va_get (D := D) (ci := 1) (v := .ref qH) (C := R_N) (T := T_N) (N := 8) hx hb htb in_N hown hK hP 0 rfl rfl 1 (by decide) (htb _ tb_34) (fun _ h9 => h9) rfl d_N_findWays_141 ?_
                  refine lv_iload hx hb d_N_findWays_144 (lv_at hl 1 rfl) ?_
                  refine we_iald hx hb hK hP 2 0 rfl rfl ee rfl (by omega) (by decide) d_N_findWays_146 ?_
                  refine lv_iload hx hb d_N_findWays_147 (lv_at hl 1 rfl) ?_
                  refine we_iast hx hb hK hP hD hS 6 0 rfl rfl (eh_hd a b ee) nH h12 (by decide) d_N_findWays_149 (fun H locs hP hD hS => ?_)
                  have hP : va_P D classes [(h0, .inr (1, [.ref qT, .ref qH, .ref qR, .ref qW, .ref qA, .ref qD, .ref qE, .int (eI ((2 * K : Nat) : Int))])), (qT, aI cI 82 gT), (qH, aI cI 82 gH), (qR, aI cI 82 gR), (qW, aL cL 82 gW), (qD, aL cL 12 (eh_upd gD (eh_hd a b ee) ((gD (eh_tl a b ee)) + (gW ee)))), (qE, aI cI 12 (eh_upd gE (eh_hd a b ee) ((ee : Nat) : Int)))] H := hP
                  have hD : va_D A [(h0, .inr (1, [.ref qT, .ref qH, .ref qR, .ref qW, .ref qA, .ref qD, .ref qE, .int (eI ((2 * K : Nat) : Int))])), (qT, aI cI 82 gT), (qH, aI cI 82 gH), (qR, aI cI 82 gR), (qW, aL cL 82 gW), (qD, aL cL 12 (eh_upd gD (eh_hd a b ee) ((gD (eh_tl a b ee)) + (gW ee)))), (qE, aI cI 12 (eh_upd gE (eh_hd a b ee) ((ee : Nat) : Int)))] := hD
                  refine lv_iconst (v := eI 1) hx hb d_N_findWays_150 rfl ?_
                  refine lv_istore_n hx hb d_N_findWays_151 rfl hl (by decide) rfl (fun ls hl => ?_)
                  have hl : lv_has ls 7 [(2, .int (eI 1)), (5, .long (eL ((gD (eh_tl a b ee)) + (gW ee)))), (4, .int (eI ((ee : Nat) : Int))), (3, .int (eI ((r : Nat) : Int))), (1, .int (eI (st : Int))), (0, .ref h0)] := hl
                  refine lv_iinc (v := eI (((ee : Nat) : Int) + 1)) hx hb d_N_findWays_152 hl (k := 2) rfl (eI_add _ _) (by decide) rfl (fun ls hl => ?_)
                  have hl : lv_has ls 7 [(4, .int (eI (((ee : Nat) : Int) + 1))), (2, .int (eI 1)), (5, .long (eL ((gD (eh_tl a b ee)) + (gW ee)))), (3, .int (eI ((r : Nat) : Int))), (1, .int (eI (st : Int))), (0, .ref h0)] := hl
                  refine lv_goto (tgt := 44) hx hb d_N_findWays_155 rfl ?_
                  have hfB2 := eh_fB_take hcx hee hfB (by omega) (by omega) (by omega)
                  rw [← nW] at hfB2
                  exact ih2 (ee + 1) _ _ _ H locs ls (by omega) (by omega) (lv_sub hl [0, 3, 1, 4, 5] rfl) hP hD hS hfB2
        exact inner (2 * K) 0 0 gD gE H locs ls (by omega) (by omega) (lv_sub hl [0, 2, 1, 3, 4] rfl) hP hD hS hfB0
  exact outer 12 0 1 _ _ H locs ls (by omega) (by omega) (lv_sub hl [0, 1, 3, 2] rfl) hP hD hS (eh_fA_0 hst huD huE)
