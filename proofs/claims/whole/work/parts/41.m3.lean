abbrev c_M_isArc : ByteArray := prog_7_method_28_code
def y_M_isArc : MethodName := ⟨"EarthHaulsModel", "isArc", "(II)Z"⟩
abbrev k_M_isArc : Cond := .code y_M_isArc c_M_isArc 3 (some .boolean)
theorem kin_M_isArc : k_M_isArc ∈ ew_t := tb_785
theorem dv_M_isArc : eh_dV y_M_isArc "EarthHaulsModel" 2 := ⟨rfl, by decide, by decide, by decide +kernel⟩
theorem d_M_isArc_0 : decode c_M_isArc 0 = .ok (.aload_n 0, 1) := by decide +kernel
theorem d_M_isArc_1 : decode c_M_isArc 1 = .ok (.getfield 52, 3) := by decide +kernel
theorem d_M_isArc_4 : decode c_M_isArc 4 = .ok (.bipush 6, 2) := by decide +kernel
theorem d_M_isArc_6 : decode c_M_isArc 6 = .ok (.iload_n 1, 1) := by decide +kernel
theorem d_M_isArc_7 : decode c_M_isArc 7 = .ok (.imul, 1) := by decide +kernel
theorem d_M_isArc_8 : decode c_M_isArc 8 = .ok (.iload_n 2, 1) := by decide +kernel
theorem d_M_isArc_9 : decode c_M_isArc 9 = .ok (.iadd, 1) := by decide +kernel
theorem d_M_isArc_10 : decode c_M_isArc 10 = .ok (.iaload, 1) := by decide +kernel
theorem d_M_isArc_11 : decode c_M_isArc 11 = .ok (.ifCond .lt 7, 3) := by decide +kernel
theorem d_M_isArc_14 : decode c_M_isArc 14 = .ok (.iconst 1, 1) := by decide +kernel
theorem d_M_isArc_15 : decode c_M_isArc 15 = .ok (.goto 4, 3) := by decide +kernel
theorem d_M_isArc_18 : decode c_M_isArc 18 = .ok (.iconst 0, 1) := by decide +kernel
theorem d_M_isArc_19 : decode c_M_isArc 19 = .ok (.ireturn, 1) := by decide +kernel
set_option maxHeartbeats 1000000 in
set_option maxRecDepth 100000 in
theorem r_M_isArc (l : Launch) (D : va_G) (cI cL cZ : ClassId) (md : Nat → Nat) (co : Int) (n : Nat) (sh ra up lw kn fo : Int) (cs : Nat → Int) (hcs : ∀ k, k < 42 → -1 ≤ cs k ∧ cs k ≤ 100000) (y z : Nat) (hy : y < 7) (hz : z < 6) : eh_R l y_M_isArc k_M_isArc 0 0 D classes [(cI, .int), (cL, .long), (cZ, .boolean)] [.ref (md 0), .int (eI ((y : Nat) : Int)), .int (eI ((z : Nat) : Int))] [((md 0), .inr (5, [.int (eI co), .int (eI ((n : Nat) : Int)), .ref (md 1), .ref (md 2), .ref (md 3), .int (eI sh), .int (eI ra), .ref (md 4), .ref (md 5), .ref (md 6), .ref (md 7), .ref (md 8), .long (eL up), .long (eL lw), .ref (md 9), .ref (md 10), .ref (md 11), .ref (md 12), .ref (md 13), .ref (md 14), .ref (md 15), .int (eI kn), .int (eI fo)])), ((md 12), aI cI 42 cs)] (.int (eI (if 0 ≤ cs (6 * y + z) then 1 else 0))) := by
  refine Met.ofW (cc := c_M_isArc) (maxL := 3) (ret := (some .boolean)) (by decide) rfl ?_
  intro p e s m args below meth c s₁ B hml hv
  obtain ⟨hargs, hP, hK, hN⟩ := hv
  have hx := B.exec
  have hb := B.bytes
  have hrt := B.returns
  have hts := atoms_spec (ws := k_M_isArc :: ew_t) B.pre
  have htb : ∀ w ∈ ew_t, w.before args s = true := fun w h => hts w (List.mem_cons_of_mem _ h)
  have hown : s.vm.findClass "EarthHaulsModel" = some m.cls := findClass_of_methodNamed B.named
  have hlocks := B.notSynchronized
  have hE : entryFrame m args 3 = entryFrame m ([.ref (md 0), .int (eI ((y : Nat) : Int)), .int (eI ((z : Nat) : Int))] : List Value).toArray 3 := by rw [hargs]
  rw [hE]
  clear hE hts B hargs
  generalize hRe : (headSpec _ _).room = R
  have hR1 : R.frames = 0 := by rw [← hRe]; rfl
  have hR2 : R.locals = 0 := by rw [← hRe]; rfl
  clear hRe
  generalize hQ : MQ below _ _ s 0 0 _ = Q
  have hP : va_P D classes [((md 0), .inr (5, [.int (eI co), .int (eI ((n : Nat) : Int)), .ref (md 1), .ref (md 2), .ref (md 3), .int (eI sh), .int (eI ra), .ref (md 4), .ref (md 5), .ref (md 6), .ref (md 7), .ref (md 8), .long (eL up), .long (eL lw), .ref (md 9), .ref (md 10), .ref (md 11), .ref (md 12), .ref (md 13), .ref (md 14), .ref (md 15), .int (eI kn), .int (eI fo)])), ((md 12), aI cI 42 cs)] s.heap := hP
  have hl := lv_entry ([.ref (md 0), .int (eI ((y : Nat) : Int)), .int (eI ((z : Nat) : Int))]) (n := 3) (Nat.le_of_ble_eq_true rfl)
  rw [lg_entry_eq]
  generalize (lg_sl ([.ref (md 0), .int (eI ((y : Nat) : Int)), .int (eI ((z : Nat) : Int))]) ++ List.replicate (3 - (lg_sl ([.ref (md 0), .int (eI ((y : Nat) : Int)), .int (eI ((z : Nat) : Int))])).length) Slot.unset).toArray = ls at hl ⊢
  have hl : lv_has ls 3 [(0, .ref (md 0)), (1, .int (eI ((y : Nat) : Int))), (2, .int (eI ((z : Nat) : Int)))] := hl
  have hcb := hcs (6 * y + z) (by omega)
  refine lv_aload_n hx hb d_M_isArc_0 rfl (lv_at hl 0 rfl) ?_
  refine va_get (D := D) (ci := 5) (v := .ref (md 12)) (C := R_M) (T := T_M) (N := 23) hx hb htb in_M hown hK hP 0 rfl rfl 17 (by decide) (htb _ tb_605) (fun _ h9 => h9) rfl d_M_isArc_1 ?_
  refine lv_bipush (v := eI 6) hx hb d_M_isArc_4 (by decide) ?_
  refine lv_iload_n hx hb d_M_isArc_6 rfl (lv_at hl 1 rfl) ?_
  refine we_imul hx hb d_M_isArc_7 ?_
  refine lv_iload_n hx hb d_M_isArc_8 rfl (lv_at hl 2 rfl) ?_
  refine we_iadd hx hb d_M_isArc_9 ?_
  refine we_iald hx hb hK hP 1 0 rfl rfl (6 * y + z) (by omega) (by omega) (by decide) d_M_isArc_10 ?_
  refine we_if_lt (tgt := 18) hx hb (by constructor <;> omega) d_M_isArc_11 rfl (fun hc11 => ?_) (fun hc11 => ?_)
  ·
    refine lv_iconst (v := eI 0) hx hb d_M_isArc_18 rfl ?_
    have hres : (0 : Int) = (if 0 ≤ cs (6 * y + z) then 1 else 0) := by rw [if_neg (by omega)]
    subst hQ
    exact W.zret (v := eI 0) hx hb hrt (by decide) (fun t9 ht hW => ⟨by rw [← hres], ht⟩) (fun q h => by cases h) d_M_isArc_19
  ·
    refine lv_iconst (v := eI 1) hx hb d_M_isArc_14 rfl ?_
    refine lv_goto (tgt := 19) hx hb d_M_isArc_15 rfl ?_
    have hres : (1 : Int) = (if 0 ≤ cs (6 * y + z) then 1 else 0) := by rw [if_pos (by omega)]
    subst hQ
    exact W.zret (v := eI 1) hx hb hrt (by decide) (fun t9 ht hW => ⟨by rw [← hres], ht⟩) (fun q h => by cases h) d_M_isArc_19
abbrev c_M_partOf : ByteArray := prog_7_method_29_code
def y_M_partOf : MethodName := ⟨"EarthHaulsModel", "partOf", "(II)J"⟩
abbrev k_M_partOf : Cond := .code y_M_partOf c_M_partOf 3 (some .long)
theorem kin_M_partOf : k_M_partOf ∈ ew_t := tb_801
theorem dv_M_partOf : eh_dV y_M_partOf "EarthHaulsModel" 2 := ⟨rfl, by decide, by decide, by decide +kernel⟩
theorem d_M_partOf_0 : decode c_M_partOf 0 = .ok (.iload_n 1, 1) := by decide +kernel
theorem d_M_partOf_1 : decode c_M_partOf 1 = .ok (.bipush 6, 2) := by decide +kernel
theorem d_M_partOf_3 : decode c_M_partOf 3 = .ok (.if_icmp .ge 18, 3) := by decide +kernel
theorem d_M_partOf_6 : decode c_M_partOf 6 = .ok (.iload_n 2, 1) := by decide +kernel
theorem d_M_partOf_7 : decode c_M_partOf 7 = .ok (.iconst 5, 1) := by decide +kernel
theorem d_M_partOf_8 : decode c_M_partOf 8 = .ok (.if_icmp .ge 13, 3) := by decide +kernel
theorem d_M_partOf_11 : decode c_M_partOf 11 = .ok (.lconst 1, 1) := by decide +kernel
theorem d_M_partOf_12 : decode c_M_partOf 12 = .ok (.iconst 5, 1) := by decide +kernel
theorem d_M_partOf_13 : decode c_M_partOf 13 = .ok (.iload_n 1, 1) := by decide +kernel
theorem d_M_partOf_14 : decode c_M_partOf 14 = .ok (.imul, 1) := by decide +kernel
theorem d_M_partOf_15 : decode c_M_partOf 15 = .ok (.iload_n 2, 1) := by decide +kernel
theorem d_M_partOf_16 : decode c_M_partOf 16 = .ok (.iadd, 1) := by decide +kernel
theorem d_M_partOf_17 : decode c_M_partOf 17 = .ok (.lshl, 1) := by decide +kernel
theorem d_M_partOf_18 : decode c_M_partOf 18 = .ok (.goto 4, 3) := by decide +kernel
theorem d_M_partOf_21 : decode c_M_partOf 21 = .ok (.lconst 0, 1) := by decide +kernel
theorem d_M_partOf_22 : decode c_M_partOf 22 = .ok (.lreturn, 1) := by decide +kernel
set_option maxHeartbeats 1000000 in
set_option maxRecDepth 100000 in
theorem r_M_partOf (l : Launch) (D : va_G) (cI cL cZ : ClassId) (md : Nat → Nat) (co : Int) (n : Nat) (sh ra up lw kn fo : Int) (y z : Nat) (hy : y < 7) (hz : z < 6) : eh_R l y_M_partOf k_M_partOf 0 0 D classes [(cI, .int), (cL, .long), (cZ, .boolean)] [.ref (md 0), .int (eI ((y : Nat) : Int)), .int (eI ((z : Nat) : Int))] [((md 0), .inr (5, [.int (eI co), .int (eI ((n : Nat) : Int)), .ref (md 1), .ref (md 2), .ref (md 3), .int (eI sh), .int (eI ra), .ref (md 4), .ref (md 5), .ref (md 6), .ref (md 7), .ref (md 8), .long (eL up), .long (eL lw), .ref (md 9), .ref (md 10), .ref (md 11), .ref (md 12), .ref (md 13), .ref (md 14), .ref (md 15), .int (eI kn), .int (eI fo)]))] (.long (eL (eh_rp y z))) := by
  refine Met.ofW (cc := c_M_partOf) (maxL := 3) (ret := (some .long)) (by decide) rfl ?_
  intro p e s m args below meth c s₁ B hml hv
  obtain ⟨hargs, hP, hK, hN⟩ := hv
  have hx := B.exec
  have hb := B.bytes
  have hrt := B.returns
  have hts := atoms_spec (ws := k_M_partOf :: ew_t) B.pre
  have htb : ∀ w ∈ ew_t, w.before args s = true := fun w h => hts w (List.mem_cons_of_mem _ h)
  have hown : s.vm.findClass "EarthHaulsModel" = some m.cls := findClass_of_methodNamed B.named
  have hlocks := B.notSynchronized
  have hE : entryFrame m args 3 = entryFrame m ([.ref (md 0), .int (eI ((y : Nat) : Int)), .int (eI ((z : Nat) : Int))] : List Value).toArray 3 := by rw [hargs]
  rw [hE]
  clear hE hts B hargs
  generalize hRe : (headSpec _ _).room = R
  have hR1 : R.frames = 0 := by rw [← hRe]; rfl
  have hR2 : R.locals = 0 := by rw [← hRe]; rfl
  clear hRe
  generalize hQ : MQ below _ _ s 0 0 _ = Q
  have hP : va_P D classes [((md 0), .inr (5, [.int (eI co), .int (eI ((n : Nat) : Int)), .ref (md 1), .ref (md 2), .ref (md 3), .int (eI sh), .int (eI ra), .ref (md 4), .ref (md 5), .ref (md 6), .ref (md 7), .ref (md 8), .long (eL up), .long (eL lw), .ref (md 9), .ref (md 10), .ref (md 11), .ref (md 12), .ref (md 13), .ref (md 14), .ref (md 15), .int (eI kn), .int (eI fo)]))] s.heap := hP
  have hl := lv_entry ([.ref (md 0), .int (eI ((y : Nat) : Int)), .int (eI ((z : Nat) : Int))]) (n := 3) (Nat.le_of_ble_eq_true rfl)
  rw [lg_entry_eq]
  generalize (lg_sl ([.ref (md 0), .int (eI ((y : Nat) : Int)), .int (eI ((z : Nat) : Int))]) ++ List.replicate (3 - (lg_sl ([.ref (md 0), .int (eI ((y : Nat) : Int)), .int (eI ((z : Nat) : Int))])).length) Slot.unset).toArray = ls at hl ⊢
  have hl : lv_has ls 3 [(0, .ref (md 0)), (1, .int (eI ((y : Nat) : Int))), (2, .int (eI ((z : Nat) : Int)))] := hl
  refine lv_iload_n hx hb d_M_partOf_0 rfl (lv_at hl 1 rfl) ?_
  refine lv_bipush (v := eI 6) hx hb d_M_partOf_1 (by decide) ?_
  refine we_icmp_ge (tgt := 21) hx hb (by constructor <;> omega) (by constructor <;> omega) d_M_partOf_3 rfl (fun hc3 => ?_) (fun hc3 => ?_)
  ·
    refine lv_lconst (v := eL 0) hx hb d_M_partOf_21 (by decide) ?_
    have hres : 0 = (eh_rp y z) := by unfold eh_rp; rw [if_neg (by omega)]
    rw [hres]
    subst hQ
    exact W.lret hx hb hrt (fun t9 ht hW => ⟨rfl, ht⟩) (fun q h => by cases h) d_M_partOf_22
  ·
    refine lv_iload_n hx hb d_M_partOf_6 rfl (lv_at hl 2 rfl) ?_
    refine lv_iconst (v := eI 5) hx hb d_M_partOf_7 rfl ?_
    refine we_icmp_ge (tgt := 21) hx hb (by constructor <;> omega) (by constructor <;> omega) d_M_partOf_8 rfl (fun hc8 => ?_) (fun hc8 => ?_)
    ·
      refine lv_lconst (v := eL 0) hx hb d_M_partOf_21 (by decide) ?_
      have hres : 0 = (eh_rp y z) := by unfold eh_rp; rw [if_neg (by omega)]
      rw [hres]
      subst hQ
      exact W.lret hx hb hrt (fun t9 ht hW => ⟨rfl, ht⟩) (fun q h => by cases h) d_M_partOf_22
    ·
      refine lv_lconst (v := eL 1) hx hb d_M_partOf_11 (by decide) ?_
      refine lv_iconst (v := eI 5) hx hb d_M_partOf_12 rfl ?_
      refine lv_iload_n hx hb d_M_partOf_13 rfl (lv_at hl 1 rfl) ?_
      refine we_imul hx hb d_M_partOf_14 ?_
      refine lv_iload_n hx hb d_M_partOf_15 rfl (lv_at hl 2 rfl) ?_
      refine we_iadd hx hb d_M_partOf_16 ?_
      refine lv_lshl (v := eL (eh_pw (5 * y + z))) hx hb d_M_partOf_17 (eh_shl1 (5 * y + z) (by omega)) ?_
      refine lv_goto (tgt := 22) hx hb d_M_partOf_18 rfl ?_
      have hres : (eh_pw (5 * y + z)) = (eh_rp y z) := by unfold eh_rp; rw [if_pos (by omega)]
      rw [hres]
      subst hQ
      exact W.lret hx hb hrt (fun t9 ht hW => ⟨rfl, ht⟩) (fun q h => by cases h) d_M_partOf_22
abbrev c_M_relax : ByteArray := prog_7_method_33_code
def y_M_relax : MethodName := ⟨"EarthHaulsModel", "relax", "(IIJJ)Z"⟩
abbrev k_M_relax : Cond := .code y_M_relax c_M_relax 11 (some .boolean)
theorem kin_M_relax : k_M_relax ∈ ew_t := tb_805
theorem dv_M_relax : eh_dV y_M_relax "EarthHaulsModel" 4 := ⟨rfl, by decide, by decide, by decide +kernel⟩
theorem d_M_relax_0 : decode c_M_relax 0 = .ok (.aload_n 0, 1) := by decide +kernel
theorem d_M_relax_1 : decode c_M_relax 1 = .ok (.getfield 55, 3) := by decide +kernel
theorem d_M_relax_4 : decode c_M_relax 4 = .ok (.iload_n 1, 1) := by decide +kernel
theorem d_M_relax_5 : decode c_M_relax 5 = .ok (.laload, 1) := by decide +kernel
theorem d_M_relax_6 : decode c_M_relax 6 = .ok (.lload_n 3, 1) := by decide +kernel
theorem d_M_relax_7 : decode c_M_relax 7 = .ok (.ladd, 1) := by decide +kernel
theorem d_M_relax_8 : decode c_M_relax 8 = .ok (.lstore 7, 2) := by decide +kernel
theorem d_M_relax_10 : decode c_M_relax 10 = .ok (.aload_n 0, 1) := by decide +kernel
theorem d_M_relax_11 : decode c_M_relax 11 = .ok (.getfield 58, 3) := by decide +kernel
theorem d_M_relax_14 : decode c_M_relax 14 = .ok (.iload_n 1, 1) := by decide +kernel
theorem d_M_relax_15 : decode c_M_relax 15 = .ok (.laload, 1) := by decide +kernel
theorem d_M_relax_16 : decode c_M_relax 16 = .ok (.lload 5, 2) := by decide +kernel
theorem d_M_relax_18 : decode c_M_relax 18 = .ok (.ladd, 1) := by decide +kernel
theorem d_M_relax_19 : decode c_M_relax 19 = .ok (.lstore 9, 2) := by decide +kernel
theorem d_M_relax_21 : decode c_M_relax 21 = .ok (.lload 7, 2) := by decide +kernel
theorem d_M_relax_23 : decode c_M_relax 23 = .ok (.aload_n 0, 1) := by decide +kernel
theorem d_M_relax_24 : decode c_M_relax 24 = .ok (.getfield 55, 3) := by decide +kernel
theorem d_M_relax_27 : decode c_M_relax 27 = .ok (.iload_n 2, 1) := by decide +kernel
theorem d_M_relax_28 : decode c_M_relax 28 = .ok (.laload, 1) := by decide +kernel
theorem d_M_relax_29 : decode c_M_relax 29 = .ok (.lcmp, 1) := by decide +kernel
theorem d_M_relax_30 : decode c_M_relax 30 = .ok (.ifCond .gt 27, 3) := by decide +kernel
theorem d_M_relax_33 : decode c_M_relax 33 = .ok (.lload 7, 2) := by decide +kernel
theorem d_M_relax_35 : decode c_M_relax 35 = .ok (.aload_n 0, 1) := by decide +kernel
theorem d_M_relax_36 : decode c_M_relax 36 = .ok (.getfield 55, 3) := by decide +kernel
theorem d_M_relax_39 : decode c_M_relax 39 = .ok (.iload_n 2, 1) := by decide +kernel
theorem d_M_relax_40 : decode c_M_relax 40 = .ok (.laload, 1) := by decide +kernel
theorem d_M_relax_41 : decode c_M_relax 41 = .ok (.lcmp, 1) := by decide +kernel
theorem d_M_relax_42 : decode c_M_relax 42 = .ok (.ifCond .ne 17, 3) := by decide +kernel
theorem d_M_relax_45 : decode c_M_relax 45 = .ok (.lload 9, 2) := by decide +kernel
theorem d_M_relax_47 : decode c_M_relax 47 = .ok (.aload_n 0, 1) := by decide +kernel
theorem d_M_relax_48 : decode c_M_relax 48 = .ok (.getfield 58, 3) := by decide +kernel
theorem d_M_relax_51 : decode c_M_relax 51 = .ok (.iload_n 2, 1) := by decide +kernel
theorem d_M_relax_52 : decode c_M_relax 52 = .ok (.laload, 1) := by decide +kernel
theorem d_M_relax_53 : decode c_M_relax 53 = .ok (.lcmp, 1) := by decide +kernel
theorem d_M_relax_54 : decode c_M_relax 54 = .ok (.ifCond .lt 5, 3) := by decide +kernel
theorem d_M_relax_57 : decode c_M_relax 57 = .ok (.iconst 0, 1) := by decide +kernel
theorem d_M_relax_58 : decode c_M_relax 58 = .ok (.ireturn, 1) := by decide +kernel
theorem d_M_relax_59 : decode c_M_relax 59 = .ok (.aload_n 0, 1) := by decide +kernel
theorem d_M_relax_60 : decode c_M_relax 60 = .ok (.getfield 55, 3) := by decide +kernel
theorem d_M_relax_63 : decode c_M_relax 63 = .ok (.iload_n 2, 1) := by decide +kernel
theorem d_M_relax_64 : decode c_M_relax 64 = .ok (.lload 7, 2) := by decide +kernel
theorem d_M_relax_66 : decode c_M_relax 66 = .ok (.lastore, 1) := by decide +kernel
theorem d_M_relax_67 : decode c_M_relax 67 = .ok (.aload_n 0, 1) := by decide +kernel
theorem d_M_relax_68 : decode c_M_relax 68 = .ok (.getfield 58, 3) := by decide +kernel
theorem d_M_relax_71 : decode c_M_relax 71 = .ok (.iload_n 2, 1) := by decide +kernel
theorem d_M_relax_72 : decode c_M_relax 72 = .ok (.lload 9, 2) := by decide +kernel
theorem d_M_relax_74 : decode c_M_relax 74 = .ok (.lastore, 1) := by decide +kernel
theorem d_M_relax_75 : decode c_M_relax 75 = .ok (.aload_n 0, 1) := by decide +kernel
theorem d_M_relax_76 : decode c_M_relax 76 = .ok (.getfield 61, 3) := by decide +kernel
theorem d_M_relax_79 : decode c_M_relax 79 = .ok (.iload_n 2, 1) := by decide +kernel
theorem d_M_relax_80 : decode c_M_relax 80 = .ok (.iload_n 1, 1) := by decide +kernel
theorem d_M_relax_81 : decode c_M_relax 81 = .ok (.iastore, 1) := by decide +kernel
theorem d_M_relax_82 : decode c_M_relax 82 = .ok (.iconst 1, 1) := by decide +kernel
theorem d_M_relax_83 : decode c_M_relax 83 = .ok (.ireturn, 1) := by decide +kernel
set_option maxHeartbeats 1000000 in
set_option maxRecDepth 100000 in
theorem m_M_relax (l : Launch) (D : va_G) (cI cL cZ : ClassId) (md : Nat → Nat) (co : Int) (n : Nat) (sh ra up lw kn fo : Int) (G1 G2 BY : Nat → Int) (hG1 : ∀ v, v < 13 → -1000000000000000000 ≤ G1 v ∧ G1 v ≤ 1000000000000000000) (hG2 : ∀ v, v < 13 → -1000000000000000000 ≤ G2 v ∧ G2 v ≤ 1000000000000000000) (y z : Nat) (hy : y < 13) (hz : z < 13) (av bv : Int) (hav : -1000000000000000000 ≤ av ∧ av ≤ 1000000000000000000) (hbv : -1000000000000000000 ≤ bv ∧ bv ≤ 1000000000000000000) : eh_M (S := Int × (Nat → Int) × (Nat → Int) × (Nat → Int)) l y_M_relax k_M_relax 0 0 D classes [(cI, .int), (cL, .long), (cZ, .boolean)] [.ref (md 0), .int (eI ((y : Nat) : Int)), .int (eI ((z : Nat) : Int)), .long (eL av), .long (eL bv)] [((md 0), .inr (5, [.int (eI co), .int (eI ((n : Nat) : Int)), .ref (md 1), .ref (md 2), .ref (md 3), .int (eI sh), .int (eI ra), .ref (md 4), .ref (md 5), .ref (md 6), .ref (md 7), .ref (md 8), .long (eL up), .long (eL lw), .ref (md 9), .ref (md 10), .ref (md 11), .ref (md 12), .ref (md 13), .ref (md 14), .ref (md 15), .int (eI kn), .int (eI fo)])), ((md 13), aL cL 13 G1), ((md 14), aL cL 13 G2), ((md 15), aI cI 13 BY)] (fun u => (u = (1, eh_upd G1 z (G1 y + av), eh_upd G2 z (G2 y + bv), eh_upd BY z ((y : Nat) : Int)) ∧ (G1 y + av < G1 z ∨ (G1 y + av = G1 z ∧ G2 y + bv < G2 z))) ∨ (u = (0, G1, G2, BY) ∧ ¬ (G1 y + av < G1 z ∨ (G1 y + av = G1 z ∧ G2 y + bv < G2 z)))) (fun u => some (.int (eI u.1))) (fun u => [((md 0), .inr (5, [.int (eI co), .int (eI ((n : Nat) : Int)), .ref (md 1), .ref (md 2), .ref (md 3), .int (eI sh), .int (eI ra), .ref (md 4), .ref (md 5), .ref (md 6), .ref (md 7), .ref (md 8), .long (eL up), .long (eL lw), .ref (md 9), .ref (md 10), .ref (md 11), .ref (md 12), .ref (md 13), .ref (md 14), .ref (md 15), .int (eI kn), .int (eI fo)])), ((md 13), aL cL 13 u.2.1), ((md 14), aL cL 13 u.2.2.1), ((md 15), aI cI 13 u.2.2.2)]) := by
  intro sz
  refine Met.ofW (cc := c_M_relax) (maxL := 11) (ret := (some .boolean)) (by decide) rfl ?_
  intro p e s m args below meth c s₁ B hml hv
  obtain ⟨hargs, hsz, hP, hK, hD0, hN⟩ := hv
  have hx := B.exec
  have hb := B.bytes
  have hrt := B.returns
  have hts := atoms_spec (ws := k_M_relax :: ew_t) B.pre
  have htb : ∀ w ∈ ew_t, w.before args s = true := fun w h => hts w (List.mem_cons_of_mem _ h)
  have hown : s.vm.findClass "EarthHaulsModel" = some m.cls := findClass_of_methodNamed B.named
  have hlocks := B.notSynchronized
  have hE : entryFrame m args 11 = entryFrame m ([.ref (md 0), .int (eI ((y : Nat) : Int)), .int (eI ((z : Nat) : Int)), .long (eL av), .long (eL bv)] : List Value).toArray 11 := by rw [hargs]
  rw [hE]
  clear hE hts B hargs
  generalize hRe : (headSpec _ _).room = R
  have hR1 : R.frames = 0 := by rw [← hRe]; rfl
  have hR2 : R.locals = 0 := by rw [← hRe]; rfl
  clear hRe
  generalize hQ : MQ below _ _ s 0 0 _ = Q
  subst hsz
  have hD := hD0.self (sz := s.heap.size)
  generalize hAe : va_A [((md 0), .inr (5, [.int (eI co), .int (eI ((n : Nat) : Int)), .ref (md 1), .ref (md 2), .ref (md 3), .int (eI sh), .int (eI ra), .ref (md 4), .ref (md 5), .ref (md 6), .ref (md 7), .ref (md 8), .long (eL up), .long (eL lw), .ref (md 9), .ref (md 10), .ref (md 11), .ref (md 12), .ref (md 13), .ref (md 14), .ref (md 15), .int (eI kn), .int (eI fo)])), ((md 13), aL cL 13 G1), ((md 14), aL cL 13 G2), ((md 15), aI cI 13 BY)] s.heap.size = A at hD hQ
  have hA : ∀ q : Nat, s.heap.size ≤ q → A q := fun q h => by rw [← hAe]; exact Or.inr h
  have hS : va_S A s.heap s.heap [] := va_S.rf
  have hP : va_P D classes [((md 0), .inr (5, [.int (eI co), .int (eI ((n : Nat) : Int)), .ref (md 1), .ref (md 2), .ref (md 3), .int (eI sh), .int (eI ra), .ref (md 4), .ref (md 5), .ref (md 6), .ref (md 7), .ref (md 8), .long (eL up), .long (eL lw), .ref (md 9), .ref (md 10), .ref (md 11), .ref (md 12), .ref (md 13), .ref (md 14), .ref (md 15), .int (eI kn), .int (eI fo)])), ((md 13), aL cL 13 G1), ((md 14), aL cL 13 G2), ((md 15), aI cI 13 BY)] s.heap := hP
  have hl := lv_entry ([.ref (md 0), .int (eI ((y : Nat) : Int)), .int (eI ((z : Nat) : Int)), .long (eL av), .long (eL bv)]) (n := 11) (Nat.le_of_ble_eq_true rfl)
  rw [lg_entry_eq]
  generalize (lg_sl ([.ref (md 0), .int (eI ((y : Nat) : Int)), .int (eI ((z : Nat) : Int)), .long (eL av), .long (eL bv)]) ++ List.replicate (11 - (lg_sl ([.ref (md 0), .int (eI ((y : Nat) : Int)), .int (eI ((z : Nat) : Int)), .long (eL av), .long (eL bv)])).length) Slot.unset).toArray = ls at hl ⊢
  have hl : lv_has ls 11 [(0, .ref (md 0)), (1, .int (eI ((y : Nat) : Int))), (2, .int (eI ((z : Nat) : Int))), (3, .long (eL av)), (5, .long (eL bv))] := hl
  have g1y := hG1 y hy
  have g1z := hG1 z hz
  have g2y := hG2 y hy
  have g2z := hG2 z hz
  refine lv_aload_n hx hb d_M_relax_0 rfl (lv_at hl 0 rfl) ?_
  refine va_get (D := D) (ci := 5) (v := .ref (md 13)) (C := R_M) (T := T_M) (N := 23) hx hb htb in_M hown hK hP 0 rfl rfl 18 (by decide) (htb _ tb_606) (fun _ h9 => h9) rfl d_M_relax_1 ?_
  refine lv_iload_n hx hb d_M_relax_4 rfl (lv_at hl 1 rfl) ?_
  refine we_lald hx hb hK hP 1 1 rfl rfl y rfl hy (by decide) d_M_relax_5 ?_
  refine lv_lload_n hx hb d_M_relax_6 rfl (lv_at hl 3 rfl) ?_
  refine we_ladd hx hb d_M_relax_7 ?_
  refine lv_lstore hx hb d_M_relax_8 hl (by decide) rfl (fun ls hl => ?_)
  have hl : lv_has ls 11 [(7, .long (eL ((G1 y) + av))), (0, .ref (md 0)), (1, .int (eI ((y : Nat) : Int))), (2, .int (eI ((z : Nat) : Int))), (3, .long (eL av)), (5, .long (eL bv))] := hl
  refine lv_aload_n hx hb d_M_relax_10 rfl (lv_at hl 1 rfl) ?_
  refine va_get (D := D) (ci := 5) (v := .ref (md 14)) (C := R_M) (T := T_M) (N := 23) hx hb htb in_M hown hK hP 0 rfl rfl 19 (by decide) (htb _ tb_607) (fun _ h9 => h9) rfl d_M_relax_11 ?_
  refine lv_iload_n hx hb d_M_relax_14 rfl (lv_at hl 2 rfl) ?_
  refine we_lald hx hb hK hP 2 1 rfl rfl y rfl hy (by decide) d_M_relax_15 ?_
  refine lv_lload hx hb d_M_relax_16 (lv_at hl 5 rfl) ?_
  refine we_ladd hx hb d_M_relax_18 ?_
  refine lv_lstore hx hb d_M_relax_19 hl (by decide) rfl (fun ls hl => ?_)
  have hl : lv_has ls 11 [(9, .long (eL ((G2 y) + bv))), (7, .long (eL ((G1 y) + av))), (0, .ref (md 0)), (1, .int (eI ((y : Nat) : Int))), (2, .int (eI ((z : Nat) : Int))), (3, .long (eL av)), (5, .long (eL bv))] := hl
  refine lv_lload hx hb d_M_relax_21 (lv_at hl 1 rfl) ?_
  refine lv_aload_n hx hb d_M_relax_23 rfl (lv_at hl 2 rfl) ?_
  refine va_get (D := D) (ci := 5) (v := .ref (md 13)) (C := R_M) (T := T_M) (N := 23) hx hb htb in_M hown hK hP 0 rfl rfl 18 (by decide) (htb _ tb_606) (fun _ h9 => h9) rfl d_M_relax_24 ?_
  refine lv_iload_n hx hb d_M_relax_27 rfl (lv_at hl 4 rfl) ?_
  refine we_lald hx hb hK hP 1 1 rfl rfl z rfl hz (by decide) d_M_relax_28 ?_
  refine we_lcmp_gt (pc2 := 30) (tgt := 57) hx hb (by constructor <;> omega) (by constructor <;> omega) d_M_relax_29 rfl d_M_relax_30 rfl (fun hc29 => ?_) (fun hc29 => ?_)
  ·
    refine lv_iconst (v := eI 0) hx hb d_M_relax_57 rfl ?_
    subst hQ
    exact W.zret (v := eI 0) hx hb hrt (by decide) (fun t9 ht hW => ⟨⟨(0, G1, G2, BY), rfl, Or.inr ⟨rfl, by omega⟩, by rw [ht]; exact hP, hD⟩, hS.F ht⟩) hS.2.2 d_M_relax_58
  ·
    refine lv_lload hx hb d_M_relax_33 (lv_at hl 1 rfl) ?_
    refine lv_aload_n hx hb d_M_relax_35 rfl (lv_at hl 2 rfl) ?_
    refine va_get (D := D) (ci := 5) (v := .ref (md 13)) (C := R_M) (T := T_M) (N := 23) hx hb htb in_M hown hK hP 0 rfl rfl 18 (by decide) (htb _ tb_606) (fun _ h9 => h9) rfl d_M_relax_36 ?_
    refine lv_iload_n hx hb d_M_relax_39 rfl (lv_at hl 4 rfl) ?_
    refine we_lald hx hb hK hP 1 1 rfl rfl z rfl hz (by decide) d_M_relax_40 ?_
    refine we_lcmp_ne (pc2 := 42) (tgt := 59) hx hb (by constructor <;> omega) (by constructor <;> omega) d_M_relax_41 rfl d_M_relax_42 rfl (fun hc41 => ?_) (fun hc41 => ?_)
    ·
      refine lv_aload_n hx hb d_M_relax_59 rfl (lv_at hl 2 rfl) ?_
      refine va_get (D := D) (ci := 5) (v := .ref (md 13)) (C := R_M) (T := T_M) (N := 23) hx hb htb in_M hown hK hP 0 rfl rfl 18 (by decide) (htb _ tb_606) (fun _ h9 => h9) rfl d_M_relax_60 ?_
      refine lv_iload_n hx hb d_M_relax_63 rfl (lv_at hl 4 rfl) ?_
      refine lv_lload hx hb d_M_relax_64 (lv_at hl 1 rfl) ?_
      refine we_last hx hb hK hP hD hS 1 1 rfl rfl z rfl hz (by decide) d_M_relax_66 (fun H locs hP hD hS => ?_)
      have hP : va_P D classes [((md 0), .inr (5, [.int (eI co), .int (eI ((n : Nat) : Int)), .ref (md 1), .ref (md 2), .ref (md 3), .int (eI sh), .int (eI ra), .ref (md 4), .ref (md 5), .ref (md 6), .ref (md 7), .ref (md 8), .long (eL up), .long (eL lw), .ref (md 9), .ref (md 10), .ref (md 11), .ref (md 12), .ref (md 13), .ref (md 14), .ref (md 15), .int (eI kn), .int (eI fo)])), ((md 13), aL cL 13 (eh_upd G1 z ((G1 y) + av))), ((md 14), aL cL 13 G2), ((md 15), aI cI 13 BY)] H := hP
      have hD : va_D A [((md 0), .inr (5, [.int (eI co), .int (eI ((n : Nat) : Int)), .ref (md 1), .ref (md 2), .ref (md 3), .int (eI sh), .int (eI ra), .ref (md 4), .ref (md 5), .ref (md 6), .ref (md 7), .ref (md 8), .long (eL up), .long (eL lw), .ref (md 9), .ref (md 10), .ref (md 11), .ref (md 12), .ref (md 13), .ref (md 14), .ref (md 15), .int (eI kn), .int (eI fo)])), ((md 13), aL cL 13 (eh_upd G1 z ((G1 y) + av))), ((md 14), aL cL 13 G2), ((md 15), aI cI 13 BY)] := hD
      refine lv_aload_n hx hb d_M_relax_67 rfl (lv_at hl 2 rfl) ?_
      refine va_get (D := D) (ci := 5) (v := .ref (md 14)) (C := R_M) (T := T_M) (N := 23) hx hb htb in_M hown hK hP 0 rfl rfl 19 (by decide) (htb _ tb_607) (fun _ h9 => h9) rfl d_M_relax_68 ?_
      refine lv_iload_n hx hb d_M_relax_71 rfl (lv_at hl 4 rfl) ?_
      refine lv_lload hx hb d_M_relax_72 (lv_at hl 0 rfl) ?_
      refine we_last hx hb hK hP hD hS 2 1 rfl rfl z rfl hz (by decide) d_M_relax_74 (fun H locs hP hD hS => ?_)
      have hP : va_P D classes [((md 0), .inr (5, [.int (eI co), .int (eI ((n : Nat) : Int)), .ref (md 1), .ref (md 2), .ref (md 3), .int (eI sh), .int (eI ra), .ref (md 4), .ref (md 5), .ref (md 6), .ref (md 7), .ref (md 8), .long (eL up), .long (eL lw), .ref (md 9), .ref (md 10), .ref (md 11), .ref (md 12), .ref (md 13), .ref (md 14), .ref (md 15), .int (eI kn), .int (eI fo)])), ((md 13), aL cL 13 (eh_upd G1 z ((G1 y) + av))), ((md 14), aL cL 13 (eh_upd G2 z ((G2 y) + bv))), ((md 15), aI cI 13 BY)] H := hP
      have hD : va_D A [((md 0), .inr (5, [.int (eI co), .int (eI ((n : Nat) : Int)), .ref (md 1), .ref (md 2), .ref (md 3), .int (eI sh), .int (eI ra), .ref (md 4), .ref (md 5), .ref (md 6), .ref (md 7), .ref (md 8), .long (eL up), .long (eL lw), .ref (md 9), .ref (md 10), .ref (md 11), .ref (md 12), .ref (md 13), .ref (md 14), .ref (md 15), .int (eI kn), .int (eI fo)])), ((md 13), aL cL 13 (eh_upd G1 z ((G1 y) + av))), ((md 14), aL cL 13 (eh_upd G2 z ((G2 y) + bv))), ((md 15), aI cI 13 BY)] := hD
      refine lv_aload_n hx hb d_M_relax_75 rfl (lv_at hl 2 rfl) ?_
      refine va_get (D := D) (ci := 5) (v := .ref (md 15)) (C := R_M) (T := T_M) (N := 23) hx hb htb in_M hown hK hP 0 rfl rfl 20 (by decide) (htb _ tb_608) (fun _ h9 => h9) rfl d_M_relax_76 ?_
      refine lv_iload_n hx hb d_M_relax_79 rfl (lv_at hl 4 rfl) ?_
      refine lv_iload_n hx hb d_M_relax_80 rfl (lv_at hl 3 rfl) ?_
      refine we_iast hx hb hK hP hD hS 3 0 rfl rfl z rfl hz (by decide) d_M_relax_81 (fun H locs hP hD hS => ?_)
      have hP : va_P D classes [((md 0), .inr (5, [.int (eI co), .int (eI ((n : Nat) : Int)), .ref (md 1), .ref (md 2), .ref (md 3), .int (eI sh), .int (eI ra), .ref (md 4), .ref (md 5), .ref (md 6), .ref (md 7), .ref (md 8), .long (eL up), .long (eL lw), .ref (md 9), .ref (md 10), .ref (md 11), .ref (md 12), .ref (md 13), .ref (md 14), .ref (md 15), .int (eI kn), .int (eI fo)])), ((md 13), aL cL 13 (eh_upd G1 z ((G1 y) + av))), ((md 14), aL cL 13 (eh_upd G2 z ((G2 y) + bv))), ((md 15), aI cI 13 (eh_upd BY z ((y : Nat) : Int)))] H := hP
      have hD : va_D A [((md 0), .inr (5, [.int (eI co), .int (eI ((n : Nat) : Int)), .ref (md 1), .ref (md 2), .ref (md 3), .int (eI sh), .int (eI ra), .ref (md 4), .ref (md 5), .ref (md 6), .ref (md 7), .ref (md 8), .long (eL up), .long (eL lw), .ref (md 9), .ref (md 10), .ref (md 11), .ref (md 12), .ref (md 13), .ref (md 14), .ref (md 15), .int (eI kn), .int (eI fo)])), ((md 13), aL cL 13 (eh_upd G1 z ((G1 y) + av))), ((md 14), aL cL 13 (eh_upd G2 z ((G2 y) + bv))), ((md 15), aI cI 13 (eh_upd BY z ((y : Nat) : Int)))] := hD
      refine lv_iconst (v := eI 1) hx hb d_M_relax_82 rfl ?_
      subst hQ
      exact W.zret (v := eI 1) hx hb hrt (by decide) (fun t9 ht hW => ⟨⟨(1, eh_upd G1 z (G1 y + av), eh_upd G2 z (G2 y + bv), eh_upd BY z ((y : Nat) : Int)), rfl, Or.inl ⟨rfl, by omega⟩, by rw [ht]; exact hP, hD⟩, hS.F ht⟩) hS.2.2 d_M_relax_83
    ·
      refine lv_lload hx hb d_M_relax_45 (lv_at hl 0 rfl) ?_
      refine lv_aload_n hx hb d_M_relax_47 rfl (lv_at hl 2 rfl) ?_
      refine va_get (D := D) (ci := 5) (v := .ref (md 14)) (C := R_M) (T := T_M) (N := 23) hx hb htb in_M hown hK hP 0 rfl rfl 19 (by decide) (htb _ tb_607) (fun _ h9 => h9) rfl d_M_relax_48 ?_
      refine lv_iload_n hx hb d_M_relax_51 rfl (lv_at hl 4 rfl) ?_
      refine we_lald hx hb hK hP 2 1 rfl rfl z rfl hz (by decide) d_M_relax_52 ?_
      refine we_lcmp_lt (pc2 := 54) (tgt := 59) hx hb (by constructor <;> omega) (by constructor <;> omega) d_M_relax_53 rfl d_M_relax_54 rfl (fun hc53 => ?_) (fun hc53 => ?_)
      ·
        refine lv_aload_n hx hb d_M_relax_59 rfl (lv_at hl 2 rfl) ?_
        refine va_get (D := D) (ci := 5) (v := .ref (md 13)) (C := R_M) (T := T_M) (N := 23) hx hb htb in_M hown hK hP 0 rfl rfl 18 (by decide) (htb _ tb_606) (fun _ h9 => h9) rfl d_M_relax_60 ?_
        refine lv_iload_n hx hb d_M_relax_63 rfl (lv_at hl 4 rfl) ?_
        refine lv_lload hx hb d_M_relax_64 (lv_at hl 1 rfl) ?_
        refine we_last hx hb hK hP hD hS 1 1 rfl rfl z rfl hz (by decide) d_M_relax_66 (fun H locs hP hD hS => ?_)
        have hP : va_P D classes [((md 0), .inr (5, [.int (eI co), .int (eI ((n : Nat) : Int)), .ref (md 1), .ref (md 2), .ref (md 3), .int (eI sh), .int (eI ra), .ref (md 4), .ref (md 5), .ref (md 6), .ref (md 7), .ref (md 8), .long (eL up), .long (eL lw), .ref (md 9), .ref (md 10), .ref (md 11), .ref (md 12), .ref (md 13), .ref (md 14), .ref (md 15), .int (eI kn), .int (eI fo)])), ((md 13), aL cL 13 (eh_upd G1 z ((G1 y) + av))), ((md 14), aL cL 13 G2), ((md 15), aI cI 13 BY)] H := hP
        have hD : va_D A [((md 0), .inr (5, [.int (eI co), .int (eI ((n : Nat) : Int)), .ref (md 1), .ref (md 2), .ref (md 3), .int (eI sh), .int (eI ra), .ref (md 4), .ref (md 5), .ref (md 6), .ref (md 7), .ref (md 8), .long (eL up), .long (eL lw), .ref (md 9), .ref (md 10), .ref (md 11), .ref (md 12), .ref (md 13), .ref (md 14), .ref (md 15), .int (eI kn), .int (eI fo)])), ((md 13), aL cL 13 (eh_upd G1 z ((G1 y) + av))), ((md 14), aL cL 13 G2), ((md 15), aI cI 13 BY)] := hD
        refine lv_aload_n hx hb d_M_relax_67 rfl (lv_at hl 2 rfl) ?_
        refine va_get (D := D) (ci := 5) (v := .ref (md 14)) (C := R_M) (T := T_M) (N := 23) hx hb htb in_M hown hK hP 0 rfl rfl 19 (by decide) (htb _ tb_607) (fun _ h9 => h9) rfl d_M_relax_68 ?_
        refine lv_iload_n hx hb d_M_relax_71 rfl (lv_at hl 4 rfl) ?_
        refine lv_lload hx hb d_M_relax_72 (lv_at hl 0 rfl) ?_
        refine we_last hx hb hK hP hD hS 2 1 rfl rfl z rfl hz (by decide) d_M_relax_74 (fun H locs hP hD hS => ?_)
        have hP : va_P D classes [((md 0), .inr (5, [.int (eI co), .int (eI ((n : Nat) : Int)), .ref (md 1), .ref (md 2), .ref (md 3), .int (eI sh), .int (eI ra), .ref (md 4), .ref (md 5), .ref (md 6), .ref (md 7), .ref (md 8), .long (eL up), .long (eL lw), .ref (md 9), .ref (md 10), .ref (md 11), .ref (md 12), .ref (md 13), .ref (md 14), .ref (md 15), .int (eI kn), .int (eI fo)])), ((md 13), aL cL 13 (eh_upd G1 z ((G1 y) + av))), ((md 14), aL cL 13 (eh_upd G2 z ((G2 y) + bv))), ((md 15), aI cI 13 BY)] H := hP
        have hD : va_D A [((md 0), .inr (5, [.int (eI co), .int (eI ((n : Nat) : Int)), .ref (md 1), .ref (md 2), .ref (md 3), .int (eI sh), .int (eI ra), .ref (md 4), .ref (md 5), .ref (md 6), .ref (md 7), .ref (md 8), .long (eL up), .long (eL lw), .ref (md 9), .ref (md 10), .ref (md 11), .ref (md 12), .ref (md 13), .ref (md 14), .ref (md 15), .int (eI kn), .int (eI fo)])), ((md 13), aL cL 13 (eh_upd G1 z ((G1 y) + av))), ((md 14), aL cL 13 (eh_upd G2 z ((G2 y) + bv))), ((md 15), aI cI 13 BY)] := hD
        refine lv_aload_n hx hb d_M_relax_75 rfl (lv_at hl 2 rfl) ?_
        refine va_get (D := D) (ci := 5) (v := .ref (md 15)) (C := R_M) (T := T_M) (N := 23) hx hb htb in_M hown hK hP 0 rfl rfl 20 (by decide) (htb _ tb_608) (fun _ h9 => h9) rfl d_M_relax_76 ?_
        refine lv_iload_n hx hb d_M_relax_79 rfl (lv_at hl 4 rfl) ?_
        refine lv_iload_n hx hb d_M_relax_80 rfl (lv_at hl 3 rfl) ?_
        refine we_iast hx hb hK hP hD hS 3 0 rfl rfl z rfl hz (by decide) d_M_relax_81 (fun H locs hP hD hS => ?_)
        have hP : va_P D classes [((md 0), .inr (5, [.int (eI co), .int (eI ((n : Nat) : Int)), .ref (md 1), .ref (md 2), .ref (md 3), .int (eI sh), .int (eI ra), .ref (md 4), .ref (md 5), .ref (md 6), .ref (md 7), .ref (md 8), .long (eL up), .long (eL lw), .ref (md 9), .ref (md 10), .ref (md 11), .ref (md 12), .ref (md 13), .ref (md 14), .ref (md 15), .int (eI kn), .int (eI fo)])), ((md 13), aL cL 13 (eh_upd G1 z ((G1 y) + av))), ((md 14), aL cL 13 (eh_upd G2 z ((G2 y) + bv))), ((md 15), aI cI 13 (eh_upd BY z ((y : Nat) : Int)))] H := hP
        have hD : va_D A [((md 0), .inr (5, [.int (eI co), .int (eI ((n : Nat) : Int)), .ref (md 1), .ref (md 2), .ref (md 3), .int (eI sh), .int (eI ra), .ref (md 4), .ref (md 5), .ref (md 6), .ref (md 7), .ref (md 8), .long (eL up), .long (eL lw), .ref (md 9), .ref (md 10), .ref (md 11), .ref (md 12), .ref (md 13), .ref (md 14), .ref (md 15), .int (eI kn), .int (eI fo)])), ((md 13), aL cL 13 (eh_upd G1 z ((G1 y) + av))), ((md 14), aL cL 13 (eh_upd G2 z ((G2 y) + bv))), ((md 15), aI cI 13 (eh_upd BY z ((y : Nat) : Int)))] := hD
        refine lv_iconst (v := eI 1) hx hb d_M_relax_82 rfl ?_
        subst hQ
        exact W.zret (v := eI 1) hx hb hrt (by decide) (fun t9 ht hW => ⟨⟨(1, eh_upd G1 z (G1 y + av), eh_upd G2 z (G2 y + bv), eh_upd BY z ((y : Nat) : Int)), rfl, Or.inl ⟨rfl, by omega⟩, by rw [ht]; exact hP, hD⟩, hS.F ht⟩) hS.2.2 d_M_relax_83
      ·
        refine lv_iconst (v := eI 0) hx hb d_M_relax_57 rfl ?_
        subst hQ
        exact W.zret (v := eI 0) hx hb hrt (by decide) (fun t9 ht hW => ⟨⟨(0, G1, G2, BY), rfl, Or.inr ⟨rfl, by omega⟩, by rw [ht]; exact hP, hD⟩, hS.F ht⟩) hS.2.2 d_M_relax_58
abbrev c_M_relaxAll : ByteArray := prog_7_method_34_code
def y_M_relaxAll : MethodName := ⟨"EarthHaulsModel", "relaxAll", "()I"⟩
abbrev k_M_relaxAll : Cond := .code y_M_relaxAll c_M_relaxAll 7 (some .int)
theorem kin_M_relaxAll : k_M_relaxAll ∈ ew_t := tb_797
theorem dv_M_relaxAll : eh_dV y_M_relaxAll "EarthHaulsModel" 0 := ⟨rfl, by decide, by decide, by decide +kernel⟩
theorem d_M_relaxAll_0 : decode c_M_relaxAll 0 = .ok (.iconst (-1), 1) := by decide +kernel
theorem d_M_relaxAll_1 : decode c_M_relaxAll 1 = .ok (.istore_n 1, 1) := by decide +kernel
theorem d_M_relaxAll_2 : decode c_M_relaxAll 2 = .ok (.iconst 0, 1) := by decide +kernel
theorem d_M_relaxAll_3 : decode c_M_relaxAll 3 = .ok (.istore_n 2, 1) := by decide +kernel
theorem d_M_relaxAll_4 : decode c_M_relaxAll 4 = .ok (.iload_n 2, 1) := by decide +kernel
theorem d_M_relaxAll_5 : decode c_M_relaxAll 5 = .ok (.bipush 7, 2) := by decide +kernel
theorem d_M_relaxAll_7 : decode c_M_relaxAll 7 = .ok (.if_icmp .ge 108, 3) := by decide +kernel
theorem d_M_relaxAll_10 : decode c_M_relaxAll 10 = .ok (.iconst 0, 1) := by decide +kernel
theorem d_M_relaxAll_11 : decode c_M_relaxAll 11 = .ok (.istore_n 3, 1) := by decide +kernel
theorem d_M_relaxAll_12 : decode c_M_relaxAll 12 = .ok (.iload_n 3, 1) := by decide +kernel
theorem d_M_relaxAll_13 : decode c_M_relaxAll 13 = .ok (.bipush 6, 2) := by decide +kernel
theorem d_M_relaxAll_15 : decode c_M_relaxAll 15 = .ok (.if_icmp .ge 94, 3) := by decide +kernel
theorem d_M_relaxAll_18 : decode c_M_relaxAll 18 = .ok (.aload_n 0, 1) := by decide +kernel
theorem d_M_relaxAll_19 : decode c_M_relaxAll 19 = .ok (.getfield 52, 3) := by decide +kernel
theorem d_M_relaxAll_22 : decode c_M_relaxAll 22 = .ok (.bipush 6, 2) := by decide +kernel
theorem d_M_relaxAll_24 : decode c_M_relaxAll 24 = .ok (.iload_n 2, 1) := by decide +kernel
theorem d_M_relaxAll_25 : decode c_M_relaxAll 25 = .ok (.imul, 1) := by decide +kernel
theorem d_M_relaxAll_26 : decode c_M_relaxAll 26 = .ok (.iload_n 3, 1) := by decide +kernel
theorem d_M_relaxAll_27 : decode c_M_relaxAll 27 = .ok (.iadd, 1) := by decide +kernel
theorem d_M_relaxAll_28 : decode c_M_relaxAll 28 = .ok (.iaload, 1) := by decide +kernel
theorem d_M_relaxAll_29 : decode c_M_relaxAll 29 = .ok (.istore 4, 2) := by decide +kernel
theorem d_M_relaxAll_31 : decode c_M_relaxAll 31 = .ok (.aload_n 0, 1) := by decide +kernel
theorem d_M_relaxAll_32 : decode c_M_relaxAll 32 = .ok (.iload_n 2, 1) := by decide +kernel
theorem d_M_relaxAll_33 : decode c_M_relaxAll 33 = .ok (.iload_n 3, 1) := by decide +kernel
theorem d_M_relaxAll_34 : decode c_M_relaxAll 34 = .ok (.invokevirtual 152, 3) := by decide +kernel
theorem d_M_relaxAll_37 : decode c_M_relaxAll 37 = .ok (.lstore 5, 2) := by decide +kernel
theorem d_M_relaxAll_39 : decode c_M_relaxAll 39 = .ok (.iload 4, 2) := by decide +kernel
theorem d_M_relaxAll_41 : decode c_M_relaxAll 41 = .ok (.ifCond .lt 25, 3) := by decide +kernel
theorem d_M_relaxAll_44 : decode c_M_relaxAll 44 = .ok (.aload_n 0, 1) := by decide +kernel
theorem d_M_relaxAll_45 : decode c_M_relaxAll 45 = .ok (.iload_n 2, 1) := by decide +kernel
theorem d_M_relaxAll_46 : decode c_M_relaxAll 46 = .ok (.bipush 7, 2) := by decide +kernel
theorem d_M_relaxAll_48 : decode c_M_relaxAll 48 = .ok (.iload_n 3, 1) := by decide +kernel
theorem d_M_relaxAll_49 : decode c_M_relaxAll 49 = .ok (.iadd, 1) := by decide +kernel
theorem d_M_relaxAll_50 : decode c_M_relaxAll 50 = .ok (.iload 4, 2) := by decide +kernel
theorem d_M_relaxAll_52 : decode c_M_relaxAll 52 = .ok (.i2l, 1) := by decide +kernel
theorem d_M_relaxAll_53 : decode c_M_relaxAll 53 = .ok (.lload 5, 2) := by decide +kernel
theorem d_M_relaxAll_55 : decode c_M_relaxAll 55 = .ok (.invokevirtual 155, 3) := by decide +kernel
theorem d_M_relaxAll_58 : decode c_M_relaxAll 58 = .ok (.ifCond .eq 8, 3) := by decide +kernel
theorem d_M_relaxAll_61 : decode c_M_relaxAll 61 = .ok (.bipush 7, 2) := by decide +kernel
theorem d_M_relaxAll_63 : decode c_M_relaxAll 63 = .ok (.iload_n 3, 1) := by decide +kernel
theorem d_M_relaxAll_64 : decode c_M_relaxAll 64 = .ok (.iadd, 1) := by decide +kernel
theorem d_M_relaxAll_65 : decode c_M_relaxAll 65 = .ok (.istore_n 1, 1) := by decide +kernel
theorem d_M_relaxAll_66 : decode c_M_relaxAll 66 = .ok (.aload_n 0, 1) := by decide +kernel
theorem d_M_relaxAll_67 : decode c_M_relaxAll 67 = .ok (.getfield 49, 3) := by decide +kernel
theorem d_M_relaxAll_70 : decode c_M_relaxAll 70 = .ok (.bipush 6, 2) := by decide +kernel
theorem d_M_relaxAll_72 : decode c_M_relaxAll 72 = .ok (.iload_n 2, 1) := by decide +kernel
theorem d_M_relaxAll_73 : decode c_M_relaxAll 73 = .ok (.imul, 1) := by decide +kernel
theorem d_M_relaxAll_74 : decode c_M_relaxAll 74 = .ok (.iload_n 3, 1) := by decide +kernel
theorem d_M_relaxAll_75 : decode c_M_relaxAll 75 = .ok (.iadd, 1) := by decide +kernel
theorem d_M_relaxAll_76 : decode c_M_relaxAll 76 = .ok (.laload, 1) := by decide +kernel
theorem d_M_relaxAll_77 : decode c_M_relaxAll 77 = .ok (.lconst 0, 1) := by decide +kernel
theorem d_M_relaxAll_78 : decode c_M_relaxAll 78 = .ok (.lcmp, 1) := by decide +kernel
theorem d_M_relaxAll_79 : decode c_M_relaxAll 79 = .ok (.ifCond .le 24, 3) := by decide +kernel
theorem d_M_relaxAll_82 : decode c_M_relaxAll 82 = .ok (.aload_n 0, 1) := by decide +kernel
theorem d_M_relaxAll_83 : decode c_M_relaxAll 83 = .ok (.bipush 7, 2) := by decide +kernel
theorem d_M_relaxAll_85 : decode c_M_relaxAll 85 = .ok (.iload_n 3, 1) := by decide +kernel
theorem d_M_relaxAll_86 : decode c_M_relaxAll 86 = .ok (.iadd, 1) := by decide +kernel
theorem d_M_relaxAll_87 : decode c_M_relaxAll 87 = .ok (.iload_n 2, 1) := by decide +kernel
theorem d_M_relaxAll_88 : decode c_M_relaxAll 88 = .ok (.iload 4, 2) := by decide +kernel
theorem d_M_relaxAll_90 : decode c_M_relaxAll 90 = .ok (.ineg, 1) := by decide +kernel
theorem d_M_relaxAll_91 : decode c_M_relaxAll 91 = .ok (.i2l, 1) := by decide +kernel
theorem d_M_relaxAll_92 : decode c_M_relaxAll 92 = .ok (.lload 5, 2) := by decide +kernel
theorem d_M_relaxAll_94 : decode c_M_relaxAll 94 = .ok (.lneg, 1) := by decide +kernel
theorem d_M_relaxAll_95 : decode c_M_relaxAll 95 = .ok (.invokevirtual 155, 3) := by decide +kernel
theorem d_M_relaxAll_98 : decode c_M_relaxAll 98 = .ok (.ifCond .eq 5, 3) := by decide +kernel
theorem d_M_relaxAll_101 : decode c_M_relaxAll 101 = .ok (.iload_n 2, 1) := by decide +kernel
theorem d_M_relaxAll_102 : decode c_M_relaxAll 102 = .ok (.istore_n 1, 1) := by decide +kernel
theorem d_M_relaxAll_103 : decode c_M_relaxAll 103 = .ok (.iinc 3 1, 3) := by decide +kernel
theorem d_M_relaxAll_106 : decode c_M_relaxAll 106 = .ok (.goto (-94), 3) := by decide +kernel
theorem d_M_relaxAll_109 : decode c_M_relaxAll 109 = .ok (.iinc 2 1, 3) := by decide +kernel
theorem d_M_relaxAll_112 : decode c_M_relaxAll 112 = .ok (.goto (-108), 3) := by decide +kernel
theorem d_M_relaxAll_115 : decode c_M_relaxAll 115 = .ok (.iload_n 1, 1) := by decide +kernel
theorem d_M_relaxAll_116 : decode c_M_relaxAll 116 = .ok (.ireturn, 1) := by decide +kernel
set_option maxHeartbeats 1000000 in
set_option maxRecDepth 100000 in
theorem m_M_relaxAll (l : Launch) (D : va_G) (cI cL cZ : ClassId) (md : Nat → Nat) (co : Int) (n : Nat) (sh ra up lw kn fo : Int) (fw cs G10 G20 BY0 : Nat → Int) (r : Nat) (hr14 : r < 14) (hcs : ∀ k, k < 42 → -1 ≤ cs k ∧ cs k ≤ 100000) (hfw : ∀ k, k < 42 → 0 ≤ fw k ∧ fw k ≤ 1000000000000) (hrx0 : eh_rx cs fw r 0 G10 G20 BY0 (-1)) : eh_M (S := Int × (Nat → Int) × (Nat → Int) × (Nat → Int)) l y_M_relaxAll k_M_relaxAll 1 30 D classes [(cI, .int), (cL, .long), (cZ, .boolean)] [.ref (md 0)] [((md 0), .inr (5, [.int (eI co), .int (eI ((n : Nat) : Int)), .ref (md 1), .ref (md 2), .ref (md 3), .int (eI sh), .int (eI ra), .ref (md 4), .ref (md 5), .ref (md 6), .ref (md 7), .ref (md 8), .long (eL up), .long (eL lw), .ref (md 9), .ref (md 10), .ref (md 11), .ref (md 12), .ref (md 13), .ref (md 14), .ref (md 15), .int (eI kn), .int (eI fo)])), ((md 11), aL cL 42 fw), ((md 12), aI cI 42 cs), ((md 13), aL cL 13 G10), ((md 14), aL cL 13 G20), ((md 15), aI cI 13 BY0)] (fun u => eh_rx cs fw r 84 u.2.1 u.2.2.1 u.2.2.2 u.1) (fun u => some (.int (eI u.1))) (fun u => [((md 0), .inr (5, [.int (eI co), .int (eI ((n : Nat) : Int)), .ref (md 1), .ref (md 2), .ref (md 3), .int (eI sh), .int (eI ra), .ref (md 4), .ref (md 5), .ref (md 6), .ref (md 7), .ref (md 8), .long (eL up), .long (eL lw), .ref (md 9), .ref (md 10), .ref (md 11), .ref (md 12), .ref (md 13), .ref (md 14), .ref (md 15), .int (eI kn), .int (eI fo)])), ((md 11), aL cL 42 fw), ((md 12), aI cI 42 cs), ((md 13), aL cL 13 u.2.1), ((md 14), aL cL 13 u.2.2.1), ((md 15), aI cI 13 u.2.2.2)]) := by
  intro sz
  refine Met.ofW (cc := c_M_relaxAll) (maxL := 7) (ret := (some .int)) (by decide) rfl ?_
  intro p e s m args below meth c s₁ B hml hv
  obtain ⟨hargs, hsz, hP, hK, hD0, hN⟩ := hv
  have hx := B.exec
  have hb := B.bytes
  have hrt := B.returns
  have hts := atoms_spec (ws := k_M_relaxAll :: ew_t) B.pre
  have htb : ∀ w ∈ ew_t, w.before args s = true := fun w h => hts w (List.mem_cons_of_mem _ h)
  have hown : s.vm.findClass "EarthHaulsModel" = some m.cls := findClass_of_methodNamed B.named
  have hlocks := B.notSynchronized
  have hE : entryFrame m args 7 = entryFrame m ([.ref (md 0)] : List Value).toArray 7 := by rw [hargs]
  rw [hE]
  clear hE hts B hargs
  generalize hRe : (headSpec _ _).room = R
  have hR1 : R.frames = 1 := by rw [← hRe]; rfl
  have hR2 : R.locals = 30 := by rw [← hRe]; rfl
  clear hRe
  generalize hQ : MQ below _ _ s 0 0 _ = Q
  subst hsz
  have hD := hD0.self (sz := s.heap.size)
  generalize hAe : va_A [((md 0), .inr (5, [.int (eI co), .int (eI ((n : Nat) : Int)), .ref (md 1), .ref (md 2), .ref (md 3), .int (eI sh), .int (eI ra), .ref (md 4), .ref (md 5), .ref (md 6), .ref (md 7), .ref (md 8), .long (eL up), .long (eL lw), .ref (md 9), .ref (md 10), .ref (md 11), .ref (md 12), .ref (md 13), .ref (md 14), .ref (md 15), .int (eI kn), .int (eI fo)])), ((md 11), aL cL 42 fw), ((md 12), aI cI 42 cs), ((md 13), aL cL 13 G10), ((md 14), aL cL 13 G20), ((md 15), aI cI 13 BY0)] s.heap.size = A at hD hQ
  have hA : ∀ q : Nat, s.heap.size ≤ q → A q := fun q h => by rw [← hAe]; exact Or.inr h
  have hS : va_S A s.heap s.heap [] := va_S.rf
  have hP : va_P D classes [((md 0), .inr (5, [.int (eI co), .int (eI ((n : Nat) : Int)), .ref (md 1), .ref (md 2), .ref (md 3), .int (eI sh), .int (eI ra), .ref (md 4), .ref (md 5), .ref (md 6), .ref (md 7), .ref (md 8), .long (eL up), .long (eL lw), .ref (md 9), .ref (md 10), .ref (md 11), .ref (md 12), .ref (md 13), .ref (md 14), .ref (md 15), .int (eI kn), .int (eI fo)])), ((md 11), aL cL 42 fw), ((md 12), aI cI 42 cs), ((md 13), aL cL 13 G10), ((md 14), aL cL 13 G20), ((md 15), aI cI 13 BY0)] s.heap := hP
  have hl := lv_entry ([.ref (md 0)]) (n := 7) (Nat.le_of_ble_eq_true rfl)
  rw [lg_entry_eq]
  generalize (lg_sl ([.ref (md 0)]) ++ List.replicate (7 - (lg_sl ([.ref (md 0)])).length) Slot.unset).toArray = ls at hl ⊢
  have hl : lv_has ls 7 [(0, .ref (md 0))] := hl
  refine lv_iconst (v := eI (-1)) hx hb d_M_relaxAll_0 rfl ?_
  refine lv_istore_n hx hb d_M_relaxAll_1 rfl hl (by decide) rfl (fun ls hl => ?_)
  have hl : lv_has ls 7 [(1, .int (eI (-1))), (0, .ref (md 0))] := hl
  refine lv_iconst (v := eI 0) hx hb d_M_relaxAll_2 rfl ?_
  refine lv_istore_n hx hb d_M_relaxAll_3 rfl hl (by decide) rfl (fun ls hl => ?_)
  have hl : lv_has ls 7 [(2, .int (eI 0)), (1, .int (eI (-1))), (0, .ref (md 0))] := hl
  have outer : ∀ (q y : Nat) (G1 G2 BY : Nat → Int) (pv : Int) (H : Heap) (locs : List Loc) (ls : Array Slot), 7 - y = q → y ≤ 7 → eh_rx cs fw r (2 * (6 * y)) G1 G2 BY pv → lv_has ls 7 [(2, .int (eI ((y : Nat) : Int))), (1, .int (eI pv)), (0, .ref (md 0))] → va_P D classes [((md 0), .inr (5, [.int (eI co), .int (eI ((n : Nat) : Int)), .ref (md 1), .ref (md 2), .ref (md 3), .int (eI sh), .int (eI ra), .ref (md 4), .ref (md 5), .ref (md 6), .ref (md 7), .ref (md 8), .long (eL up), .long (eL lw), .ref (md 9), .ref (md 10), .ref (md 11), .ref (md 12), .ref (md 13), .ref (md 14), .ref (md 15), .int (eI kn), .int (eI fo)])), ((md 11), aL cL 42 fw), ((md 12), aI cI 42 cs), ((md 13), aL cL 13 G1), ((md 14), aL cL 13 G2), ((md 15), aI cI 13 BY)] H → va_D A [((md 0), .inr (5, [.int (eI co), .int (eI ((n : Nat) : Int)), .ref (md 1), .ref (md 2), .ref (md 3), .int (eI sh), .int (eI ra), .ref (md 4), .ref (md 5), .ref (md 6), .ref (md 7), .ref (md 8), .long (eL up), .long (eL lw), .ref (md 9), .ref (md 10), .ref (md 11), .ref (md 12), .ref (md 13), .ref (md 14), .ref (md 15), .int (eI kn), .int (eI fo)])), ((md 11), aL cL 42 fw), ((md 12), aI cI 42 cs), ((md 13), aL cL 13 G1), ((md 14), aL cL 13 G2), ((md 15), aI cI 13 BY)] → va_S A s.heap H locs → W p l e R s m args below meth c H locs 0 0 Q (F0 m 4 ls []) := by
    intro q
    induction q with
    | zero =>
      intro y G1 G2 BY pv H locs ls hq hy hrx hl hP hD hS
      have hy7 : y = 7 := by omega
      subst hy7
      refine lv_iload_n hx hb d_M_relaxAll_4 rfl (lv_at hl 0 rfl) ?_
      refine lv_bipush (v := eI 7) hx hb d_M_relaxAll_5 (by decide) ?_
      refine we_icmp_ge (tgt := 115) hx hb (by constructor <;> omega) (by constructor <;> omega) d_M_relaxAll_7 rfl (fun hc7 => ?_) (fun hc7 => absurd hc7 (by omega))
      refine lv_iload_n hx hb d_M_relaxAll_115 rfl (lv_at hl 1 rfl) ?_
      subst hQ
      exact W.iret hx hb hrt (fun t9 ht hW => ⟨⟨(pv, G1, G2, BY), rfl, hrx, by rw [ht]; exact hP, hD⟩, hS.F ht⟩) hS.2.2 d_M_relaxAll_116
    | succ q ih =>
      intro y G1 G2 BY pv H locs ls hq hy hrx hl hP hD hS
      refine lv_iload_n hx hb d_M_relaxAll_4 rfl (lv_at hl 0 rfl) ?_
      refine lv_bipush (v := eI 7) hx hb d_M_relaxAll_5 (by decide) ?_
      refine we_icmp_ge (tgt := 115) hx hb (by constructor <;> omega) (by constructor <;> omega) d_M_relaxAll_7 rfl (fun hc7 => absurd hc7 (by omega)) (fun hc7 => ?_)
      refine lv_iconst (v := eI 0) hx hb d_M_relaxAll_10 rfl ?_
      refine lv_istore_n hx hb d_M_relaxAll_11 rfl hl (by decide) rfl (fun ls hl => ?_)
      have hl : lv_has ls 7 [(3, .int (eI 0)), (2, .int (eI ((y : Nat) : Int))), (1, .int (eI pv)), (0, .ref (md 0))] := hl
      have inner : ∀ (q2 z : Nat) (G1 G2 BY : Nat → Int) (pv : Int) (H : Heap) (locs : List Loc) (ls : Array Slot), 6 - z = q2 → z ≤ 6 → eh_rx cs fw r (2 * (6 * y + z)) G1 G2 BY pv → lv_has ls 7 [(3, .int (eI ((z : Nat) : Int))), (2, .int (eI ((y : Nat) : Int))), (1, .int (eI pv)), (0, .ref (md 0))] → va_P D classes [((md 0), .inr (5, [.int (eI co), .int (eI ((n : Nat) : Int)), .ref (md 1), .ref (md 2), .ref (md 3), .int (eI sh), .int (eI ra), .ref (md 4), .ref (md 5), .ref (md 6), .ref (md 7), .ref (md 8), .long (eL up), .long (eL lw), .ref (md 9), .ref (md 10), .ref (md 11), .ref (md 12), .ref (md 13), .ref (md 14), .ref (md 15), .int (eI kn), .int (eI fo)])), ((md 11), aL cL 42 fw), ((md 12), aI cI 42 cs), ((md 13), aL cL 13 G1), ((md 14), aL cL 13 G2), ((md 15), aI cI 13 BY)] H → va_D A [((md 0), .inr (5, [.int (eI co), .int (eI ((n : Nat) : Int)), .ref (md 1), .ref (md 2), .ref (md 3), .int (eI sh), .int (eI ra), .ref (md 4), .ref (md 5), .ref (md 6), .ref (md 7), .ref (md 8), .long (eL up), .long (eL lw), .ref (md 9), .ref (md 10), .ref (md 11), .ref (md 12), .ref (md 13), .ref (md 14), .ref (md 15), .int (eI kn), .int (eI fo)])), ((md 11), aL cL 42 fw), ((md 12), aI cI 42 cs), ((md 13), aL cL 13 G1), ((md 14), aL cL 13 G2), ((md 15), aI cI 13 BY)] → va_S A s.heap H locs → W p l e R s m args below meth c H locs 0 0 Q (F0 m 12 ls []) := by
        intro q2
        induction q2 with
        | zero =>
          intro z G1 G2 BY pv H locs ls hq2 hz hrx hl hP hD hS
          have hz6 : z = 6 := by omega
          subst hz6
          refine lv_iload_n hx hb d_M_relaxAll_12 rfl (lv_at hl 0 rfl) ?_
          refine lv_bipush (v := eI 6) hx hb d_M_relaxAll_13 (by decide) ?_
          refine we_icmp_ge (tgt := 109) hx hb (by constructor <;> omega) (by constructor <;> omega) d_M_relaxAll_15 rfl (fun hc15 => ?_) (fun hc15 => absurd hc15 (by omega))
          refine lv_iinc (v := eI (((y : Nat) : Int) + 1)) hx hb d_M_relaxAll_109 hl (k := 1) rfl (eI_add _ _) (by decide) rfl (fun ls hl => ?_)
          have hl : lv_has ls 7 [(2, .int (eI (((y : Nat) : Int) + 1))), (3, .int (eI ((6 : Nat) : Int))), (1, .int (eI pv)), (0, .ref (md 0))] := hl
          refine lv_goto (tgt := 4) hx hb d_M_relaxAll_112 rfl ?_
          exact ih (y + 1) G1 G2 BY pv H locs ls (by omega) (by omega) (by rw [show 2 * (6 * (y + 1)) = 2 * (6 * y + 6) by omega]; exact hrx) (lv_sub hl [0, 2, 3] rfl) hP hD hS
        | succ q2 ih2 =>
          intro z G1 G2 BY pv H locs ls hq2 hz hrx hl hP hD hS
          have hcz := hcs (6 * y + z) (by omega)
          have hfz := hfw (6 * y + z) (by omega)
          have hrp := eh_rp_b y z
          have k1 : 2 * (6 * y + z) % 2 = 0 := by omega
          have k2 : 2 * (6 * y + z) / 2 = 6 * y + z := by omega
          have k3 : ¬ (2 * (6 * y + z) + 1) % 2 = 0 := by omega
          have k4 : (2 * (6 * y + z) + 1) / 2 = 6 * y + z := by omega
          have k5 : (6 * y + z) / 6 = y := by omega
          have k6 : (6 * y + z) % 6 = z := by omega
          have t1 : eh_tl eh_ga eh_gb (2 * (6 * y + z)) = y := by unfold eh_tl eh_ga; rw [if_pos k1, k2, k5]
          have t2 : eh_hd eh_ga eh_gb (2 * (6 * y + z)) = 7 + z := by unfold eh_hd eh_gb; rw [if_pos k1, k2, k6]
          have t3 : eh_tl eh_ga eh_gb (2 * (6 * y + z) + 1) = 7 + z := by unfold eh_tl eh_gb; rw [if_neg k3, k4, k6]
          have t4 : eh_hd eh_ga eh_gb (2 * (6 * y + z) + 1) = y := by unfold eh_hd eh_ga; rw [if_neg k3, k4, k5]
          have t5 : eh_gr cs fw (2 * (6 * y + z)) = if 0 ≤ cs (6 * y + z) then 1 else 0 := by unfold eh_gr; rw [if_pos k1, k2]
          have t6 : eh_gr cs fw (2 * (6 * y + z) + 1) = fw (6 * y + z) := by unfold eh_gr; rw [if_neg k3, k4]
          have second : ∀ (G1 G2 BY : Nat → Int) (pv : Int) (H : Heap) (locs : List Loc) (ls : Array Slot), eh_rx cs fw r (2 * (6 * y + z) + 1) G1 G2 BY pv → lv_has ls 7 [(5, .long (eL (eh_rp y z))), (4, .int (eI (cs (6 * y + z)))), (3, .int (eI ((z : Nat) : Int))), (2, .int (eI ((y : Nat) : Int))), (1, .int (eI pv)), (0, .ref (md 0))] → va_P D classes [((md 0), .inr (5, [.int (eI co), .int (eI ((n : Nat) : Int)), .ref (md 1), .ref (md 2), .ref (md 3), .int (eI sh), .int (eI ra), .ref (md 4), .ref (md 5), .ref (md 6), .ref (md 7), .ref (md 8), .long (eL up), .long (eL lw), .ref (md 9), .ref (md 10), .ref (md 11), .ref (md 12), .ref (md 13), .ref (md 14), .ref (md 15), .int (eI kn), .int (eI fo)])), ((md 11), aL cL 42 fw), ((md 12), aI cI 42 cs), ((md 13), aL cL 13 G1), ((md 14), aL cL 13 G2), ((md 15), aI cI 13 BY)] H → va_D A [((md 0), .inr (5, [.int (eI co), .int (eI ((n : Nat) : Int)), .ref (md 1), .ref (md 2), .ref (md 3), .int (eI sh), .int (eI ra), .ref (md 4), .ref (md 5), .ref (md 6), .ref (md 7), .ref (md 8), .long (eL up), .long (eL lw), .ref (md 9), .ref (md 10), .ref (md 11), .ref (md 12), .ref (md 13), .ref (md 14), .ref (md 15), .int (eI kn), .int (eI fo)])), ((md 11), aL cL 42 fw), ((md 12), aI cI 42 cs), ((md 13), aL cL 13 G1), ((md 14), aL cL 13 G2), ((md 15), aI cI 13 BY)] → va_S A s.heap H locs → W p l e R s m args below meth c H locs 0 0 Q (F0 m 66 ls []) := by
            intro G1 G2 BY pv H locs ls hrx hl hP hD hS
            refine lv_aload_n hx hb d_M_relaxAll_66 rfl (lv_at hl 5 rfl) ?_
            refine va_get (D := D) (ci := 5) (v := .ref (md 11)) (C := R_M) (T := T_M) (N := 23) hx hb htb in_M hown hK hP 0 rfl rfl 16 (by decide) (htb _ tb_604) (fun _ h9 => h9) rfl d_M_relaxAll_67 ?_
            refine lv_bipush (v := eI 6) hx hb d_M_relaxAll_70 (by decide) ?_
            refine lv_iload_n hx hb d_M_relaxAll_72 rfl (lv_at hl 3 rfl) ?_
            refine we_imul hx hb d_M_relaxAll_73 ?_
            refine lv_iload_n hx hb d_M_relaxAll_74 rfl (lv_at hl 2 rfl) ?_
            refine we_iadd hx hb d_M_relaxAll_75 ?_
            refine we_lald hx hb hK hP 1 1 rfl rfl (6 * y + z) (by omega) (by omega) (by decide) d_M_relaxAll_76 ?_
            refine lv_lconst (v := eL 0) hx hb d_M_relaxAll_77 (by decide) ?_
            refine we_lcmp_le (pc2 := 79) (tgt := 103) hx hb (by constructor <;> omega) (by constructor <;> omega) d_M_relaxAll_78 rfl d_M_relaxAll_79 rfl (fun hc78 => ?_) (fun hc78 => ?_)
            ·
              refine lv_iinc (v := eI (((z : Nat) : Int) + 1)) hx hb d_M_relaxAll_103 hl (k := 2) rfl (eI_add _ _) (by decide) rfl (fun ls hl => ?_)
              have hl : lv_has ls 7 [(3, .int (eI (((z : Nat) : Int) + 1))), (5, .long (eL (eh_rp y z))), (4, .int (eI (cs (6 * y + z)))), (2, .int (eI ((y : Nat) : Int))), (1, .int (eI pv)), (0, .ref (md 0))] := hl
              refine lv_goto (tgt := 12) hx hb d_M_relaxAll_106 rfl ?_
              have hr3 := eh_rx_skip hrx (by omega) hr14 (fun q => by rw [t6] at q; omega)
              exact ih2 (z + 1) _ _ _ _ H locs ls (by omega) (by omega) hr3 (lv_sub hl [0, 3, 4, 5] rfl) hP hD hS
            ·
              have hb1 : ∀ v, v < 13 → -1000000000000000000 ≤ G1 v ∧ G1 v ≤ 1000000000000000000 := fun v hv => by
                obtain ⟨_, _, _, _, _, _, z4, _, _⟩ := hrx
                have := z4 v hv
                omega
              have hb2 : ∀ v, v < 13 → -1000000000000000000 ≤ G2 v ∧ G2 v ≤ 1000000000000000000 := fun v hv => by
                obtain ⟨_, _, _, _, _, _, _, z5, _⟩ := hrx
                have := z5 v hv
                omega
              refine lv_aload_n hx hb d_M_relaxAll_82 rfl (lv_at hl 5 rfl) ?_
              refine lv_bipush (v := eI 7) hx hb d_M_relaxAll_83 (by decide) ?_
              refine lv_iload_n hx hb d_M_relaxAll_85 rfl (lv_at hl 2 rfl) ?_
              refine we_iadd hx hb d_M_relaxAll_86 ?_
              refine lv_iload_n hx hb d_M_relaxAll_87 rfl (lv_at hl 3 rfl) ?_
              refine lv_iload hx hb d_M_relaxAll_88 (lv_at hl 1 rfl) ?_
              refine we_ineg hx hb d_M_relaxAll_90 ?_
              refine we_i2l hx hb (by constructor <;> omega) d_M_relaxAll_91 ?_
              refine lv_lload hx hb d_M_relaxAll_92 (lv_at hl 0 rfl) ?_
              refine we_lneg hx hb d_M_relaxAll_94 ?_
              refine eh_cMV (As := [.int (eI (7 + ((z : Nat) : Int))), .int (eI ((y : Nat) : Int)), .long (eL (-(cs (6 * y + z)))), .long (eL (-(eh_rp y z)))]) (rest := []) (q := (R_M, T_M, 23)) (wr := [((md 11), aL cL 42 fw), ((md 12), aI cI 42 cs)]) hx hb hml hown htb hN (m_M_relax l D cI cL cZ md co n sh ra up lw kn fo G1 G2 BY hb1 hb2 (7 + z) y (by omega) (by omega) (-cs (6 * y + z)) (-eh_rp y z) (by omega) (by omega)) 4 ⟨tb_802, tb_804, ts_48, tb_7, kin_M_relax⟩ dv_M_relax ⟨by rw [hR1]; decide, by rw [hR2]; decide⟩ hK hP hD hS hA 0 rfl rfl [0, 3, 4, 5] [1, 2] rfl rfl (by decide) rfl (by decide) (by decide) [0, 1, 2] rfl rfl rfl hl.1 (Nat.le_of_ble_eq_true rfl) d_M_relaxAll_95 ⟨Nat.zero_le _, Nat.zero_le _⟩ (fun u H locs hu hP hD hS => ?_)
              obtain ⟨rv2, A2, B2, C2⟩ := u
              have hu2 := hu
              have hP := hP.sub (ws' := [((md 0), .inr (5, [.int (eI co), .int (eI ((n : Nat) : Int)), .ref (md 1), .ref (md 2), .ref (md 3), .int (eI sh), .int (eI ra), .ref (md 4), .ref (md 5), .ref (md 6), .ref (md 7), .ref (md 8), .long (eL up), .long (eL lw), .ref (md 9), .ref (md 10), .ref (md 11), .ref (md 12), .ref (md 13), .ref (md 14), .ref (md 15), .int (eI kn), .int (eI fo)])), ((md 11), aL cL 42 fw), ((md 12), aI cI 42 cs), ((md 13), aL cL 13 A2), ((md 14), aL cL 13 B2), ((md 15), aI cI 13 C2)]) [2, 0, 1, 3, 4, 5] rfl
              have hD := hD.sub (ws' := [((md 0), .inr (5, [.int (eI co), .int (eI ((n : Nat) : Int)), .ref (md 1), .ref (md 2), .ref (md 3), .int (eI sh), .int (eI ra), .ref (md 4), .ref (md 5), .ref (md 6), .ref (md 7), .ref (md 8), .long (eL up), .long (eL lw), .ref (md 9), .ref (md 10), .ref (md 11), .ref (md 12), .ref (md 13), .ref (md 14), .ref (md 15), .int (eI kn), .int (eI fo)])), ((md 11), aL cL 42 fw), ((md 12), aI cI 42 cs), ((md 13), aL cL 13 A2), ((md 14), aL cL 13 B2), ((md 15), aI cI 13 C2)]) [2, 0, 1, 3, 4, 5] (by decide) rfl
              refine we_if_eq (tgt := 103) hx hb (by rcases hu2 with ⟨z1, _⟩ | ⟨z1, _⟩ <;> cases z1 <;> constructor <;> omega) d_M_relaxAll_98 rfl (fun hc98 => ?_) (fun hc98 => ?_)
              ·
                refine lv_iinc (v := eI (((z : Nat) : Int) + 1)) hx hb d_M_relaxAll_103 hl (k := 2) rfl (eI_add _ _) (by decide) rfl (fun ls hl => ?_)
                have hl : lv_has ls 7 [(3, .int (eI (((z : Nat) : Int) + 1))), (5, .long (eL (eh_rp y z))), (4, .int (eI (cs (6 * y + z)))), (2, .int (eI ((y : Nat) : Int))), (1, .int (eI pv)), (0, .ref (md 0))] := hl
                refine lv_goto (tgt := 12) hx hb d_M_relaxAll_106 rfl ?_
                have hr3 : eh_rx cs fw r (2 * (6 * y + z) + 1 + 1) A2 B2 C2 pv := by
                  rcases hu2 with ⟨z1, z2⟩ | ⟨z1, z2⟩
                  · cases z1; exact absurd hc98 (by show ¬ ((1 : Int) = 0); decide)
                  · have w := eh_rx_skip hrx (by omega) hr14 (fun _ => by rw [t3, t4, if_neg k3, if_neg k3, k4, k5, k6]; exact z2)
                    cases z1
                    exact w
                exact ih2 (z + 1) _ _ _ _ H locs ls (by omega) (by omega) hr3 (lv_sub hl [0, 3, 4, 5] rfl) hP hD hS
              ·
                refine lv_iload_n hx hb d_M_relaxAll_101 rfl (lv_at hl 3 rfl) ?_
                refine lv_istore_n hx hb d_M_relaxAll_102 rfl hl (by decide) rfl (fun ls hl => ?_)
                have hl : lv_has ls 7 [(1, .int (eI ((y : Nat) : Int))), (5, .long (eL (eh_rp y z))), (4, .int (eI (cs (6 * y + z)))), (3, .int (eI ((z : Nat) : Int))), (2, .int (eI ((y : Nat) : Int))), (0, .ref (md 0))] := hl
                refine lv_iinc (v := eI (((z : Nat) : Int) + 1)) hx hb d_M_relaxAll_103 hl (k := 3) rfl (eI_add _ _) (by decide) rfl (fun ls hl => ?_)
                have hl : lv_has ls 7 [(3, .int (eI (((z : Nat) : Int) + 1))), (1, .int (eI ((y : Nat) : Int))), (5, .long (eL (eh_rp y z))), (4, .int (eI (cs (6 * y + z)))), (2, .int (eI ((y : Nat) : Int))), (0, .ref (md 0))] := hl
                refine lv_goto (tgt := 12) hx hb d_M_relaxAll_106 rfl ?_
                have hr3 : eh_rx cs fw r (2 * (6 * y + z) + 1 + 1) A2 B2 C2 ((y : Nat) : Int) := by
                  rcases hu2 with ⟨z1, z2⟩ | ⟨z1, z2⟩
                  · have w := eh_rx_take hrx (by omega) hr14 (by rw [k4]; omega) (by rw [t6]; omega) (by rw [t3, t4, if_neg k3, if_neg k3, k4, k5, k6]; exact z2)
                    rw [t3, t4, if_neg k3, if_neg k3, k4, k5, k6] at w
                    cases z1
                    exact w
                  · cases z1; exact absurd rfl hc98
                exact ih2 (z + 1) _ _ _ _ H locs ls (by omega) (by omega) hr3 (lv_sub hl [0, 4, 1, 5] rfl) hP hD hS
          refine lv_iload_n hx hb d_M_relaxAll_12 rfl (lv_at hl 0 rfl) ?_
          refine lv_bipush (v := eI 6) hx hb d_M_relaxAll_13 (by decide) ?_
          refine we_icmp_ge (tgt := 109) hx hb (by constructor <;> omega) (by constructor <;> omega) d_M_relaxAll_15 rfl (fun hc15 => absurd hc15 (by omega)) (fun hc15 => ?_)
          refine lv_aload_n hx hb d_M_relaxAll_18 rfl (lv_at hl 3 rfl) ?_
          refine va_get (D := D) (ci := 5) (v := .ref (md 12)) (C := R_M) (T := T_M) (N := 23) hx hb htb in_M hown hK hP 0 rfl rfl 17 (by decide) (htb _ tb_605) (fun _ h9 => h9) rfl d_M_relaxAll_19 ?_
          refine lv_bipush (v := eI 6) hx hb d_M_relaxAll_22 (by decide) ?_
          refine lv_iload_n hx hb d_M_relaxAll_24 rfl (lv_at hl 1 rfl) ?_
          refine we_imul hx hb d_M_relaxAll_25 ?_
          refine lv_iload_n hx hb d_M_relaxAll_26 rfl (lv_at hl 0 rfl) ?_
          refine we_iadd hx hb d_M_relaxAll_27 ?_
          refine we_iald hx hb hK hP 2 0 rfl rfl (6 * y + z) (by omega) (by omega) (by decide) d_M_relaxAll_28 ?_
          refine lv_istore hx hb d_M_relaxAll_29 hl (by decide) rfl (fun ls hl => ?_)
          have hl : lv_has ls 7 [(4, .int (eI (cs (6 * y + z)))), (3, .int (eI ((z : Nat) : Int))), (2, .int (eI ((y : Nat) : Int))), (1, .int (eI pv)), (0, .ref (md 0))] := hl
          refine lv_aload_n hx hb d_M_relaxAll_31 rfl (lv_at hl 4 rfl) ?_
          refine lv_iload_n hx hb d_M_relaxAll_32 rfl (lv_at hl 2 rfl) ?_
          refine lv_iload_n hx hb d_M_relaxAll_33 rfl (lv_at hl 1 rfl) ?_
          refine eh_cRV (As := [.int (eI ((y : Nat) : Int)), .int (eI ((z : Nat) : Int))]) (rest := []) (v := .long (eL (eh_rp y z))) (q := (R_M, T_M, 23)) hx hb hml hown htb hN (r_M_partOf l D cI cL cZ md co n sh ra up lw kn fo y z (by omega) (by omega)) 2 ⟨tb_798, tb_800, ts_47, tb_7, kin_M_partOf⟩ dv_M_partOf ⟨by rw [hR1]; decide, by rw [hR2]; decide⟩ hK hP 0 rfl rfl [0] rfl [0, 1, 2] rfl rfl rfl hl.1 (Nat.le_of_ble_eq_true rfl) d_M_relaxAll_34 ⟨Nat.zero_le _, Nat.zero_le _⟩ ?_
          refine lv_lstore hx hb d_M_relaxAll_37 hl (by decide) rfl (fun ls hl => ?_)
          have hl : lv_has ls 7 [(5, .long (eL (eh_rp y z))), (4, .int (eI (cs (6 * y + z)))), (3, .int (eI ((z : Nat) : Int))), (2, .int (eI ((y : Nat) : Int))), (1, .int (eI pv)), (0, .ref (md 0))] := hl
          refine lv_iload hx hb d_M_relaxAll_39 (lv_at hl 1 rfl) ?_
          refine we_if_lt (tgt := 66) hx hb (by constructor <;> omega) d_M_relaxAll_41 rfl (fun hc41 => ?_) (fun hc41 => ?_)
          ·
            have hr2 := eh_rx_skip hrx (by omega) hr14 (fun q => by rw [t5, if_neg (by omega)] at q; omega)
            exact second G1 G2 BY pv H locs ls hr2 (lv_sub hl [0, 1, 2, 3, 4, 5] rfl) hP hD hS
          ·
            have hb1 : ∀ v, v < 13 → -1000000000000000000 ≤ G1 v ∧ G1 v ≤ 1000000000000000000 := fun v hv => by
              obtain ⟨_, _, _, _, _, _, z4, _, _⟩ := hrx
              have := z4 v hv
              omega
            have hb2 : ∀ v, v < 13 → -1000000000000000000 ≤ G2 v ∧ G2 v ≤ 1000000000000000000 := fun v hv => by
              obtain ⟨_, _, _, _, _, _, _, z5, _⟩ := hrx
              have := z5 v hv
              omega
            refine lv_aload_n hx hb d_M_relaxAll_44 rfl (lv_at hl 5 rfl) ?_
            refine lv_iload_n hx hb d_M_relaxAll_45 rfl (lv_at hl 3 rfl) ?_
            refine lv_bipush (v := eI 7) hx hb d_M_relaxAll_46 (by decide) ?_
            refine lv_iload_n hx hb d_M_relaxAll_48 rfl (lv_at hl 2 rfl) ?_
            refine we_iadd hx hb d_M_relaxAll_49 ?_
            refine lv_iload hx hb d_M_relaxAll_50 (lv_at hl 1 rfl) ?_
            refine we_i2l hx hb (by constructor <;> omega) d_M_relaxAll_52 ?_
            refine lv_lload hx hb d_M_relaxAll_53 (lv_at hl 0 rfl) ?_
            refine eh_cMV (As := [.int (eI ((y : Nat) : Int)), .int (eI (7 + ((z : Nat) : Int))), .long (eL (cs (6 * y + z))), .long (eL (eh_rp y z))]) (rest := []) (q := (R_M, T_M, 23)) (wr := [((md 11), aL cL 42 fw), ((md 12), aI cI 42 cs)]) hx hb hml hown htb hN (m_M_relax l D cI cL cZ md co n sh ra up lw kn fo G1 G2 BY hb1 hb2 y (7 + z) (by omega) (by omega) (cs (6 * y + z)) (eh_rp y z) (by omega) (by omega)) 4 ⟨tb_802, tb_804, ts_48, tb_7, kin_M_relax⟩ dv_M_relax ⟨by rw [hR1]; decide, by rw [hR2]; decide⟩ hK hP hD hS hA 0 rfl rfl [0, 3, 4, 5] [1, 2] rfl rfl (by decide) rfl (by decide) (by decide) [0, 1, 2] rfl rfl rfl hl.1 (Nat.le_of_ble_eq_true rfl) d_M_relaxAll_55 ⟨Nat.zero_le _, Nat.zero_le _⟩ (fun u H locs hu hP hD hS => ?_)
            obtain ⟨rv1, A1, B1, C1⟩ := u
            have hu1 := hu
            have hP := hP.sub (ws' := [((md 0), .inr (5, [.int (eI co), .int (eI ((n : Nat) : Int)), .ref (md 1), .ref (md 2), .ref (md 3), .int (eI sh), .int (eI ra), .ref (md 4), .ref (md 5), .ref (md 6), .ref (md 7), .ref (md 8), .long (eL up), .long (eL lw), .ref (md 9), .ref (md 10), .ref (md 11), .ref (md 12), .ref (md 13), .ref (md 14), .ref (md 15), .int (eI kn), .int (eI fo)])), ((md 11), aL cL 42 fw), ((md 12), aI cI 42 cs), ((md 13), aL cL 13 A1), ((md 14), aL cL 13 B1), ((md 15), aI cI 13 C1)]) [2, 0, 1, 3, 4, 5] rfl
            have hD := hD.sub (ws' := [((md 0), .inr (5, [.int (eI co), .int (eI ((n : Nat) : Int)), .ref (md 1), .ref (md 2), .ref (md 3), .int (eI sh), .int (eI ra), .ref (md 4), .ref (md 5), .ref (md 6), .ref (md 7), .ref (md 8), .long (eL up), .long (eL lw), .ref (md 9), .ref (md 10), .ref (md 11), .ref (md 12), .ref (md 13), .ref (md 14), .ref (md 15), .int (eI kn), .int (eI fo)])), ((md 11), aL cL 42 fw), ((md 12), aI cI 42 cs), ((md 13), aL cL 13 A1), ((md 14), aL cL 13 B1), ((md 15), aI cI 13 C1)]) [2, 0, 1, 3, 4, 5] (by decide) rfl
            refine we_if_eq (tgt := 66) hx hb (by rcases hu1 with ⟨z1, _⟩ | ⟨z1, _⟩ <;> cases z1 <;> constructor <;> omega) d_M_relaxAll_58 rfl (fun hc58 => ?_) (fun hc58 => ?_)
            ·
              have hr2 : eh_rx cs fw r (2 * (6 * y + z) + 1) A1 B1 C1 pv := by
                rcases hu1 with ⟨z1, z2⟩ | ⟨z1, z2⟩
                · cases z1; exact absurd hc58 (by show ¬ ((1 : Int) = 0); decide)
                · have w := eh_rx_skip hrx (by omega) hr14 (fun _ => by rw [t1, t2, if_pos k1, if_pos k1, k2, k5, k6]; exact z2)
                  cases z1
                  exact w
              exact second A1 B1 C1 pv H locs ls hr2 (lv_sub hl [0, 1, 2, 3, 4, 5] rfl) hP hD hS
            ·
              refine lv_bipush (v := eI 7) hx hb d_M_relaxAll_61 (by decide) ?_
              refine lv_iload_n hx hb d_M_relaxAll_63 rfl (lv_at hl 2 rfl) ?_
              refine we_iadd hx hb d_M_relaxAll_64 ?_
              refine lv_istore_n hx hb d_M_relaxAll_65 rfl hl (by decide) rfl (fun ls hl => ?_)
              have hl : lv_has ls 7 [(1, .int (eI (7 + ((z : Nat) : Int)))), (5, .long (eL (eh_rp y z))), (4, .int (eI (cs (6 * y + z)))), (3, .int (eI ((z : Nat) : Int))), (2, .int (eI ((y : Nat) : Int))), (0, .ref (md 0))] := hl
              have hr2 : eh_rx cs fw r (2 * (6 * y + z) + 1) A1 B1 C1 ((7 + z : Nat) : Int) := by
                rcases hu1 with ⟨z1, z2⟩ | ⟨z1, z2⟩
                · have w := eh_rx_take hrx (by omega) hr14 (by rw [k2]; omega) (by rw [t5, if_pos (by omega)]; omega) (by rw [t1, t2, if_pos k1, if_pos k1, k2, k5, k6]; exact z2)
                  rw [t1, t2, if_pos k1, if_pos k1, k2, k5, k6] at w
                  cases z1
                  exact w
                · cases z1; exact absurd rfl hc58
              exact second A1 B1 C1 ((7 + z : Nat) : Int) H locs ls hr2 (lv_sub hl [1, 2, 3, 4, 0, 5] rfl) hP hD hS
      exact inner 6 0 G1 G2 BY pv H locs ls (by omega) (by omega) hrx (lv_sub hl [0, 1, 2, 3] rfl) hP hD hS
  exact outer 7 0 G10 G20 BY0 (-1) s.heap [] ls (by omega) (by omega) hrx0 (lv_sub hl [0, 1, 2] rfl) hP hD hS
