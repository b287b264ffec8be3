abbrev c_M_total : ByteArray := prog_7_method_38_code
def y_M_total : MethodName := ⟨"EarthHaulsModel", "total", "()J"⟩
abbrev k_M_total : Cond := .code y_M_total c_M_total 5 (some .long)
theorem kin_M_total : k_M_total ∈ ew_t := tb_810
theorem dv_M_total : eh_dV y_M_total "EarthHaulsModel" 0 := ⟨rfl, by decide, by decide, by decide +kernel⟩
theorem d_M_total_0 : decode c_M_total 0 = .ok (.lconst 0, 1) := by decide +kernel
theorem d_M_total_1 : decode c_M_total 1 = .ok (.lstore_n 1, 1) := by decide +kernel
theorem d_M_total_2 : decode c_M_total 2 = .ok (.iconst 0, 1) := by decide +kernel
theorem d_M_total_3 : decode c_M_total 3 = .ok (.istore_n 3, 1) := by decide +kernel
theorem d_M_total_4 : decode c_M_total 4 = .ok (.iload_n 3, 1) := by decide +kernel
theorem d_M_total_5 : decode c_M_total 5 = .ok (.bipush 6, 2) := by decide +kernel
theorem d_M_total_7 : decode c_M_total 7 = .ok (.if_icmp .ge 63, 3) := by decide +kernel
theorem d_M_total_10 : decode c_M_total 10 = .ok (.iconst 0, 1) := by decide +kernel
theorem d_M_total_11 : decode c_M_total 11 = .ok (.istore 4, 2) := by decide +kernel
theorem d_M_total_13 : decode c_M_total 13 = .ok (.iload 4, 2) := by decide +kernel
theorem d_M_total_15 : decode c_M_total 15 = .ok (.iconst 5, 1) := by decide +kernel
theorem d_M_total_16 : decode c_M_total 16 = .ok (.if_icmp .ge 48, 3) := by decide +kernel
theorem d_M_total_19 : decode c_M_total 19 = .ok (.aload_n 0, 1) := by decide +kernel
theorem d_M_total_20 : decode c_M_total 20 = .ok (.iload_n 3, 1) := by decide +kernel
theorem d_M_total_21 : decode c_M_total 21 = .ok (.iload 4, 2) := by decide +kernel
theorem d_M_total_23 : decode c_M_total 23 = .ok (.invokevirtual 145, 3) := by decide +kernel
theorem d_M_total_26 : decode c_M_total 26 = .ok (.ifCond .eq 32, 3) := by decide +kernel
theorem d_M_total_29 : decode c_M_total 29 = .ok (.lload_n 1, 1) := by decide +kernel
theorem d_M_total_30 : decode c_M_total 30 = .ok (.aload_n 0, 1) := by decide +kernel
theorem d_M_total_31 : decode c_M_total 31 = .ok (.getfield 49, 3) := by decide +kernel
theorem d_M_total_34 : decode c_M_total 34 = .ok (.bipush 6, 2) := by decide +kernel
theorem d_M_total_36 : decode c_M_total 36 = .ok (.iload_n 3, 1) := by decide +kernel
theorem d_M_total_37 : decode c_M_total 37 = .ok (.imul, 1) := by decide +kernel
theorem d_M_total_38 : decode c_M_total 38 = .ok (.iload 4, 2) := by decide +kernel
theorem d_M_total_40 : decode c_M_total 40 = .ok (.iadd, 1) := by decide +kernel
theorem d_M_total_41 : decode c_M_total 41 = .ok (.laload, 1) := by decide +kernel
theorem d_M_total_42 : decode c_M_total 42 = .ok (.aload_n 0, 1) := by decide +kernel
theorem d_M_total_43 : decode c_M_total 43 = .ok (.getfield 52, 3) := by decide +kernel
theorem d_M_total_46 : decode c_M_total 46 = .ok (.bipush 6, 2) := by decide +kernel
theorem d_M_total_48 : decode c_M_total 48 = .ok (.iload_n 3, 1) := by decide +kernel
theorem d_M_total_49 : decode c_M_total 49 = .ok (.imul, 1) := by decide +kernel
theorem d_M_total_50 : decode c_M_total 50 = .ok (.iload 4, 2) := by decide +kernel
theorem d_M_total_52 : decode c_M_total 52 = .ok (.iadd, 1) := by decide +kernel
theorem d_M_total_53 : decode c_M_total 53 = .ok (.iaload, 1) := by decide +kernel
theorem d_M_total_54 : decode c_M_total 54 = .ok (.i2l, 1) := by decide +kernel
theorem d_M_total_55 : decode c_M_total 55 = .ok (.lmul, 1) := by decide +kernel
theorem d_M_total_56 : decode c_M_total 56 = .ok (.ladd, 1) := by decide +kernel
theorem d_M_total_57 : decode c_M_total 57 = .ok (.lstore_n 1, 1) := by decide +kernel
theorem d_M_total_58 : decode c_M_total 58 = .ok (.iinc 4 1, 3) := by decide +kernel
theorem d_M_total_61 : decode c_M_total 61 = .ok (.goto (-48), 3) := by decide +kernel
theorem d_M_total_64 : decode c_M_total 64 = .ok (.iinc 3 1, 3) := by decide +kernel
theorem d_M_total_67 : decode c_M_total 67 = .ok (.goto (-63), 3) := by decide +kernel
theorem d_M_total_70 : decode c_M_total 70 = .ok (.lload_n 1, 1) := by decide +kernel
theorem d_M_total_71 : decode c_M_total 71 = .ok (.lreturn, 1) := by decide +kernel
set_option maxHeartbeats 1000000 in
set_option maxRecDepth 100000 in
theorem r_M_total (l : Launch) (D : va_G) (cI cL cZ : ClassId) (md : Nat → Nat) (co : Int) (n : Nat) (sh ra up lw kn fo : Int) (fw cs : Nat → Int) (hcs2 : ∀ k, k < 42 → -1 ≤ cs k ∧ cs k ≤ 100000) : eh_R l y_M_total k_M_total 1 22 D classes [(cI, .int), (cL, .long), (cZ, .boolean)] [.ref (md 0)] [((md 0), .inr (5, [.int (eI co), .int (eI ((n : Nat) : Int)), .ref (md 1), .ref (md 2), .ref (md 3), .int (eI sh), .int (eI ra), .ref (md 4), .ref (md 5), .ref (md 6), .ref (md 7), .ref (md 8), .long (eL up), .long (eL lw), .ref (md 9), .ref (md 10), .ref (md 11), .ref (md 12), .ref (md 13), .ref (md 14), .ref (md 15), .int (eI kn), .int (eI fo)])), ((md 11), aL cL 42 fw), ((md 12), aI cI 42 cs)] (.long (eL (eh_tot fw cs))) := by
  refine Met.ofW (cc := c_M_total) (maxL := 5) (ret := (some .long)) (by decide) rfl ?_
  intro p e s m args below meth c s₁ B hml hv
  obtain ⟨hargs, hP, hK, hN⟩ := hv
  have hx := B.exec
  have hb := B.bytes
  have hrt := B.returns
  have hts := atoms_spec (ws := k_M_total :: ew_t) B.pre
  have htb : ∀ w ∈ ew_t, w.before args s = true := fun w h => hts w (List.mem_cons_of_mem _ h)
  have hown : s.vm.findClass "EarthHaulsModel" = some m.cls := findClass_of_methodNamed B.named
  have hlocks := B.notSynchronized
  have hE : entryFrame m args 5 = entryFrame m ([.ref (md 0)] : List Value).toArray 5 := by rw [hargs]
  rw [hE]
  clear hE hts B hargs
  generalize hRe : (headSpec _ _).room = R
  have hR1 : R.frames = 1 := by rw [← hRe]; rfl
  have hR2 : R.locals = 22 := by rw [← hRe]; rfl
  clear hRe
  generalize hQ : MQ below _ _ s 0 0 _ = Q
  have hP : va_P D classes [((md 0), .inr (5, [.int (eI co), .int (eI ((n : Nat) : Int)), .ref (md 1), .ref (md 2), .ref (md 3), .int (eI sh), .int (eI ra), .ref (md 4), .ref (md 5), .ref (md 6), .ref (md 7), .ref (md 8), .long (eL up), .long (eL lw), .ref (md 9), .ref (md 10), .ref (md 11), .ref (md 12), .ref (md 13), .ref (md 14), .ref (md 15), .int (eI kn), .int (eI fo)])), ((md 11), aL cL 42 fw), ((md 12), aI cI 42 cs)] s.heap := hP
  have hl := lv_entry ([.ref (md 0)]) (n := 5) (Nat.le_of_ble_eq_true rfl)
  rw [lg_entry_eq]
  generalize (lg_sl ([.ref (md 0)]) ++ List.replicate (5 - (lg_sl ([.ref (md 0)])).length) Slot.unset).toArray = ls at hl ⊢
  have hl : lv_has ls 5 [(0, .ref (md 0))] := hl
  refine lv_lconst (v := eL 0) hx hb d_M_total_0 (by decide) ?_
  refine lv_lstore_n hx hb d_M_total_1 rfl hl (by decide) rfl (fun ls hl => ?_)
  have hl : lv_has ls 5 [(1, .long (eL 0)), (0, .ref (md 0))] := hl
  refine lv_iconst (v := eI 0) hx hb d_M_total_2 rfl ?_
  refine lv_istore_n hx hb d_M_total_3 rfl hl (by decide) rfl (fun ls hl => ?_)
  have hl : lv_has ls 5 [(3, .int (eI 0)), (1, .long (eL 0)), (0, .ref (md 0))] := hl
  have rows : ∀ (q y : Nat) (ls : Array Slot), 6 - y = q → y ≤ 6 → lv_has ls 5 [(3, .int (eI ((y : Nat) : Int))), (1, .long (eL (eh_sm (eh_te fw cs) (5 * y)))), (0, .ref (md 0))] → W p l e R s m args below meth c s.heap [] 0 0 Q (F0 m 4 ls []) := by
    intro q
    induction q with
    | zero =>
      intro y ls hq hy hl
      have hy6 : y = 6 := by omega
      subst hy6
      refine lv_iload_n hx hb d_M_total_4 rfl (lv_at hl 0 rfl) ?_
      refine lv_bipush (v := eI 6) hx hb d_M_total_5 (by decide) ?_
      refine we_icmp_ge (tgt := 70) hx hb (by constructor <;> omega) (by constructor <;> omega) d_M_total_7 rfl (fun hc7 => ?_) (fun hc7 => absurd hc7 (by omega))
      refine lv_lload_n hx hb d_M_total_70 rfl (lv_at hl 1 rfl) ?_
      subst hQ
      exact W.lret hx hb hrt (fun t9 ht hW => ⟨rfl, ht⟩) (fun q h => by cases h) d_M_total_71
    | succ q ih =>
      intro y ls hq hy hl
      refine lv_iload_n hx hb d_M_total_4 rfl (lv_at hl 0 rfl) ?_
      refine lv_bipush (v := eI 6) hx hb d_M_total_5 (by decide) ?_
      refine we_icmp_ge (tgt := 70) hx hb (by constructor <;> omega) (by constructor <;> omega) d_M_total_7 rfl (fun hc7 => absurd hc7 (by omega)) (fun hc7 => ?_)
      refine lv_iconst (v := eI 0) hx hb d_M_total_10 rfl ?_
      refine lv_istore hx hb d_M_total_11 hl (by decide) rfl (fun ls hl => ?_)
      have hl : lv_has ls 5 [(4, .int (eI 0)), (3, .int (eI ((y : Nat) : Int))), (1, .long (eL (eh_sm (eh_te fw cs) (5 * y)))), (0, .ref (md 0))] := hl
      have cols : ∀ (q2 z : Nat) (ls : Array Slot), 5 - z = q2 → z ≤ 5 → lv_has ls 5 [(4, .int (eI ((z : Nat) : Int))), (3, .int (eI ((y : Nat) : Int))), (1, .long (eL (eh_sm (eh_te fw cs) (5 * y + z)))), (0, .ref (md 0))] → W p l e R s m args below meth c s.heap [] 0 0 Q (F0 m 13 ls []) := by
        intro q2
        induction q2 with
        | zero =>
          intro z ls hq2 hz hl
          have hz5 : z = 5 := by omega
          subst hz5
          refine lv_iload hx hb d_M_total_13 (lv_at hl 0 rfl) ?_
          refine lv_iconst (v := eI 5) hx hb d_M_total_15 rfl ?_
          refine we_icmp_ge (tgt := 64) hx hb (by constructor <;> omega) (by constructor <;> omega) d_M_total_16 rfl (fun hc16 => ?_) (fun hc16 => absurd hc16 (by omega))
          refine lv_iinc (v := eI (((y : Nat) : Int) + 1)) hx hb d_M_total_64 hl (k := 1) rfl (eI_add _ _) (by decide) rfl (fun ls hl => ?_)
          have hl : lv_has ls 5 [(3, .int (eI (((y : Nat) : Int) + 1))), (4, .int (eI ((5 : Nat) : Int))), (1, .long (eL (eh_sm (eh_te fw cs) (5 * y + 5)))), (0, .ref (md 0))] := hl
          refine lv_goto (tgt := 4) hx hb d_M_total_67 rfl ?_
          exact ih (y + 1) ls (by omega) (by omega) (by rw [show 5 * (y + 1) = 5 * y + 5 by omega]; exact lv_sub hl [0, 2, 3] rfl)
        | succ q2 ih2 =>
          intro z ls hq2 hz hl
          have hcz := hcs2 (6 * y + z) (by omega)
          have hte := eh_te_at fw cs (y := y) (show z < 5 by omega)
          refine lv_iload hx hb d_M_total_13 (lv_at hl 0 rfl) ?_
          refine lv_iconst (v := eI 5) hx hb d_M_total_15 rfl ?_
          refine we_icmp_ge (tgt := 64) hx hb (by constructor <;> omega) (by constructor <;> omega) d_M_total_16 rfl (fun hc16 => absurd hc16 (by omega)) (fun hc16 => ?_)
          refine lv_aload_n hx hb d_M_total_19 rfl (lv_at hl 3 rfl) ?_
          refine lv_iload_n hx hb d_M_total_20 rfl (lv_at hl 1 rfl) ?_
          refine lv_iload hx hb d_M_total_21 (lv_at hl 0 rfl) ?_
          refine eh_cRV (As := [.int (eI ((y : Nat) : Int)), .int (eI ((z : Nat) : Int))]) (rest := []) (v := .int (eI (if 0 ≤ cs (6 * y + z) then 1 else 0))) (q := (R_M, T_M, 23)) hx hb hml hown htb hN (r_M_isArc l D cI cL cZ md co n sh ra up lw kn fo cs hcs2 y z (by omega) (by omega)) 2 ⟨tb_782, tb_784, ts_43, tb_7, kin_M_isArc⟩ dv_M_isArc ⟨by rw [hR1]; decide, by rw [hR2]; decide⟩ hK hP 0 rfl rfl [0, 2] rfl [0, 1, 2] rfl rfl rfl hl.1 (Nat.le_of_ble_eq_true rfl) d_M_total_23 ⟨Nat.zero_le _, Nat.zero_le _⟩ ?_
          refine we_if_eq (tgt := 58) hx hb (by constructor <;> split <;> omega) d_M_total_26 rfl (fun hc26 => ?_) (fun hc26 => ?_)
          ·
            refine lv_iinc (v := eI (((z : Nat) : Int) + 1)) hx hb d_M_total_58 hl (k := 0) rfl (eI_add _ _) (by decide) rfl (fun ls hl => ?_)
            have hl : lv_has ls 5 [(4, .int (eI (((z : Nat) : Int) + 1))), (3, .int (eI ((y : Nat) : Int))), (1, .long (eL (eh_sm (eh_te fw cs) (5 * y + z)))), (0, .ref (md 0))] := hl
            refine lv_goto (tgt := 13) hx hb d_M_total_61 rfl ?_
            have hcp : ¬ 0 ≤ cs (6 * y + z) := fun w => by rw [if_pos w] at hc26; omega
            have hs9 : (eh_sm (eh_te fw cs) (5 * y + z)) = eh_sm (eh_te fw cs) (5 * y + (z + 1)) := by
              show _ = eh_sm (eh_te fw cs) (5 * y + z) + eh_te fw cs (5 * y + z)
              rw [hte, if_neg hcp, Int.add_zero]
            rw [hs9] at hl
            exact ih2 (z + 1) ls (by omega) (by omega) (lv_sub hl [0, 1, 2, 3] rfl)
          ·
            refine lv_lload_n hx hb d_M_total_29 rfl (lv_at hl 2 rfl) ?_
            refine lv_aload_n hx hb d_M_total_30 rfl (lv_at hl 3 rfl) ?_
            refine va_get (D := D) (ci := 5) (v := .ref (md 11)) (C := R_M) (T := T_M) (N := 23) hx hb htb in_M hown hK hP 0 rfl rfl 16 (by decide) (htb _ tb_604) (fun _ h9 => h9) rfl d_M_total_31 ?_
            refine lv_bipush (v := eI 6) hx hb d_M_total_34 (by decide) ?_
            refine lv_iload_n hx hb d_M_total_36 rfl (lv_at hl 1 rfl) ?_
            refine we_imul hx hb d_M_total_37 ?_
            refine lv_iload hx hb d_M_total_38 (lv_at hl 0 rfl) ?_
            refine we_iadd hx hb d_M_total_40 ?_
            refine we_lald hx hb hK hP 1 1 rfl rfl (6 * y + z) (by omega) (by omega) (by decide) d_M_total_41 ?_
            refine lv_aload_n hx hb d_M_total_42 rfl (lv_at hl 3 rfl) ?_
            refine va_get (D := D) (ci := 5) (v := .ref (md 12)) (C := R_M) (T := T_M) (N := 23) hx hb htb in_M hown hK hP 0 rfl rfl 17 (by decide) (htb _ tb_605) (fun _ h9 => h9) rfl d_M_total_43 ?_
            refine lv_bipush (v := eI 6) hx hb d_M_total_46 (by decide) ?_
            refine lv_iload_n hx hb d_M_total_48 rfl (lv_at hl 1 rfl) ?_
            refine we_imul hx hb d_M_total_49 ?_
            refine lv_iload hx hb d_M_total_50 (lv_at hl 0 rfl) ?_
            refine we_iadd hx hb d_M_total_52 ?_
            refine we_iald hx hb hK hP 2 0 rfl rfl (6 * y + z) (by omega) (by omega) (by decide) d_M_total_53 ?_
            refine we_i2l hx hb (by constructor <;> omega) d_M_total_54 ?_
            refine we_lmul hx hb d_M_total_55 ?_
            refine we_ladd hx hb d_M_total_56 ?_
            refine lv_lstore_n hx hb d_M_total_57 rfl hl (by decide) rfl (fun ls hl => ?_)
            have hl : lv_has ls 5 [(1, .long (eL ((eh_sm (eh_te fw cs) (5 * y + z)) + ((fw (6 * y + z)) * (cs (6 * y + z)))))), (4, .int (eI ((z : Nat) : Int))), (3, .int (eI ((y : Nat) : Int))), (0, .ref (md 0))] := hl
            refine lv_iinc (v := eI (((z : Nat) : Int) + 1)) hx hb d_M_total_58 hl (k := 1) rfl (eI_add _ _) (by decide) rfl (fun ls hl => ?_)
            have hl : lv_has ls 5 [(4, .int (eI (((z : Nat) : Int) + 1))), (1, .long (eL ((eh_sm (eh_te fw cs) (5 * y + z)) + ((fw (6 * y + z)) * (cs (6 * y + z)))))), (3, .int (eI ((y : Nat) : Int))), (0, .ref (md 0))] := hl
            refine lv_goto (tgt := 13) hx hb d_M_total_61 rfl ?_
            have hcp : 0 ≤ cs (6 * y + z) := by
              by_cases w : 0 ≤ cs (6 * y + z)
              · exact w
              · exact absurd (if_neg w) hc26
            have hs9 : ((eh_sm (eh_te fw cs) (5 * y + z)) + ((fw (6 * y + z)) * (cs (6 * y + z)))) = eh_sm (eh_te fw cs) (5 * y + (z + 1)) := by
              show _ = eh_sm (eh_te fw cs) (5 * y + z) + eh_te fw cs (5 * y + z)
              rw [hte, if_pos hcp]
            rw [hs9] at hl
            exact ih2 (z + 1) ls (by omega) (by omega) (lv_sub hl [0, 2, 1, 3] rfl)
      exact cols 5 0 ls (by omega) (by omega) (lv_sub hl [0, 1, 2, 3] rfl)
  exact rows 6 0 ls (by omega) (by omega) (lv_sub hl [0, 1, 2] rfl)
abbrev c_M_planNow : ByteArray := prog_7_method_37_code
def y_M_planNow : MethodName := ⟨"EarthHaulsModel", "planNow", "()Z"⟩
abbrev k_M_planNow : Cond := .code y_M_planNow c_M_planNow 1 (some .boolean)
theorem kin_M_planNow : k_M_planNow ∈ ew_t := tb_760
theorem dv_M_planNow : eh_dV y_M_planNow "EarthHaulsModel" 0 := ⟨rfl, by decide, by decide, by decide +kernel⟩
theorem d_M_planNow_0 : decode c_M_planNow 0 = .ok (.aload_n 0, 1) := by decide +kernel
theorem d_M_planNow_1 : decode c_M_planNow 1 = .ok (.getfield 103, 3) := by decide +kernel
theorem d_M_planNow_4 : decode c_M_planNow 4 = .ok (.ifCond .ne 18, 3) := by decide +kernel
theorem d_M_planNow_7 : decode c_M_planNow 7 = .ok (.aload_n 0, 1) := by decide +kernel
theorem d_M_planNow_8 : decode c_M_planNow 8 = .ok (.aload_n 0, 1) := by decide +kernel
theorem d_M_planNow_9 : decode c_M_planNow 9 = .ok (.iconst (-1), 1) := by decide +kernel
theorem d_M_planNow_10 : decode c_M_planNow 10 = .ok (.iconst (-1), 1) := by decide +kernel
theorem d_M_planNow_11 : decode c_M_planNow 11 = .ok (.invokevirtual 176, 3) := by decide +kernel
theorem d_M_planNow_14 : decode c_M_planNow 14 = .ok (.putfield 179, 3) := by decide +kernel
theorem d_M_planNow_17 : decode c_M_planNow 17 = .ok (.aload_n 0, 1) := by decide +kernel
theorem d_M_planNow_18 : decode c_M_planNow 18 = .ok (.iconst 1, 1) := by decide +kernel
theorem d_M_planNow_19 : decode c_M_planNow 19 = .ok (.putfield 103, 3) := by decide +kernel
theorem d_M_planNow_22 : decode c_M_planNow 22 = .ok (.aload_n 0, 1) := by decide +kernel
theorem d_M_planNow_23 : decode c_M_planNow 23 = .ok (.getfield 179, 3) := by decide +kernel
theorem d_M_planNow_26 : decode c_M_planNow 26 = .ok (.ireturn, 1) := by decide +kernel
set_option maxHeartbeats 1000000 in
set_option maxRecDepth 100000 in
theorem m_M_planNow (l : Launch) (D : va_G) (cI cL cZ : ClassId) (md : Nat → Nat) (co : Int) (n : Nat) (sh ra up lw kn fo : Int) (sc ln cb th pl lo pr la : Nat → Int) (cu cl fu fl : Nat → Nat) (ys yl yp : Nat → Int) (su0 de0 fw0 cs0 G10 G20 BY0 : Nat → Int) (hM : eh_MS n sh ra sc ln cb th pl lo pr la cu cl fu fl ys yl yp) (hkn : kn = 0 ∨ kn = 1 ∧ eh_pf (eh_kc n ra ln cb ys yp) (eh_pA n sh ln cu cl yl (-1)) (eh_pB n ln fu fl yl (-1)) cs0 fw0 fo) : eh_M (S := Int × Int × Int × (Nat → Int) × (Nat → Int) × (Nat → Int) × (Nat → Int) × (Nat → Int) × (Nat → Int) × (Nat → Int)) l y_M_planNow k_M_planNow 7 188 D classes [(cI, .int), (cL, .long), (cZ, .boolean)] [.ref (md 0)] [((md 0), .inr (5, [.int (eI co), .int (eI ((n : Nat) : Int)), .ref (md 1), .ref (md 2), .ref (md 3), .int (eI sh), .int (eI ra), .ref (md 4), .ref (md 5), .ref (md 6), .ref (md 7), .ref (md 8), .long (eL up), .long (eL lw), .ref (md 9), .ref (md 10), .ref (md 11), .ref (md 12), .ref (md 13), .ref (md 14), .ref (md 15), .int (eI kn), .int (eI fo)])), ((md 1), aI cI 25 sc), ((md 2), aI cI 4 ln), ((md 3), aI cZ 4 cb), ((md 4), aI cZ 3 th), ((md 5), aI cI 3 pl), ((md 6), aI cI 3 lo), ((md 7), aI cI 3 pr), ((md 8), aI cI 30 la), ((md 9), aL cL 7 su0), ((md 10), aL cL 6 de0), ((md 11), aL cL 42 fw0), ((md 12), aI cI 42 cs0), ((md 13), aL cL 13 G10), ((md 14), aL cL 13 G20), ((md 15), aI cI 13 BY0)] (fun u => eh_pf (eh_kc n ra ln cb ys yp) (eh_pA n sh ln cu cl yl (-1)) (eh_pB n ln fu fl yl (-1)) u.2.2.2.2.2.2.1 u.2.2.2.2.2.1 u.1) (fun u => some (.int (eI u.1))) (fun u => [((md 0), .inr (5, [.int (eI co), .int (eI ((n : Nat) : Int)), .ref (md 1), .ref (md 2), .ref (md 3), .int (eI sh), .int (eI ra), .ref (md 4), .ref (md 5), .ref (md 6), .ref (md 7), .ref (md 8), .long (eL u.2.1), .long (eL u.2.2.1), .ref (md 9), .ref (md 10), .ref (md 11), .ref (md 12), .ref (md 13), .ref (md 14), .ref (md 15), .int (eI 1), .int (eI u.1)])), ((md 1), aI cI 25 sc), ((md 2), aI cI 4 ln), ((md 3), aI cZ 4 cb), ((md 4), aI cZ 3 th), ((md 5), aI cI 3 pl), ((md 6), aI cI 3 lo), ((md 7), aI cI 3 pr), ((md 8), aI cI 30 la), ((md 9), aL cL 7 u.2.2.2.1), ((md 10), aL cL 6 u.2.2.2.2.1), ((md 11), aL cL 42 u.2.2.2.2.2.1), ((md 12), aI cI 42 u.2.2.2.2.2.2.1), ((md 13), aL cL 13 u.2.2.2.2.2.2.2.1), ((md 14), aL cL 13 u.2.2.2.2.2.2.2.2.1), ((md 15), aI cI 13 u.2.2.2.2.2.2.2.2.2)]) := by
  intro sz
  refine Met.ofW (cc := c_M_planNow) (maxL := 1) (ret := (some .boolean)) (by decide) rfl ?_
  intro p e s m args below meth c s₁ B hml hv
  obtain ⟨hargs, hsz, hP, hK, hD0, hN⟩ := hv
  have hx := B.exec
  have hb := B.bytes
  have hrt := B.returns
  have hts := atoms_spec (ws := k_M_planNow :: ew_t) B.pre
  have htb : ∀ w ∈ ew_t, w.before args s = true := fun w h => hts w (List.mem_cons_of_mem _ h)
  have hown : s.vm.findClass "EarthHaulsModel" = some m.cls := findClass_of_methodNamed B.named
  have hlocks := B.notSynchronized
  have hE : entryFrame m args 1 = entryFrame m ([.ref (md 0)] : List Value).toArray 1 := by rw [hargs]
  rw [hE]
  clear hE hts B hargs
  generalize hRe : (headSpec _ _).room = R
  have hR1 : R.frames = 7 := by rw [← hRe]; rfl
  have hR2 : R.locals = 188 := by rw [← hRe]; rfl
  clear hRe
  generalize hQ : MQ below _ _ s 0 0 _ = Q
  subst hsz
  have hD := hD0.self (sz := s.heap.size)
  generalize hAe : va_A [((md 0), .inr (5, [.int (eI co), .int (eI ((n : Nat) : Int)), .ref (md 1), .ref (md 2), .ref (md 3), .int (eI sh), .int (eI ra), .ref (md 4), .ref (md 5), .ref (md 6), .ref (md 7), .ref (md 8), .long (eL up), .long (eL lw), .ref (md 9), .ref (md 10), .ref (md 11), .ref (md 12), .ref (md 13), .ref (md 14), .ref (md 15), .int (eI kn), .int (eI fo)])), ((md 1), aI cI 25 sc), ((md 2), aI cI 4 ln), ((md 3), aI cZ 4 cb), ((md 4), aI cZ 3 th), ((md 5), aI cI 3 pl), ((md 6), aI cI 3 lo), ((md 7), aI cI 3 pr), ((md 8), aI cI 30 la), ((md 9), aL cL 7 su0), ((md 10), aL cL 6 de0), ((md 11), aL cL 42 fw0), ((md 12), aI cI 42 cs0), ((md 13), aL cL 13 G10), ((md 14), aL cL 13 G20), ((md 15), aI cI 13 BY0)] s.heap.size = A at hD hQ
  have hA : ∀ q : Nat, s.heap.size ≤ q → A q := fun q h => by rw [← hAe]; exact Or.inr h
  have hS : va_S A s.heap s.heap [] := va_S.rf
  have hP : va_P D classes [((md 0), .inr (5, [.int (eI co), .int (eI ((n : Nat) : Int)), .ref (md 1), .ref (md 2), .ref (md 3), .int (eI sh), .int (eI ra), .ref (md 4), .ref (md 5), .ref (md 6), .ref (md 7), .ref (md 8), .long (eL up), .long (eL lw), .ref (md 9), .ref (md 10), .ref (md 11), .ref (md 12), .ref (md 13), .ref (md 14), .ref (md 15), .int (eI kn), .int (eI fo)])), ((md 1), aI cI 25 sc), ((md 2), aI cI 4 ln), ((md 3), aI cZ 4 cb), ((md 4), aI cZ 3 th), ((md 5), aI cI 3 pl), ((md 6), aI cI 3 lo), ((md 7), aI cI 3 pr), ((md 8), aI cI 30 la), ((md 9), aL cL 7 su0), ((md 10), aL cL 6 de0), ((md 11), aL cL 42 fw0), ((md 12), aI cI 42 cs0), ((md 13), aL cL 13 G10), ((md 14), aL cL 13 G20), ((md 15), aI cI 13 BY0)] s.heap := hP
  have hl := lv_entry ([.ref (md 0)]) (n := 1) (Nat.le_of_ble_eq_true rfl)
  rw [lg_entry_eq]
  generalize (lg_sl ([.ref (md 0)]) ++ List.replicate (1 - (lg_sl ([.ref (md 0)])).length) Slot.unset).toArray = ls at hl ⊢
  have hl : lv_has ls 1 [(0, .ref (md 0))] := hl
  rcases hkn with hk0 | ⟨hk1, hpf⟩
  ·
    subst hk0
    refine lv_aload_n hx hb d_M_planNow_0 rfl (lv_at hl 0 rfl) ?_
    refine va_get (D := D) (ci := 5) (v := .int (eI 0)) (C := R_M) (T := T_M) (N := 23) hx hb htb in_M hown hK hP 0 rfl rfl 21 (by decide) (htb _ tb_609) (fun _ h9 => h9) rfl d_M_planNow_1 ?_
    refine we_if_ne (tgt := 22) hx hb (by constructor <;> omega) d_M_planNow_4 rfl (fun hc4 => absurd hc4 (by omega)) (fun hc4 => ?_)
    refine lv_aload_n hx hb d_M_planNow_7 rfl (lv_at hl 0 rfl) ?_
    refine lv_aload_n hx hb d_M_planNow_8 rfl (lv_at hl 0 rfl) ?_
    refine lv_iconst (v := eI (-1)) hx hb d_M_planNow_9 rfl ?_
    refine lv_iconst (v := eI (-1)) hx hb d_M_planNow_10 rfl ?_
    refine eh_cMV (As := [.int (eI (-1)), .int (eI (-1))]) (rest := [.ref (md 0)]) (q := (R_M, T_M, 23)) (wr := []) hx hb hml hown htb hN (m_M_plan l D cI cL cZ md co n sh ra up lw 0 fo sc ln cb th pl lo pr la cu cl fu fl ys yl yp (-1) (-1) (by omega) (by omega) su0 de0 fw0 cs0 G10 G20 BY0 hM) 2 ⟨tb_761, tb_763, ts_38, tb_7, kin_M_plan⟩ dv_M_plan ⟨by rw [hR1]; decide, by rw [hR2]; decide⟩ hK hP hD hS hA 0 rfl rfl [0, 1, 2, 3, 4, 5, 6, 7, 8, 9, 10, 11, 12, 13, 14, 15] [] rfl rfl (by decide) rfl (by decide) (by decide) [0, 1, 2] rfl rfl rfl hl.1 (Nat.le_of_ble_eq_true rfl) d_M_planNow_11 ⟨Nat.zero_le _, Nat.zero_le _⟩ (fun u H locs hu hP hD hS => ?_)
    obtain ⟨rv, up9, lw9, su, de, fw, cs, G1, G2, BY⟩ := u
    have hu : eh_pf (eh_kc n ra ln cb ys yp) (eh_pA n sh ln cu cl yl (-1)) (eh_pB n ln fu fl yl (-1)) cs fw rv := hu
    have hrv : rv = 1 ∨ rv = 0 := by rcases hu.2 with w | w; exact Or.inl w.1; exact Or.inr w.1
    have hP := hP.sub (ws' := [((md 0), .inr (5, [.int (eI co), .int (eI ((n : Nat) : Int)), .ref (md 1), .ref (md 2), .ref (md 3), .int (eI sh), .int (eI ra), .ref (md 4), .ref (md 5), .ref (md 6), .ref (md 7), .ref (md 8), .long (eL up9), .long (eL lw9), .ref (md 9), .ref (md 10), .ref (md 11), .ref (md 12), .ref (md 13), .ref (md 14), .ref (md 15), .int (eI 0), .int (eI fo)])), ((md 1), aI cI 25 sc), ((md 2), aI cI 4 ln), ((md 3), aI cZ 4 cb), ((md 4), aI cZ 3 th), ((md 5), aI cI 3 pl), ((md 6), aI cI 3 lo), ((md 7), aI cI 3 pr), ((md 8), aI cI 30 la), ((md 9), aL cL 7 su), ((md 10), aL cL 6 de), ((md 11), aL cL 42 fw), ((md 12), aI cI 42 cs), ((md 13), aL cL 13 G1), ((md 14), aL cL 13 G2), ((md 15), aI cI 13 BY)]) [0, 1, 2, 3, 4, 5, 6, 7, 8, 9, 10, 11, 12, 13, 14, 15] rfl
    have hD := hD.sub (ws' := [((md 0), .inr (5, [.int (eI co), .int (eI ((n : Nat) : Int)), .ref (md 1), .ref (md 2), .ref (md 3), .int (eI sh), .int (eI ra), .ref (md 4), .ref (md 5), .ref (md 6), .ref (md 7), .ref (md 8), .long (eL up9), .long (eL lw9), .ref (md 9), .ref (md 10), .ref (md 11), .ref (md 12), .ref (md 13), .ref (md 14), .ref (md 15), .int (eI 0), .int (eI fo)])), ((md 1), aI cI 25 sc), ((md 2), aI cI 4 ln), ((md 3), aI cZ 4 cb), ((md 4), aI cZ 3 th), ((md 5), aI cI 3 pl), ((md 6), aI cI 3 lo), ((md 7), aI cI 3 pr), ((md 8), aI cI 30 la), ((md 9), aL cL 7 su), ((md 10), aL cL 6 de), ((md 11), aL cL 42 fw), ((md 12), aI cI 42 cs), ((md 13), aL cL 13 G1), ((md 14), aL cL 13 G2), ((md 15), aI cI 13 BY)]) [0, 1, 2, 3, 4, 5, 6, 7, 8, 9, 10, 11, 12, 13, 14, 15] (by decide) rfl
    rcases hrv with hrv | hrv
    ·
      subst hrv
      refine va_put (D := D) (ci := 5) (v := .int (eI 1)) (ty := .boolean) (C := R_M) (T := T_M) (N := 23) hx hb htb in_M t_M t_M_ok n_M hown hK hP hD hS 0 rfl rfl 22 (by decide) (htb _ tb_610) (fun _ h9 => h9) rfl (by decide +kernel) rfl rfl (Nat.le_of_ble_eq_true rfl) d_M_planNow_14 (fun H locs hP hD hS => ?_)
      have hP : va_P D classes [((md 0), .inr (5, [.int (eI co), .int (eI ((n : Nat) : Int)), .ref (md 1), .ref (md 2), .ref (md 3), .int (eI sh), .int (eI ra), .ref (md 4), .ref (md 5), .ref (md 6), .ref (md 7), .ref (md 8), .long (eL up9), .long (eL lw9), .ref (md 9), .ref (md 10), .ref (md 11), .ref (md 12), .ref (md 13), .ref (md 14), .ref (md 15), .int (eI 0), .int (eI 1)])), ((md 1), aI cI 25 sc), ((md 2), aI cI 4 ln), ((md 3), aI cZ 4 cb), ((md 4), aI cZ 3 th), ((md 5), aI cI 3 pl), ((md 6), aI cI 3 lo), ((md 7), aI cI 3 pr), ((md 8), aI cI 30 la), ((md 9), aL cL 7 su), ((md 10), aL cL 6 de), ((md 11), aL cL 42 fw), ((md 12), aI cI 42 cs), ((md 13), aL cL 13 G1), ((md 14), aL cL 13 G2), ((md 15), aI cI 13 BY)] H := hP
      have hD : va_D A [((md 0), .inr (5, [.int (eI co), .int (eI ((n : Nat) : Int)), .ref (md 1), .ref (md 2), .ref (md 3), .int (eI sh), .int (eI ra), .ref (md 4), .ref (md 5), .ref (md 6), .ref (md 7), .ref (md 8), .long (eL up9), .long (eL lw9), .ref (md 9), .ref (md 10), .ref (md 11), .ref (md 12), .ref (md 13), .ref (md 14), .ref (md 15), .int (eI 0), .int (eI 1)])), ((md 1), aI cI 25 sc), ((md 2), aI cI 4 ln), ((md 3), aI cZ 4 cb), ((md 4), aI cZ 3 th), ((md 5), aI cI 3 pl), ((md 6), aI cI 3 lo), ((md 7), aI cI 3 pr), ((md 8), aI cI 30 la), ((md 9), aL cL 7 su), ((md 10), aL cL 6 de), ((md 11), aL cL 42 fw), ((md 12), aI cI 42 cs), ((md 13), aL cL 13 G1), ((md 14), aL cL 13 G2), ((md 15), aI cI 13 BY)] := hD
      refine lv_aload_n hx hb d_M_planNow_17 rfl (lv_at hl 0 rfl) ?_
      refine lv_iconst (v := eI 1) hx hb d_M_planNow_18 rfl ?_
      refine va_put (D := D) (ci := 5) (v := .int (eI 1)) (ty := .boolean) (C := R_M) (T := T_M) (N := 23) hx hb htb in_M t_M t_M_ok n_M hown hK hP hD hS 0 rfl rfl 21 (by decide) (htb _ tb_609) (fun _ h9 => h9) rfl (by decide +kernel) rfl rfl (Nat.le_of_ble_eq_true rfl) d_M_planNow_19 (fun H locs hP hD hS => ?_)
      have hP : va_P D classes [((md 0), .inr (5, [.int (eI co), .int (eI ((n : Nat) : Int)), .ref (md 1), .ref (md 2), .ref (md 3), .int (eI sh), .int (eI ra), .ref (md 4), .ref (md 5), .ref (md 6), .ref (md 7), .ref (md 8), .long (eL up9), .long (eL lw9), .ref (md 9), .ref (md 10), .ref (md 11), .ref (md 12), .ref (md 13), .ref (md 14), .ref (md 15), .int (eI 1), .int (eI 1)])), ((md 1), aI cI 25 sc), ((md 2), aI cI 4 ln), ((md 3), aI cZ 4 cb), ((md 4), aI cZ 3 th), ((md 5), aI cI 3 pl), ((md 6), aI cI 3 lo), ((md 7), aI cI 3 pr), ((md 8), aI cI 30 la), ((md 9), aL cL 7 su), ((md 10), aL cL 6 de), ((md 11), aL cL 42 fw), ((md 12), aI cI 42 cs), ((md 13), aL cL 13 G1), ((md 14), aL cL 13 G2), ((md 15), aI cI 13 BY)] H := hP
      have hD : va_D A [((md 0), .inr (5, [.int (eI co), .int (eI ((n : Nat) : Int)), .ref (md 1), .ref (md 2), .ref (md 3), .int (eI sh), .int (eI ra), .ref (md 4), .ref (md 5), .ref (md 6), .ref (md 7), .ref (md 8), .long (eL up9), .long (eL lw9), .ref (md 9), .ref (md 10), .ref (md 11), .ref (md 12), .ref (md 13), .ref (md 14), .ref (md 15), .int (eI 1), .int (eI 1)])), ((md 1), aI cI 25 sc), ((md 2), aI cI 4 ln), ((md 3), aI cZ 4 cb), ((md 4), aI cZ 3 th), ((md 5), aI cI 3 pl), ((md 6), aI cI 3 lo), ((md 7), aI cI 3 pr), ((md 8), aI cI 30 la), ((md 9), aL cL 7 su), ((md 10), aL cL 6 de), ((md 11), aL cL 42 fw), ((md 12), aI cI 42 cs), ((md 13), aL cL 13 G1), ((md 14), aL cL 13 G2), ((md 15), aI cI 13 BY)] := hD
      refine lv_aload_n hx hb d_M_planNow_22 rfl (lv_at hl 0 rfl) ?_
      refine va_get (D := D) (ci := 5) (v := .int (eI 1)) (C := R_M) (T := T_M) (N := 23) hx hb htb in_M hown hK hP 0 rfl rfl 22 (by decide) (htb _ tb_610) (fun _ h9 => h9) rfl d_M_planNow_23 ?_
      subst hQ
      exact W.zret (v := eI 1) hx hb hrt (by decide) (fun t9 ht hW => ⟨⟨(1, up9, lw9, su, de, fw, cs, G1, G2, BY), rfl, hu, by rw [ht]; exact hP, hD⟩, hS.F ht⟩) hS.2.2 d_M_planNow_26
    ·
      subst hrv
      refine va_put (D := D) (ci := 5) (v := .int (eI 0)) (ty := .boolean) (C := R_M) (T := T_M) (N := 23) hx hb htb in_M t_M t_M_ok n_M hown hK hP hD hS 0 rfl rfl 22 (by decide) (htb _ tb_610) (fun _ h9 => h9) rfl (by decide +kernel) rfl rfl (Nat.le_of_ble_eq_true rfl) d_M_planNow_14 (fun H locs hP hD hS => ?_)
      have hP : va_P D classes [((md 0), .inr (5, [.int (eI co), .int (eI ((n : Nat) : Int)), .ref (md 1), .ref (md 2), .ref (md 3), .int (eI sh), .int (eI ra), .ref (md 4), .ref (md 5), .ref (md 6), .ref (md 7), .ref (md 8), .long (eL up9), .long (eL lw9), .ref (md 9), .ref (md 10), .ref (md 11), .ref (md 12), .ref (md 13), .ref (md 14), .ref (md 15), .int (eI 0), .int (eI 0)])), ((md 1), aI cI 25 sc), ((md 2), aI cI 4 ln), ((md 3), aI cZ 4 cb), ((md 4), aI cZ 3 th), ((md 5), aI cI 3 pl), ((md 6), aI cI 3 lo), ((md 7), aI cI 3 pr), ((md 8), aI cI 30 la), ((md 9), aL cL 7 su), ((md 10), aL cL 6 de), ((md 11), aL cL 42 fw), ((md 12), aI cI 42 cs), ((md 13), aL cL 13 G1), ((md 14), aL cL 13 G2), ((md 15), aI cI 13 BY)] H := hP
      have hD : va_D A [((md 0), .inr (5, [.int (eI co), .int (eI ((n : Nat) : Int)), .ref (md 1), .ref (md 2), .ref (md 3), .int (eI sh), .int (eI ra), .ref (md 4), .ref (md 5), .ref (md 6), .ref (md 7), .ref (md 8), .long (eL up9), .long (eL lw9), .ref (md 9), .ref (md 10), .ref (md 11), .ref (md 12), .ref (md 13), .ref (md 14), .ref (md 15), .int (eI 0), .int (eI 0)])), ((md 1), aI cI 25 sc), ((md 2), aI cI 4 ln), ((md 3), aI cZ 4 cb), ((md 4), aI cZ 3 th), ((md 5), aI cI 3 pl), ((md 6), aI cI 3 lo), ((md 7), aI cI 3 pr), ((md 8), aI cI 30 la), ((md 9), aL cL 7 su), ((md 10), aL cL 6 de), ((md 11), aL cL 42 fw), ((md 12), aI cI 42 cs), ((md 13), aL cL 13 G1), ((md 14), aL cL 13 G2), ((md 15), aI cI 13 BY)] := hD
      refine lv_aload_n hx hb d_M_planNow_17 rfl (lv_at hl 0 rfl) ?_
      refine lv_iconst (v := eI 1) hx hb d_M_planNow_18 rfl ?_
      refine va_put (D := D) (ci := 5) (v := .int (eI 1)) (ty := .boolean) (C := R_M) (T := T_M) (N := 23) hx hb htb in_M t_M t_M_ok n_M hown hK hP hD hS 0 rfl rfl 21 (by decide) (htb _ tb_609) (fun _ h9 => h9) rfl (by decide +kernel) rfl rfl (Nat.le_of_ble_eq_true rfl) d_M_planNow_19 (fun H locs hP hD hS => ?_)
      have hP : va_P D classes [((md 0), .inr (5, [.int (eI co), .int (eI ((n : Nat) : Int)), .ref (md 1), .ref (md 2), .ref (md 3), .int (eI sh), .int (eI ra), .ref (md 4), .ref (md 5), .ref (md 6), .ref (md 7), .ref (md 8), .long (eL up9), .long (eL lw9), .ref (md 9), .ref (md 10), .ref (md 11), .ref (md 12), .ref (md 13), .ref (md 14), .ref (md 15), .int (eI 1), .int (eI 0)])), ((md 1), aI cI 25 sc), ((md 2), aI cI 4 ln), ((md 3), aI cZ 4 cb), ((md 4), aI cZ 3 th), ((md 5), aI cI 3 pl), ((md 6), aI cI 3 lo), ((md 7), aI cI 3 pr), ((md 8), aI cI 30 la), ((md 9), aL cL 7 su), ((md 10), aL cL 6 de), ((md 11), aL cL 42 fw), ((md 12), aI cI 42 cs), ((md 13), aL cL 13 G1), ((md 14), aL cL 13 G2), ((md 15), aI cI 13 BY)] H := hP
      have hD : va_D A [((md 0), .inr (5, [.int (eI co), .int (eI ((n : Nat) : Int)), .ref (md 1), .ref (md 2), .ref (md 3), .int (eI sh), .int (eI ra), .ref (md 4), .ref (md 5), .ref (md 6), .ref (md 7), .ref (md 8), .long (eL up9), .long (eL lw9), .ref (md 9), .ref (md 10), .ref (md 11), .ref (md 12), .ref (md 13), .ref (md 14), .ref (md 15), .int (eI 1), .int (eI 0)])), ((md 1), aI cI 25 sc), ((md 2), aI cI 4 ln), ((md 3), aI cZ 4 cb), ((md 4), aI cZ 3 th), ((md 5), aI cI 3 pl), ((md 6), aI cI 3 lo), ((md 7), aI cI 3 pr), ((md 8), aI cI 30 la), ((md 9), aL cL 7 su), ((md 10), aL cL 6 de), ((md 11), aL cL 42 fw), ((md 12), aI cI 42 cs), ((md 13), aL cL 13 G1), ((md 14), aL cL 13 G2), ((md 15), aI cI 13 BY)] := hD
      refine lv_aload_n hx hb d_M_planNow_22 rfl (lv_at hl 0 rfl) ?_
      refine va_get (D := D) (ci := 5) (v := .int (eI 0)) (C := R_M) (T := T_M) (N := 23) hx hb htb in_M hown hK hP 0 rfl rfl 22 (by decide) (htb _ tb_610) (fun _ h9 => h9) rfl d_M_planNow_23 ?_
      subst hQ
      exact W.zret (v := eI 0) hx hb hrt (by decide) (fun t9 ht hW => ⟨⟨(0, up9, lw9, su, de, fw, cs, G1, G2, BY), rfl, hu, by rw [ht]; exact hP, hD⟩, hS.F ht⟩) hS.2.2 d_M_planNow_26
  ·
    subst hk1
    have hfo : fo = 1 ∨ fo = 0 := by rcases hpf.2 with w | w; exact Or.inl w.1; exact Or.inr w.1
    rcases hfo with hfo | hfo
    ·
      subst hfo
      refine lv_aload_n hx hb d_M_planNow_0 rfl (lv_at hl 0 rfl) ?_
      refine va_get (D := D) (ci := 5) (v := .int (eI 1)) (C := R_M) (T := T_M) (N := 23) hx hb htb in_M hown hK hP 0 rfl rfl 21 (by decide) (htb _ tb_609) (fun _ h9 => h9) rfl d_M_planNow_1 ?_
      refine we_if_ne (tgt := 22) hx hb (by constructor <;> omega) d_M_planNow_4 rfl (fun hc4 => ?_) (fun hc4 => absurd hc4 (by omega))
      refine lv_aload_n hx hb d_M_planNow_22 rfl (lv_at hl 0 rfl) ?_
      refine va_get (D := D) (ci := 5) (v := .int (eI 1)) (C := R_M) (T := T_M) (N := 23) hx hb htb in_M hown hK hP 0 rfl rfl 22 (by decide) (htb _ tb_610) (fun _ h9 => h9) rfl d_M_planNow_23 ?_
      subst hQ
      exact W.zret (v := eI 1) hx hb hrt (by decide) (fun t9 ht hW => ⟨⟨(1, up, lw, su0, de0, fw0, cs0, G10, G20, BY0), rfl, hpf, by rw [ht]; exact hP, hD⟩, hS.F ht⟩) hS.2.2 d_M_planNow_26
    ·
      subst hfo
      refine lv_aload_n hx hb d_M_planNow_0 rfl (lv_at hl 0 rfl) ?_
      refine va_get (D := D) (ci := 5) (v := .int (eI 1)) (C := R_M) (T := T_M) (N := 23) hx hb htb in_M hown hK hP 0 rfl rfl 21 (by decide) (htb _ tb_609) (fun _ h9 => h9) rfl d_M_planNow_1 ?_
      refine we_if_ne (tgt := 22) hx hb (by constructor <;> omega) d_M_planNow_4 rfl (fun hc4 => ?_) (fun hc4 => absurd hc4 (by omega))
      refine lv_aload_n hx hb d_M_planNow_22 rfl (lv_at hl 0 rfl) ?_
      refine va_get (D := D) (ci := 5) (v := .int (eI 0)) (C := R_M) (T := T_M) (N := 23) hx hb htb in_M hown hK hP 0 rfl rfl 22 (by decide) (htb _ tb_610) (fun _ h9 => h9) rfl d_M_planNow_23 ?_
      subst hQ
      exact W.zret (v := eI 0) hx hb hrt (by decide) (fun t9 ht hW => ⟨⟨(0, up, lw, su0, de0, fw0, cs0, G10, G20, BY0), rfl, hpf, by rw [ht]; exact hP, hD⟩, hS.F ht⟩) hS.2.2 d_M_planNow_26
