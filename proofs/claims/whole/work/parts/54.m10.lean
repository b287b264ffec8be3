abbrev c_M_worthOf : ByteArray := prog_7_method_45_code
def y_M_worthOf : MethodName := ⟨"EarthHaulsModel", "worthOf", "()J"⟩
abbrev k_M_worthOf : Cond := .code y_M_worthOf c_M_worthOf 6 (some .long)
theorem kin_M_worthOf : k_M_worthOf ∈ ew_t := tb_839
theorem dv_M_worthOf : eh_dV y_M_worthOf "EarthHaulsModel" 0 := ⟨rfl, by decide, by decide, by decide +kernel⟩
theorem d_M_worthOf_0 : decode c_M_worthOf 0 = .ok (.lconst 0, 1) := by decide +kernel
theorem d_M_worthOf_1 : decode c_M_worthOf 1 = .ok (.lstore_n 1, 1) := by decide +kernel
theorem d_M_worthOf_2 : decode c_M_worthOf 2 = .ok (.iconst 0, 1) := by decide +kernel
theorem d_M_worthOf_3 : decode c_M_worthOf 3 = .ok (.istore_n 3, 1) := by decide +kernel
theorem d_M_worthOf_4 : decode c_M_worthOf 4 = .ok (.iload_n 3, 1) := by decide +kernel
theorem d_M_worthOf_5 : decode c_M_worthOf 5 = .ok (.bipush 6, 2) := by decide +kernel
theorem d_M_worthOf_7 : decode c_M_worthOf 7 = .ok (.if_icmp .ge 61, 3) := by decide +kernel
theorem d_M_worthOf_10 : decode c_M_worthOf 10 = .ok (.iconst 0, 1) := by decide +kernel
theorem d_M_worthOf_11 : decode c_M_worthOf 11 = .ok (.istore 4, 2) := by decide +kernel
theorem d_M_worthOf_13 : decode c_M_worthOf 13 = .ok (.iload 4, 2) := by decide +kernel
theorem d_M_worthOf_15 : decode c_M_worthOf 15 = .ok (.iconst 5, 1) := by decide +kernel
theorem d_M_worthOf_16 : decode c_M_worthOf 16 = .ok (.if_icmp .ge 46, 3) := by decide +kernel
theorem d_M_worthOf_19 : decode c_M_worthOf 19 = .ok (.aload_n 0, 1) := by decide +kernel
theorem d_M_worthOf_20 : decode c_M_worthOf 20 = .ok (.iload_n 3, 1) := by decide +kernel
theorem d_M_worthOf_21 : decode c_M_worthOf 21 = .ok (.iload 4, 2) := by decide +kernel
theorem d_M_worthOf_23 : decode c_M_worthOf 23 = .ok (.invokevirtual 133, 3) := by decide +kernel
theorem d_M_worthOf_26 : decode c_M_worthOf 26 = .ok (.istore 5, 2) := by decide +kernel
theorem d_M_worthOf_28 : decode c_M_worthOf 28 = .ok (.iload 5, 2) := by decide +kernel
theorem d_M_worthOf_30 : decode c_M_worthOf 30 = .ok (.ifCond .ge 7, 3) := by decide +kernel
theorem d_M_worthOf_33 : decode c_M_worthOf 33 = .ok (.lload_n 1, 1) := by decide +kernel
theorem d_M_worthOf_34 : decode c_M_worthOf 34 = .ok (.goto 21, 3) := by decide +kernel
theorem d_M_worthOf_37 : decode c_M_worthOf 37 = .ok (.lload_n 1, 1) := by decide +kernel
theorem d_M_worthOf_38 : decode c_M_worthOf 38 = .ok (.aload_n 0, 1) := by decide +kernel
theorem d_M_worthOf_39 : decode c_M_worthOf 39 = .ok (.getfield 39, 3) := by decide +kernel
theorem d_M_worthOf_42 : decode c_M_worthOf 42 = .ok (.iconst 5, 1) := by decide +kernel
theorem d_M_worthOf_43 : decode c_M_worthOf 43 = .ok (.iload_n 3, 1) := by decide +kernel
theorem d_M_worthOf_44 : decode c_M_worthOf 44 = .ok (.imul, 1) := by decide +kernel
theorem d_M_worthOf_45 : decode c_M_worthOf 45 = .ok (.iload 4, 2) := by decide +kernel
theorem d_M_worthOf_47 : decode c_M_worthOf 47 = .ok (.iadd, 1) := by decide +kernel
theorem d_M_worthOf_48 : decode c_M_worthOf 48 = .ok (.iaload, 1) := by decide +kernel
theorem d_M_worthOf_49 : decode c_M_worthOf 49 = .ok (.i2l, 1) := by decide +kernel
theorem d_M_worthOf_50 : decode c_M_worthOf 50 = .ok (.iload 5, 2) := by decide +kernel
theorem d_M_worthOf_52 : decode c_M_worthOf 52 = .ok (.i2l, 1) := by decide +kernel
theorem d_M_worthOf_53 : decode c_M_worthOf 53 = .ok (.lmul, 1) := by decide +kernel
theorem d_M_worthOf_54 : decode c_M_worthOf 54 = .ok (.ladd, 1) := by decide +kernel
theorem d_M_worthOf_55 : decode c_M_worthOf 55 = .ok (.lstore_n 1, 1) := by decide +kernel
theorem d_M_worthOf_56 : decode c_M_worthOf 56 = .ok (.iinc 4 1, 3) := by decide +kernel
theorem d_M_worthOf_59 : decode c_M_worthOf 59 = .ok (.goto (-46), 3) := by decide +kernel
theorem d_M_worthOf_62 : decode c_M_worthOf 62 = .ok (.iinc 3 1, 3) := by decide +kernel
theorem d_M_worthOf_65 : decode c_M_worthOf 65 = .ok (.goto (-61), 3) := by decide +kernel
theorem d_M_worthOf_68 : decode c_M_worthOf 68 = .ok (.lload_n 1, 1) := by decide +kernel
theorem d_M_worthOf_69 : decode c_M_worthOf 69 = .ok (.lreturn, 1) := by decide +kernel
set_option maxHeartbeats 1000000 in
set_option maxRecDepth 100000 in
theorem r_M_worthOf (l : Launch) (D : va_G) (cI cL cZ : ClassId) (md : Nat → Nat) (co : Int) (n : Nat) (sh ra up lw kn fo : Int) (sc ln cb th pl lo pr la : Nat → Int) (cu cl fu fl : Nat → Nat) (ys yl yp : Nat → Int) (hM : eh_MS n sh ra sc ln cb th pl lo pr la cu cl fu fl ys yl yp) : eh_R l y_M_worthOf k_M_worthOf 3 70 D classes [(cI, .int), (cL, .long), (cZ, .boolean)] [.ref (md 0)] [((md 0), .inr (5, [.int (eI co), .int (eI ((n : Nat) : Int)), .ref (md 1), .ref (md 2), .ref (md 3), .int (eI sh), .int (eI ra), .ref (md 4), .ref (md 5), .ref (md 6), .ref (md 7), .ref (md 8), .long (eL up), .long (eL lw), .ref (md 9), .ref (md 10), .ref (md 11), .ref (md 12), .ref (md 13), .ref (md 14), .ref (md 15), .int (eI kn), .int (eI fo)])), ((md 1), aI cI 25 sc), ((md 2), aI cI 4 ln), ((md 3), aI cZ 4 cb), ((md 4), aI cZ 3 th), ((md 5), aI cI 3 pl), ((md 6), aI cI 3 lo), ((md 7), aI cI 3 pr), ((md 8), aI cI 30 la)] (.long (eL (eh_wo (eh_kc n ra ln cb ys yp) la 30))) := by
  refine Met.ofW (cc := c_M_worthOf) (maxL := 6) (ret := (some .long)) (by decide) rfl ?_
  intro p e s m args below meth c s₁ B hml hv
  obtain ⟨hargs, hP, hK, hN⟩ := hv
  have hx := B.exec
  have hb := B.bytes
  have hrt := B.returns
  have hts := atoms_spec (ws := k_M_worthOf :: ew_t) B.pre
  have htb : ∀ w ∈ ew_t, w.before args s = true := fun w h => hts w (List.mem_cons_of_mem _ h)
  have hown : s.vm.findClass "EarthHaulsModel" = some m.cls := findClass_of_methodNamed B.named
  have hlocks := B.notSynchronized
  have hE : entryFrame m args 6 = entryFrame m ([.ref (md 0)] : List Value).toArray 6 := by rw [hargs]
  rw [hE]
  clear hE hts B hargs
  generalize hRe : (headSpec _ _).room = R
  have hR1 : R.frames = 3 := by rw [← hRe]; rfl
  have hR2 : R.locals = 70 := by rw [← hRe]; rfl
  clear hRe
  generalize hQ : MQ below _ _ s 0 0 _ = Q
  have hP : va_P D classes [((md 0), .inr (5, [.int (eI co), .int (eI ((n : Nat) : Int)), .ref (md 1), .ref (md 2), .ref (md 3), .int (eI sh), .int (eI ra), .ref (md 4), .ref (md 5), .ref (md 6), .ref (md 7), .ref (md 8), .long (eL up), .long (eL lw), .ref (md 9), .ref (md 10), .ref (md 11), .ref (md 12), .ref (md 13), .ref (md 14), .ref (md 15), .int (eI kn), .int (eI fo)])), ((md 1), aI cI 25 sc), ((md 2), aI cI 4 ln), ((md 3), aI cZ 4 cb), ((md 4), aI cZ 3 th), ((md 5), aI cI 3 pl), ((md 6), aI cI 3 lo), ((md 7), aI cI 3 pr), ((md 8), aI cI 30 la)] s.heap := hP
  have hl := lv_entry ([.ref (md 0)]) (n := 6) (Nat.le_of_ble_eq_true rfl)
  rw [lg_entry_eq]
  generalize (lg_sl ([.ref (md 0)]) ++ List.replicate (6 - (lg_sl ([.ref (md 0)])).length) Slot.unset).toArray = ls at hl ⊢
  have hl : lv_has ls 6 [(0, .ref (md 0))] := hl
  refine lv_lconst (v := eL 0) hx hb d_M_worthOf_0 (by decide) ?_
  refine lv_lstore_n hx hb d_M_worthOf_1 rfl hl (by decide) rfl (fun ls hl => ?_)
  have hl : lv_has ls 6 [(1, .long (eL 0)), (0, .ref (md 0))] := hl
  refine lv_iconst (v := eI 0) hx hb d_M_worthOf_2 rfl ?_
  refine lv_istore_n hx hb d_M_worthOf_3 rfl hl (by decide) rfl (fun ls hl => ?_)
  have hl : lv_has ls 6 [(3, .int (eI 0)), (1, .long (eL 0)), (0, .ref (md 0))] := hl
  have rows : ∀ (q y : Nat) (ls : Array Slot), 6 - y = q → y ≤ 6 → lv_has ls 6 [(3, .int (eI ((y : Nat) : Int))), (1, .long (eL (eh_wo (eh_kc n ra ln cb ys yp) la (5 * y)))), (0, .ref (md 0))] → W p l e R s m args below meth c s.heap [] 0 0 Q (F0 m 4 ls []) := by
    intro q
    induction q with
    | zero =>
      intro y ls hq hy hl
      have hy6 : y = 6 := by omega
      subst hy6
      refine lv_iload_n hx hb d_M_worthOf_4 rfl (lv_at hl 0 rfl) ?_
      refine lv_bipush (v := eI 6) hx hb d_M_worthOf_5 (by decide) ?_
      refine we_icmp_ge (tgt := 68) hx hb (by constructor <;> omega) (by constructor <;> omega) d_M_worthOf_7 rfl (fun hc7 => ?_) (fun hc7 => absurd hc7 (by omega))
      refine lv_lload_n hx hb d_M_worthOf_68 rfl (lv_at hl 1 rfl) ?_
      subst hQ
      exact W.lret hx hb hrt (fun t9 ht hW => ⟨rfl, ht⟩) (fun q h => by cases h) d_M_worthOf_69
    | succ q ih =>
      intro y ls hq hy hl
      refine lv_iload_n hx hb d_M_worthOf_4 rfl (lv_at hl 0 rfl) ?_
      refine lv_bipush (v := eI 6) hx hb d_M_worthOf_5 (by decide) ?_
      refine we_icmp_ge (tgt := 68) hx hb (by constructor <;> omega) (by constructor <;> omega) d_M_worthOf_7 rfl (fun hc7 => absurd hc7 (by omega)) (fun hc7 => ?_)
      refine lv_iconst (v := eI 0) hx hb d_M_worthOf_10 rfl ?_
      refine lv_istore hx hb d_M_worthOf_11 hl (by decide) rfl (fun ls hl => ?_)
      have hl : lv_has ls 6 [(4, .int (eI 0)), (3, .int (eI ((y : Nat) : Int))), (1, .long (eL (eh_wo (eh_kc n ra ln cb ys yp) la (5 * y)))), (0, .ref (md 0))] := hl
      have cols : ∀ (q2 z : Nat) (ls : Array Slot), 5 - z = q2 → z ≤ 5 → lv_has ls 6 [(4, .int (eI ((z : Nat) : Int))), (3, .int (eI ((y : Nat) : Int))), (1, .long (eL (eh_wo (eh_kc n ra ln cb ys yp) la (5 * y + z)))), (0, .ref (md 0))] → W p l e R s m args below meth c s.heap [] 0 0 Q (F0 m 13 ls []) := by
        intro q2
        induction q2 with
        | zero =>
          intro z ls hq2 hz hl
          have hz5 : z = 5 := by omega
          subst hz5
          refine lv_iload hx hb d_M_worthOf_13 (lv_at hl 0 rfl) ?_
          refine lv_iconst (v := eI 5) hx hb d_M_worthOf_15 rfl ?_
          refine we_icmp_ge (tgt := 62) hx hb (by constructor <;> omega) (by constructor <;> omega) d_M_worthOf_16 rfl (fun hc16 => ?_) (fun hc16 => absurd hc16 (by omega))
          refine lv_iinc (v := eI (((y : Nat) : Int) + 1)) hx hb d_M_worthOf_62 hl (k := 1) rfl (eI_add _ _) (by decide) rfl (fun ls hl => ?_)
          have hl : lv_has ls 6 [(3, .int (eI (((y : Nat) : Int) + 1))), (4, .int (eI ((5 : Nat) : Int))), (1, .long (eL (eh_wo (eh_kc n ra ln cb ys yp) la (5 * y + 5)))), (0, .ref (md 0))] := hl
          refine lv_goto (tgt := 4) hx hb d_M_worthOf_65 rfl ?_
          exact ih (y + 1) ls (by omega) (by omega) (by rw [show 5 * (y + 1) = 5 * y + 5 by omega]; exact lv_sub hl [0, 2, 3] rfl)
        | succ q2 ih2 =>
          intro z ls hq2 hz hl
          have hkb := eh_ku_b hM.1 (s := y) (t := z) (by omega) (by omega)
          have hkc := eh_kc_at n ra ln cb ys yp (a := y) (b := z) (by omega)
          have hlb := hM.1.2.2.2.2.2.1 (5 * y + z) (by omega)
          refine lv_iload hx hb d_M_worthOf_13 (lv_at hl 0 rfl) ?_
          refine lv_iconst (v := eI 5) hx hb d_M_worthOf_15 rfl ?_
          refine we_icmp_ge (tgt := 62) hx hb (by constructor <;> omega) (by constructor <;> omega) d_M_worthOf_16 rfl (fun hc16 => absurd hc16 (by omega)) (fun hc16 => ?_)
          refine lv_aload_n hx hb d_M_worthOf_19 rfl (lv_at hl 3 rfl) ?_
          refine lv_iload_n hx hb d_M_worthOf_20 rfl (lv_at hl 1 rfl) ?_
          refine lv_iload hx hb d_M_worthOf_21 (lv_at hl 0 rfl) ?_
          refine eh_cRV (As := [.int (eI ((y : Nat) : Int)), .int (eI ((z : Nat) : Int))]) (rest := []) (v := .int (eI (eh_ku n ra ln cb ys yp y z))) (q := (R_M, T_M, 23)) hx hb hml hown htb hN (r_M_costOf l D cI cL cZ md co n sh ra up lw kn fo sc ln cb th pl lo pr la cu cl fu fl ys yl yp y z (by omega) (by omega) hM) 2 ⟨tb_741, tb_743, ts_34, tb_7, kin_M_costOf⟩ dv_M_costOf ⟨by rw [hR1]; decide, by rw [hR2]; decide⟩ hK hP 0 rfl rfl [0, 1, 2, 3, 4, 5, 6, 7, 8] rfl [0, 1, 2] rfl rfl rfl hl.1 (Nat.le_of_ble_eq_true rfl) d_M_worthOf_23 ⟨Nat.zero_le _, Nat.zero_le _⟩ ?_
          refine lv_istore hx hb d_M_worthOf_26 hl (by decide) rfl (fun ls hl => ?_)
          have hl : lv_has ls 6 [(5, .int (eI (eh_ku n ra ln cb ys yp y z))), (4, .int (eI ((z : Nat) : Int))), (3, .int (eI ((y : Nat) : Int))), (1, .long (eL (eh_wo (eh_kc n ra ln cb ys yp) la (5 * y + z)))), (0, .ref (md 0))] := hl
          refine lv_iload hx hb d_M_worthOf_28 (lv_at hl 0 rfl) ?_
          refine we_if_ge (tgt := 37) hx hb (by constructor <;> omega) d_M_worthOf_30 rfl (fun hc30 => ?_) (fun hc30 => ?_)
          ·
            refine lv_lload_n hx hb d_M_worthOf_37 rfl (lv_at hl 3 rfl) ?_
            refine lv_aload_n hx hb d_M_worthOf_38 rfl (lv_at hl 4 rfl) ?_
            refine va_get (D := D) (ci := 5) (v := .ref (md 8)) (C := R_M) (T := T_M) (N := 23) hx hb htb in_M hown hK hP 0 rfl rfl 11 (by decide) (htb _ tb_599) (fun _ h9 => h9) rfl d_M_worthOf_39 ?_
            refine lv_iconst (v := eI 5) hx hb d_M_worthOf_42 rfl ?_
            refine lv_iload_n hx hb d_M_worthOf_43 rfl (lv_at hl 2 rfl) ?_
            refine we_imul hx hb d_M_worthOf_44 ?_
            refine lv_iload hx hb d_M_worthOf_45 (lv_at hl 1 rfl) ?_
            refine we_iadd hx hb d_M_worthOf_47 ?_
            refine we_iald hx hb hK hP 8 0 rfl rfl (5 * y + z) (by omega) (by omega) (by decide) d_M_worthOf_48 ?_
            refine we_i2l hx hb (by constructor <;> omega) d_M_worthOf_49 ?_
            refine lv_iload hx hb d_M_worthOf_50 (lv_at hl 0 rfl) ?_
            refine we_i2l hx hb (by constructor <;> omega) d_M_worthOf_52 ?_
            refine we_lmul hx hb d_M_worthOf_53 ?_
            refine we_ladd hx hb d_M_worthOf_54 ?_
            refine lv_lstore_n hx hb d_M_worthOf_55 rfl hl (by decide) rfl (fun ls hl => ?_)
            have hl : lv_has ls 6 [(1, .long (eL ((eh_wo (eh_kc n ra ln cb ys yp) la (5 * y + z)) + ((la (5 * y + z)) * (eh_ku n ra ln cb ys yp y z))))), (5, .int (eI (eh_ku n ra ln cb ys yp y z))), (4, .int (eI ((z : Nat) : Int))), (3, .int (eI ((y : Nat) : Int))), (0, .ref (md 0))] := hl
            refine lv_iinc (v := eI (((z : Nat) : Int) + 1)) hx hb d_M_worthOf_56 hl (k := 2) rfl (eI_add _ _) (by decide) rfl (fun ls hl => ?_)
            have hl : lv_has ls 6 [(4, .int (eI (((z : Nat) : Int) + 1))), (1, .long (eL ((eh_wo (eh_kc n ra ln cb ys yp) la (5 * y + z)) + ((la (5 * y + z)) * (eh_ku n ra ln cb ys yp y z))))), (5, .int (eI (eh_ku n ra ln cb ys yp y z))), (3, .int (eI ((y : Nat) : Int))), (0, .ref (md 0))] := hl
            refine lv_goto (tgt := 13) hx hb d_M_worthOf_59 rfl ?_
            have hs9 : ((eh_wo (eh_kc n ra ln cb ys yp) la (5 * y + z)) + ((la (5 * y + z)) * (eh_ku n ra ln cb ys yp y z))) = (eh_wo (eh_kc n ra ln cb ys yp) la (5 * y + (z + 1))) := by
              show _ = (eh_wo (eh_kc n ra ln cb ys yp) la (5 * y + z)) + (if (eh_kc n ra ln cb ys yp) (5 * y + z) = -1 then 0 else (eh_kc n ra ln cb ys yp) (5 * y + z) * la (5 * y + z))
              rw [hkc, if_neg (by omega), Int.mul_comm (eh_ku n ra ln cb ys yp y z)]
            rw [hs9] at hl
            exact ih2 (z + 1) ls (by omega) (by omega) (lv_sub hl [0, 3, 1, 4] rfl)
          ·
            refine lv_lload_n hx hb d_M_worthOf_33 rfl (lv_at hl 3 rfl) ?_
            refine lv_goto (tgt := 55) hx hb d_M_worthOf_34 rfl ?_
            refine lv_lstore_n hx hb d_M_worthOf_55 rfl hl (by decide) rfl (fun ls hl => ?_)
            have hl : lv_has ls 6 [(1, .long (eL (eh_wo (eh_kc n ra ln cb ys yp) la (5 * y + z)))), (5, .int (eI (eh_ku n ra ln cb ys yp y z))), (4, .int (eI ((z : Nat) : Int))), (3, .int (eI ((y : Nat) : Int))), (0, .ref (md 0))] := hl
            refine lv_iinc (v := eI (((z : Nat) : Int) + 1)) hx hb d_M_worthOf_56 hl (k := 2) rfl (eI_add _ _) (by decide) rfl (fun ls hl => ?_)
            have hl : lv_has ls 6 [(4, .int (eI (((z : Nat) : Int) + 1))), (1, .long (eL (eh_wo (eh_kc n ra ln cb ys yp) la (5 * y + z)))), (5, .int (eI (eh_ku n ra ln cb ys yp y z))), (3, .int (eI ((y : Nat) : Int))), (0, .ref (md 0))] := hl
            refine lv_goto (tgt := 13) hx hb d_M_worthOf_59 rfl ?_
            have hs9 : (eh_wo (eh_kc n ra ln cb ys yp) la (5 * y + z)) = (eh_wo (eh_kc n ra ln cb ys yp) la (5 * y + (z + 1))) := by
              show _ = (eh_wo (eh_kc n ra ln cb ys yp) la (5 * y + z)) + (if (eh_kc n ra ln cb ys yp) (5 * y + z) = -1 then 0 else (eh_kc n ra ln cb ys yp) (5 * y + z) * la (5 * y + z))
              rw [hkc, if_pos (by omega), Int.add_zero]
            rw [hs9] at hl
            exact ih2 (z + 1) ls (by omega) (by omega) (lv_sub hl [0, 3, 1, 4] rfl)
      exact cols 5 0 ls (by omega) (by omega) (lv_sub hl [0, 1, 2, 3] rfl)
  exact rows 6 0 ls (by omega) (by omega) (lv_sub hl [0, 1, 2] rfl)
abbrev c_M_worth : ByteArray := prog_7_method_46_code
def y_M_worth : MethodName := ⟨"EarthHaulsModel", "worth", "()J"⟩
abbrev k_M_worth : Cond := .code y_M_worth c_M_worth 1 (some .long)
theorem kin_M_worth : k_M_worth ∈ ew_t := tb_835
theorem dv_M_worth : eh_dV y_M_worth "EarthHaulsModel" 0 := ⟨rfl, by decide, by decide, by decide +kernel⟩
theorem d_M_worth_0 : decode c_M_worth 0 = .ok (.aload_n 0, 1) := by decide +kernel
theorem d_M_worth_1 : decode c_M_worth 1 = .ok (.iconst 0, 1) := by decide +kernel
theorem d_M_worth_2 : decode c_M_worth 2 = .ok (.putfield 64, 3) := by decide +kernel
theorem d_M_worth_5 : decode c_M_worth 5 = .ok (.aload_n 0, 1) := by decide +kernel
theorem d_M_worth_6 : decode c_M_worth 6 = .ok (.invokevirtual 194, 3) := by decide +kernel
theorem d_M_worth_9 : decode c_M_worth 9 = .ok (.lreturn, 1) := by decide +kernel
set_option maxHeartbeats 1000000 in
set_option maxRecDepth 100000 in
theorem m_M_worth (l : Launch) (D : va_G) (cI cL cZ : ClassId) (md : Nat → Nat) (co : Int) (n : Nat) (sh ra up lw kn fo : Int) (sc ln cb th pl lo pr la : Nat → Int) (cu cl fu fl : Nat → Nat) (ys yl yp : Nat → Int) (hM : eh_MS n sh ra sc ln cb th pl lo pr la cu cl fu fl ys yl yp) : eh_M (S := Unit) l y_M_worth k_M_worth 4 95 D classes [(cI, .int), (cL, .long), (cZ, .boolean)] [.ref (md 0)] [((md 0), .inr (5, [.int (eI co), .int (eI ((n : Nat) : Int)), .ref (md 1), .ref (md 2), .ref (md 3), .int (eI sh), .int (eI ra), .ref (md 4), .ref (md 5), .ref (md 6), .ref (md 7), .ref (md 8), .long (eL up), .long (eL lw), .ref (md 9), .ref (md 10), .ref (md 11), .ref (md 12), .ref (md 13), .ref (md 14), .ref (md 15), .int (eI kn), .int (eI fo)])), ((md 1), aI cI 25 sc), ((md 2), aI cI 4 ln), ((md 3), aI cZ 4 cb), ((md 4), aI cZ 3 th), ((md 5), aI cI 3 pl), ((md 6), aI cI 3 lo), ((md 7), aI cI 3 pr), ((md 8), aI cI 30 la)] (fun _ => True) (fun _ => some (.long (eL (eh_wo (eh_kc n ra ln cb ys yp) la 30)))) (fun _ => [((md 0), .inr (5, [.int (eI 0), .int (eI ((n : Nat) : Int)), .ref (md 1), .ref (md 2), .ref (md 3), .int (eI sh), .int (eI ra), .ref (md 4), .ref (md 5), .ref (md 6), .ref (md 7), .ref (md 8), .long (eL up), .long (eL lw), .ref (md 9), .ref (md 10), .ref (md 11), .ref (md 12), .ref (md 13), .ref (md 14), .ref (md 15), .int (eI kn), .int (eI fo)])), ((md 1), aI cI 25 sc), ((md 2), aI cI 4 ln), ((md 3), aI cZ 4 cb), ((md 4), aI cZ 3 th), ((md 5), aI cI 3 pl), ((md 6), aI cI 3 lo), ((md 7), aI cI 3 pr), ((md 8), aI cI 30 la)]) := by
  intro sz
  refine Met.ofW (cc := c_M_worth) (maxL := 1) (ret := (some .long)) (by decide) rfl ?_
  intro p e s m args below meth c s₁ B hml hv
  obtain ⟨hargs, hsz, hP, hK, hD0, hN⟩ := hv
  have hx := B.exec
  have hb := B.bytes
  have hrt := B.returns
  have hts := atoms_spec (ws := k_M_worth :: ew_t) B.pre
  have htb : ∀ w ∈ ew_t, w.before args s = true := fun w h => hts w (List.mem_cons_of_mem _ h)
  have hown : s.vm.findClass "EarthHaulsModel" = some m.cls := findClass_of_methodNamed B.named
  have hlocks := B.notSynchronized
  have hE : entryFrame m args 1 = entryFrame m ([.ref (md 0)] : List Value).toArray 1 := by rw [hargs]
  rw [hE]
  clear hE hts B hargs
  generalize hRe : (headSpec _ _).room = R
  have hR1 : R.frames = 4 := by rw [← hRe]; rfl
  have hR2 : R.locals = 95 := by rw [← hRe]; rfl
  clear hRe
  generalize hQ : MQ below _ _ s 0 0 _ = Q
  subst hsz
  have hD := hD0.self (sz := s.heap.size)
  generalize hAe : va_A [((md 0), .inr (5, [.int (eI co), .int (eI ((n : Nat) : Int)), .ref (md 1), .ref (md 2), .ref (md 3), .int (eI sh), .int (eI ra), .ref (md 4), .ref (md 5), .ref (md 6), .ref (md 7), .ref (md 8), .long (eL up), .long (eL lw), .ref (md 9), .ref (md 10), .ref (md 11), .ref (md 12), .ref (md 13), .ref (md 14), .ref (md 15), .int (eI kn), .int (eI fo)])), ((md 1), aI cI 25 sc), ((md 2), aI cI 4 ln), ((md 3), aI cZ 4 cb), ((md 4), aI cZ 3 th), ((md 5), aI cI 3 pl), ((md 6), aI cI 3 lo), ((md 7), aI cI 3 pr), ((md 8), aI cI 30 la)] s.heap.size = A at hD hQ
  have hA : ∀ q : Nat, s.heap.size ≤ q → A q := fun q h => by rw [← hAe]; exact Or.inr h
  have hS : va_S A s.heap s.heap [] := va_S.rf
  have hP : va_P D classes [((md 0), .inr (5, [.int (eI co), .int (eI ((n : Nat) : Int)), .ref (md 1), .ref (md 2), .ref (md 3), .int (eI sh), .int (eI ra), .ref (md 4), .ref (md 5), .ref (md 6), .ref (md 7), .ref (md 8), .long (eL up), .long (eL lw), .ref (md 9), .ref (md 10), .ref (md 11), .ref (md 12), .ref (md 13), .ref (md 14), .ref (md 15), .int (eI kn), .int (eI fo)])), ((md 1), aI cI 25 sc), ((md 2), aI cI 4 ln), ((md 3), aI cZ 4 cb), ((md 4), aI cZ 3 th), ((md 5), aI cI 3 pl), ((md 6), aI cI 3 lo), ((md 7), aI cI 3 pr), ((md 8), aI cI 30 la)] s.heap := hP
  have hl := lv_entry ([.ref (md 0)]) (n := 1) (Nat.le_of_ble_eq_true rfl)
  rw [lg_entry_eq]
  generalize (lg_sl ([.ref (md 0)]) ++ List.replicate (1 - (lg_sl ([.ref (md 0)])).length) Slot.unset).toArray = ls at hl ⊢
  have hl : lv_has ls 1 [(0, .ref (md 0))] := hl
  refine lv_aload_n hx hb d_M_worth_0 rfl (lv_at hl 0 rfl) ?_
  refine lv_iconst (v := eI 0) hx hb d_M_worth_1 rfl ?_
  refine va_put (D := D) (ci := 5) (v := .int (eI 0)) (ty := .int) (C := R_M) (T := T_M) (N := 23) hx hb htb in_M t_M t_M_ok n_M hown hK hP hD hS 0 rfl rfl 0 (by decide) (htb _ tb_588) (fun _ h9 => h9) rfl (by decide +kernel) rfl rfl (Nat.le_of_ble_eq_true rfl) d_M_worth_2 (fun H locs hP hD hS => ?_)
  have hP : va_P D classes [((md 0), .inr (5, [.int (eI 0), .int (eI ((n : Nat) : Int)), .ref (md 1), .ref (md 2), .ref (md 3), .int (eI sh), .int (eI ra), .ref (md 4), .ref (md 5), .ref (md 6), .ref (md 7), .ref (md 8), .long (eL up), .long (eL lw), .ref (md 9), .ref (md 10), .ref (md 11), .ref (md 12), .ref (md 13), .ref (md 14), .ref (md 15), .int (eI kn), .int (eI fo)])), ((md 1), aI cI 25 sc), ((md 2), aI cI 4 ln), ((md 3), aI cZ 4 cb), ((md 4), aI cZ 3 th), ((md 5), aI cI 3 pl), ((md 6), aI cI 3 lo), ((md 7), aI cI 3 pr), ((md 8), aI cI 30 la)] H := hP
  have hD : va_D A [((md 0), .inr (5, [.int (eI 0), .int (eI ((n : Nat) : Int)), .ref (md 1), .ref (md 2), .ref (md 3), .int (eI sh), .int (eI ra), .ref (md 4), .ref (md 5), .ref (md 6), .ref (md 7), .ref (md 8), .long (eL up), .long (eL lw), .ref (md 9), .ref (md 10), .ref (md 11), .ref (md 12), .ref (md 13), .ref (md 14), .ref (md 15), .int (eI kn), .int (eI fo)])), ((md 1), aI cI 25 sc), ((md 2), aI cI 4 ln), ((md 3), aI cZ 4 cb), ((md 4), aI cZ 3 th), ((md 5), aI cI 3 pl), ((md 6), aI cI 3 lo), ((md 7), aI cI 3 pr), ((md 8), aI cI 30 la)] := hD
  refine lv_aload_n hx hb d_M_worth_5 rfl (lv_at hl 0 rfl) ?_
  refine eh_cRV (As := []) (rest := []) (v := .long (eL (eh_wo (eh_kc n ra ln cb ys yp) la 30))) (q := (R_M, T_M, 23)) hx hb hml hown htb hN (r_M_worthOf l D cI cL cZ md 0 n sh ra up lw kn fo sc ln cb th pl lo pr la cu cl fu fl ys yl yp hM) 0 ⟨tb_836, tb_838, ts_51, tb_7, kin_M_worthOf⟩ dv_M_worthOf ⟨by rw [hR1]; decide, by rw [hR2]; decide⟩ hK hP 0 rfl rfl [0, 1, 2, 3, 4, 5, 6, 7, 8] rfl [0, 1, 2] rfl rfl rfl hl.1 (Nat.le_of_ble_eq_true rfl) d_M_worth_6 ⟨Nat.zero_le _, Nat.zero_le _⟩ ?_
  subst hQ
  exact W.lret hx hb hrt (fun t9 ht hW => ⟨⟨(), rfl, trivial, by rw [ht]; exact hP, hD⟩, hS.F ht⟩) hS.2.2 d_M_worth_9
abbrev c_M_solve : ByteArray := prog_7_method_39_code
def y_M_solve : MethodName := ⟨"EarthHaulsModel", "solve", "()J"⟩
abbrev k_M_solve : Cond := .code y_M_solve c_M_solve 1 (some .long)
theorem kin_M_solve : k_M_solve ∈ ew_t := tb_756
theorem dv_M_solve : eh_dV y_M_solve "EarthHaulsModel" 0 := ⟨rfl, by decide, by decide, by decide +kernel⟩
theorem d_M_solve_0 : decode c_M_solve 0 = .ok (.aload_n 0, 1) := by decide +kernel
theorem d_M_solve_1 : decode c_M_solve 1 = .ok (.iconst 0, 1) := by decide +kernel
theorem d_M_solve_2 : decode c_M_solve 2 = .ok (.putfield 64, 3) := by decide +kernel
theorem d_M_solve_5 : decode c_M_solve 5 = .ok (.aload_n 0, 1) := by decide +kernel
theorem d_M_solve_6 : decode c_M_solve 6 = .ok (.invokevirtual 182, 3) := by decide +kernel
theorem d_M_solve_9 : decode c_M_solve 9 = .ok (.ifCond .eq 10, 3) := by decide +kernel
theorem d_M_solve_12 : decode c_M_solve 12 = .ok (.aload_n 0, 1) := by decide +kernel
theorem d_M_solve_13 : decode c_M_solve 13 = .ok (.invokevirtual 185, 3) := by decide +kernel
theorem d_M_solve_16 : decode c_M_solve 16 = .ok (.goto 6, 3) := by decide +kernel
theorem d_M_solve_19 : decode c_M_solve 19 = .ok (.ldc2_w 189, 3) := by decide +kernel
theorem d_M_solve_22 : decode c_M_solve 22 = .ok (.lreturn, 1) := by decide +kernel
set_option maxHeartbeats 1000000 in
set_option maxRecDepth 100000 in
theorem m_M_solve (l : Launch) (D : va_G) (cI cL cZ : ClassId) (md : Nat → Nat) (co : Int) (n : Nat) (sh ra up lw kn fo : Int) (sc ln cb th pl lo pr la : Nat → Int) (cu cl fu fl : Nat → Nat) (ys yl yp : Nat → Int) (su0 de0 fw0 cs0 G10 G20 BY0 : Nat → Int) (hM : eh_MS n sh ra sc ln cb th pl lo pr la cu cl fu fl ys yl yp) (hkn : kn = 0 ∨ kn = 1 ∧ eh_pf (eh_kc n ra ln cb ys yp) (eh_pA n sh ln cu cl yl (-1)) (eh_pB n ln fu fl yl (-1)) cs0 fw0 fo) : eh_M (S := Int × Int × Int × (Nat → Int) × (Nat → Int) × (Nat → Int) × (Nat → Int) × (Nat → Int) × (Nat → Int) × (Nat → Int)) l y_M_solve k_M_solve 8 208 D classes [(cI, .int), (cL, .long), (cZ, .boolean)] [.ref (md 0)] [((md 0), .inr (5, [.int (eI co), .int (eI ((n : Nat) : Int)), .ref (md 1), .ref (md 2), .ref (md 3), .int (eI sh), .int (eI ra), .ref (md 4), .ref (md 5), .ref (md 6), .ref (md 7), .ref (md 8), .long (eL up), .long (eL lw), .ref (md 9), .ref (md 10), .ref (md 11), .ref (md 12), .ref (md 13), .ref (md 14), .ref (md 15), .int (eI kn), .int (eI fo)])), ((md 1), aI cI 25 sc), ((md 2), aI cI 4 ln), ((md 3), aI cZ 4 cb), ((md 4), aI cZ 3 th), ((md 5), aI cI 3 pl), ((md 6), aI cI 3 lo), ((md 7), aI cI 3 pr), ((md 8), aI cI 30 la), ((md 9), aL cL 7 su0), ((md 10), aL cL 6 de0), ((md 11), aL cL 42 fw0), ((md 12), aI cI 42 cs0), ((md 13), aL cL 13 G10), ((md 14), aL cL 13 G20), ((md 15), aI cI 13 BY0)] (fun u => eh_pf (eh_kc n ra ln cb ys yp) (eh_pA n sh ln cu cl yl (-1)) (eh_pB n ln fu fl yl (-1)) u.2.2.2.2.2.2.1 u.2.2.2.2.2.1 u.1) (fun u => some (.long (eL (if u.1 = 1 then eh_tot u.2.2.2.2.2.1 u.2.2.2.2.2.2.1 else -1)))) (fun u => [((md 0), .inr (5, [.int (eI 0), .int (eI ((n : Nat) : Int)), .ref (md 1), .ref (md 2), .ref (md 3), .int (eI sh), .int (eI ra), .ref (md 4), .ref (md 5), .ref (md 6), .ref (md 7), .ref (md 8), .long (eL u.2.1), .long (eL u.2.2.1), .ref (md 9), .ref (md 10), .ref (md 11), .ref (md 12), .ref (md 13), .ref (md 14), .ref (md 15), .int (eI 1), .int (eI u.1)])), ((md 1), aI cI 25 sc), ((md 2), aI cI 4 ln), ((md 3), aI cZ 4 cb), ((md 4), aI cZ 3 th), ((md 5), aI cI 3 pl), ((md 6), aI cI 3 lo), ((md 7), aI cI 3 pr), ((md 8), aI cI 30 la), ((md 9), aL cL 7 u.2.2.2.1), ((md 10), aL cL 6 u.2.2.2.2.1), ((md 11), aL cL 42 u.2.2.2.2.2.1), ((md 12), aI cI 42 u.2.2.2.2.2.2.1), ((md 13), aL cL 13 u.2.2.2.2.2.2.2.1), ((md 14), aL cL 13 u.2.2.2.2.2.2.2.2.1), ((md 15), aI cI 13 u.2.2.2.2.2.2.2.2.2)]) := by
  intro sz
  refine Met.ofW (cc := c_M_solve) (maxL := 1) (ret := (some .long)) (by decide) rfl ?_
  intro p e s m args below meth c s₁ B hml hv
  obtain ⟨hargs, hsz, hP, hK, hD0, hN⟩ := hv
  have hx := B.exec
  have hb := B.bytes
  have hrt := B.returns
  have hts := atoms_spec (ws := k_M_solve :: ew_t) B.pre
  have htb : ∀ w ∈ ew_t, w.before args s = true := fun w h => hts w (List.mem_cons_of_mem _ h)
  have hown : s.vm.findClass "EarthHaulsModel" = some m.cls := findClass_of_methodNamed B.named
  have hlocks := B.notSynchronized
  have hE : entryFrame m args 1 = entryFrame m ([.ref (md 0)] : List Value).toArray 1 := by rw [hargs]
  rw [hE]
  clear hE hts B hargs
  generalize hRe : (headSpec _ _).room = R
  have hR1 : R.frames = 8 := by rw [← hRe]; rfl
  have hR2 : R.locals = 208 := by rw [← hRe]; rfl
  clear hRe
  generalize hQ : MQ below _ _ s 0 0 _ = Q
  subst hsz
  have hD := hD0.self (sz := s.heap.size)
  generalize hAe : va_A [((md 0), .inr (5, [.int (eI co), .int (eI ((n : Nat) : Int)), .ref (md 1), .ref (md 2), .ref (md 3), .int (eI sh), .int (eI ra), .ref (md 4), .ref (md 5), .ref (md 6), .ref (md 7), .ref (md 8), .long (eL up), .long (eL lw), .ref (md 9), .ref (md 10), .ref (md 11), .ref (md 12), .ref (md 13), .ref (md 14), .ref (md 15), .int (eI kn), .int (eI fo)])), ((md 1), aI cI 25 sc), ((md 2), aI cI 4 ln), ((md 3), aI cZ 4 cb), ((md 4), aI cZ 3 th), ((md 5), aI cI 3 pl), ((md 6), aI cI 3 lo), ((md 7), aI cI 3 pr), ((md 8), aI cI 30 la), ((md 9), aL cL 7 su0), ((md 10), aL cL 6 de0), ((md 11), aL cL 42 fw0), ((md 12), aI cI 42 cs0), ((md 13), aL cL 13 G10), ((md 14), aL cL 13 G20), ((md 15), aI cI 13 BY0)] s.heap.size = A at hD hQ
  have hA : ∀ q : Nat, s.heap.size ≤ q → A q := fun q h => by rw [← hAe]; exact Or.inr h
  have hS : va_S A s.heap s.heap [] := va_S.rf
  have hP : va_P D classes [((md 0), .inr (5, [.int (eI co), .int (eI ((n : Nat) : Int)), .ref (md 1), .ref (md 2), .ref (md 3), .int (eI sh), .int (eI ra), .ref (md 4), .ref (md 5), .ref (md 6), .ref (md 7), .ref (md 8), .long (eL up), .long (eL lw), .ref (md 9), .ref (md 10), .ref (md 11), .ref (md 12), .ref (md 13), .ref (md 14), .ref (md 15), .int (eI kn), .int (eI fo)])), ((md 1), aI cI 25 sc), ((md 2), aI cI 4 ln), ((md 3), aI cZ 4 cb), ((md 4), aI cZ 3 th), ((md 5), aI cI 3 pl), ((md 6), aI cI 3 lo), ((md 7), aI cI 3 pr), ((md 8), aI cI 30 la), ((md 9), aL cL 7 su0), ((md 10), aL cL 6 de0), ((md 11), aL cL 42 fw0), ((md 12), aI cI 42 cs0), ((md 13), aL cL 13 G10), ((md 14), aL cL 13 G20), ((md 15), aI cI 13 BY0)] s.heap := hP
  have hl := lv_entry ([.ref (md 0)]) (n := 1) (Nat.le_of_ble_eq_true rfl)
  rw [lg_entry_eq]
  generalize (lg_sl ([.ref (md 0)]) ++ List.replicate (1 - (lg_sl ([.ref (md 0)])).length) Slot.unset).toArray = ls at hl ⊢
  have hl : lv_has ls 1 [(0, .ref (md 0))] := hl
  refine lv_aload_n hx hb d_M_solve_0 rfl (lv_at hl 0 rfl) ?_
  refine lv_iconst (v := eI 0) hx hb d_M_solve_1 rfl ?_
  refine va_put (D := D) (ci := 5) (v := .int (eI 0)) (ty := .int) (C := R_M) (T := T_M) (N := 23) hx hb htb in_M t_M t_M_ok n_M hown hK hP hD hS 0 rfl rfl 0 (by decide) (htb _ tb_588) (fun _ h9 => h9) rfl (by decide +kernel) rfl rfl (Nat.le_of_ble_eq_true rfl) d_M_solve_2 (fun H locs hP hD hS => ?_)
  have hP : va_P D classes [((md 0), .inr (5, [.int (eI 0), .int (eI ((n : Nat) : Int)), .ref (md 1), .ref (md 2), .ref (md 3), .int (eI sh), .int (eI ra), .ref (md 4), .ref (md 5), .ref (md 6), .ref (md 7), .ref (md 8), .long (eL up), .long (eL lw), .ref (md 9), .ref (md 10), .ref (md 11), .ref (md 12), .ref (md 13), .ref (md 14), .ref (md 15), .int (eI kn), .int (eI fo)])), ((md 1), aI cI 25 sc), ((md 2), aI cI 4 ln), ((md 3), aI cZ 4 cb), ((md 4), aI cZ 3 th), ((md 5), aI cI 3 pl), ((md 6), aI cI 3 lo), ((md 7), aI cI 3 pr), ((md 8), aI cI 30 la), ((md 9), aL cL 7 su0), ((md 10), aL cL 6 de0), ((md 11), aL cL 42 fw0), ((md 12), aI cI 42 cs0), ((md 13), aL cL 13 G10), ((md 14), aL cL 13 G20), ((md 15), aI cI 13 BY0)] H := hP
  have hD : va_D A [((md 0), .inr (5, [.int (eI 0), .int (eI ((n : Nat) : Int)), .ref (md 1), .ref (md 2), .ref (md 3), .int (eI sh), .int (eI ra), .ref (md 4), .ref (md 5), .ref (md 6), .ref (md 7), .ref (md 8), .long (eL up), .long (eL lw), .ref (md 9), .ref (md 10), .ref (md 11), .ref (md 12), .ref (md 13), .ref (md 14), .ref (md 15), .int (eI kn), .int (eI fo)])), ((md 1), aI cI 25 sc), ((md 2), aI cI 4 ln), ((md 3), aI cZ 4 cb), ((md 4), aI cZ 3 th), ((md 5), aI cI 3 pl), ((md 6), aI cI 3 lo), ((md 7), aI cI 3 pr), ((md 8), aI cI 30 la), ((md 9), aL cL 7 su0), ((md 10), aL cL 6 de0), ((md 11), aL cL 42 fw0), ((md 12), aI cI 42 cs0), ((md 13), aL cL 13 G10), ((md 14), aL cL 13 G20), ((md 15), aI cI 13 BY0)] := hD
  refine lv_aload_n hx hb d_M_solve_5 rfl (lv_at hl 0 rfl) ?_
  refine eh_cMV (As := []) (rest := []) (q := (R_M, T_M, 23)) (wr := []) hx hb hml hown htb hN (m_M_planNow l D cI cL cZ md 0 n sh ra up lw kn fo sc ln cb th pl lo pr la cu cl fu fl ys yl yp su0 de0 fw0 cs0 G10 G20 BY0 hM hkn) 0 ⟨tb_757, tb_759, ts_37, tb_7, kin_M_planNow⟩ dv_M_planNow ⟨by rw [hR1]; decide, by rw [hR2]; decide⟩ hK hP hD hS hA 0 rfl rfl [0, 1, 2, 3, 4, 5, 6, 7, 8, 9, 10, 11, 12, 13, 14, 15] [] rfl rfl (by decide) rfl (by decide) (by decide) [0, 1, 2] rfl rfl rfl hl.1 (Nat.le_of_ble_eq_true rfl) d_M_solve_6 ⟨Nat.zero_le _, Nat.zero_le _⟩ (fun u H locs hu hP hD hS => ?_)
  obtain ⟨rv, up9, lw9, su, de, fw, cs, G1, G2, BY⟩ := u
  have hu : eh_pf (eh_kc n ra ln cb ys yp) (eh_pA n sh ln cu cl yl (-1)) (eh_pB n ln fu fl yl (-1)) cs fw rv := hu
  have hrv : rv = 1 ∨ rv = 0 := by rcases hu.2 with w | w; exact Or.inl w.1; exact Or.inr w.1
  have hcs2 := eh_rc_b (fun k hk => by have := eh_ku_b hM.1 (s := k / 5) (t := k % 5) (by omega) (by omega); exact this) hu.1
  have hP := hP.sub (ws' := [((md 0), .inr (5, [.int (eI 0), .int (eI ((n : Nat) : Int)), .ref (md 1), .ref (md 2), .ref (md 3), .int (eI sh), .int (eI ra), .ref (md 4), .ref (md 5), .ref (md 6), .ref (md 7), .ref (md 8), .long (eL up9), .long (eL lw9), .ref (md 9), .ref (md 10), .ref (md 11), .ref (md 12), .ref (md 13), .ref (md 14), .ref (md 15), .int (eI 1), .int (eI rv)])), ((md 1), aI cI 25 sc), ((md 2), aI cI 4 ln), ((md 3), aI cZ 4 cb), ((md 4), aI cZ 3 th), ((md 5), aI cI 3 pl), ((md 6), aI cI 3 lo), ((md 7), aI cI 3 pr), ((md 8), aI cI 30 la), ((md 9), aL cL 7 su), ((md 10), aL cL 6 de), ((md 11), aL cL 42 fw), ((md 12), aI cI 42 cs), ((md 13), aL cL 13 G1), ((md 14), aL cL 13 G2), ((md 15), aI cI 13 BY)]) [0, 1, 2, 3, 4, 5, 6, 7, 8, 9, 10, 11, 12, 13, 14, 15] rfl
  have hD := hD.sub (ws' := [((md 0), .inr (5, [.int (eI 0), .int (eI ((n : Nat) : Int)), .ref (md 1), .ref (md 2), .ref (md 3), .int (eI sh), .int (eI ra), .ref (md 4), .ref (md 5), .ref (md 6), .ref (md 7), .ref (md 8), .long (eL up9), .long (eL lw9), .ref (md 9), .ref (md 10), .ref (md 11), .ref (md 12), .ref (md 13), .ref (md 14), .ref (md 15), .int (eI 1), .int (eI rv)])), ((md 1), aI cI 25 sc), ((md 2), aI cI 4 ln), ((md 3), aI cZ 4 cb), ((md 4), aI cZ 3 th), ((md 5), aI cI 3 pl), ((md 6), aI cI 3 lo), ((md 7), aI cI 3 pr), ((md 8), aI cI 30 la), ((md 9), aL cL 7 su), ((md 10), aL cL 6 de), ((md 11), aL cL 42 fw), ((md 12), aI cI 42 cs), ((md 13), aL cL 13 G1), ((md 14), aL cL 13 G2), ((md 15), aI cI 13 BY)]) [0, 1, 2, 3, 4, 5, 6, 7, 8, 9, 10, 11, 12, 13, 14, 15] (by decide) rfl
  refine we_if_eq (tgt := 19) hx hb (by constructor <;> omega) d_M_solve_9 rfl (fun hc9 => ?_) (fun hc9 => ?_)
  ·
    refine we_ldc2 (a := (-1)) hx hb hown (htb _ tb_811) (by decide) d_M_solve_19 ?_
    have hres : ((-1) : Int) = (if rv = 1 then eh_tot fw cs else -1) := by rw [if_neg (by omega)]
    rw [hres]
    subst hQ
    exact W.lret hx hb hrt (fun t9 ht hW => ⟨⟨(rv, up9, lw9, su, de, fw, cs, G1, G2, BY), rfl, hu, by rw [ht]; exact hP, hD⟩, hS.F ht⟩) hS.2.2 d_M_solve_22
  ·
    refine lv_aload_n hx hb d_M_solve_12 rfl (lv_at hl 0 rfl) ?_
    refine eh_cRV (As := []) (rest := []) (v := .long (eL (eh_tot fw cs))) (q := (R_M, T_M, 23)) hx hb hml hown htb hN (r_M_total l D cI cL cZ md 0 n sh ra up9 lw9 1 rv fw cs hcs2) 0 ⟨tb_807, tb_809, ts_49, tb_7, kin_M_total⟩ dv_M_total ⟨by rw [hR1]; decide, by rw [hR2]; decide⟩ hK hP 0 rfl rfl [0, 11, 12] rfl [0, 1, 2] rfl rfl rfl hl.1 (Nat.le_of_ble_eq_true rfl) d_M_solve_13 ⟨Nat.zero_le _, Nat.zero_le _⟩ ?_
    refine lv_goto (tgt := 22) hx hb d_M_solve_16 rfl ?_
    have hres : ((eh_tot fw cs) : Int) = (if rv = 1 then eh_tot fw cs else -1) := by rw [if_pos (by omega)]
    rw [hres]
    subst hQ
    exact W.lret hx hb hrt (fun t9 ht hW => ⟨⟨(rv, up9, lw9, su, de, fw, cs, G1, G2, BY), rfl, hu, by rw [ht]; exact hP, hD⟩, hS.F ht⟩) hS.2.2 d_M_solve_22
abbrev c_M_cost : ByteArray := prog_7_method_27_code
def y_M_cost : MethodName := ⟨"EarthHaulsModel", "cost", "(II)I"⟩
abbrev k_M_cost : Cond := .code y_M_cost c_M_cost 3 (some .int)
theorem kin_M_cost : k_M_cost ∈ ew_t := tb_737
theorem dv_M_cost : eh_dV y_M_cost "EarthHaulsModel" 2 := ⟨rfl, by decide, by decide, by decide +kernel⟩
theorem d_M_cost_0 : decode c_M_cost 0 = .ok (.aload_n 0, 1) := by decide +kernel
theorem d_M_cost_1 : decode c_M_cost 1 = .ok (.iload_n 1, 1) := by decide +kernel
theorem d_M_cost_2 : decode c_M_cost 2 = .ok (.iload_n 2, 1) := by decide +kernel
theorem d_M_cost_3 : decode c_M_cost 3 = .ok (.invokestatic 129, 3) := by decide +kernel
theorem d_M_cost_6 : decode c_M_cost 6 = .ok (.ifCond .eq 7, 3) := by decide +kernel
theorem d_M_cost_9 : decode c_M_cost 9 = .ok (.iconst 1, 1) := by decide +kernel
theorem d_M_cost_10 : decode c_M_cost 10 = .ok (.goto 4, 3) := by decide +kernel
theorem d_M_cost_13 : decode c_M_cost 13 = .ok (.iconst 0, 1) := by decide +kernel
theorem d_M_cost_14 : decode c_M_cost 14 = .ok (.putfield 64, 3) := by decide +kernel
theorem d_M_cost_17 : decode c_M_cost 17 = .ok (.aload_n 0, 1) := by decide +kernel
theorem d_M_cost_18 : decode c_M_cost 18 = .ok (.getfield 64, 3) := by decide +kernel
theorem d_M_cost_21 : decode c_M_cost 21 = .ok (.ifCond .le 7, 3) := by decide +kernel
theorem d_M_cost_24 : decode c_M_cost 24 = .ok (.iconst 0, 1) := by decide +kernel
theorem d_M_cost_25 : decode c_M_cost 25 = .ok (.goto 9, 3) := by decide +kernel
theorem d_M_cost_28 : decode c_M_cost 28 = .ok (.aload_n 0, 1) := by decide +kernel
theorem d_M_cost_29 : decode c_M_cost 29 = .ok (.iload_n 1, 1) := by decide +kernel
theorem d_M_cost_30 : decode c_M_cost 30 = .ok (.iload_n 2, 1) := by decide +kernel
theorem d_M_cost_31 : decode c_M_cost 31 = .ok (.invokevirtual 133, 3) := by decide +kernel
theorem d_M_cost_34 : decode c_M_cost 34 = .ok (.ireturn, 1) := by decide +kernel
set_option maxHeartbeats 1000000 in
set_option maxRecDepth 100000 in
theorem m_M_cost (l : Launch) (D : va_G) (cI cL cZ : ClassId) (md : Nat → Nat) (co : Int) (n : Nat) (sh ra up lw kn fo : Int) (sc ln cb th pl lo pr la : Nat → Int) (cu cl fu fl : Nat → Nat) (ys yl yp : Nat → Int) (y z : Int) (hy : -2147483648 ≤ y ∧ y < 2147483648) (hz : -2147483648 ≤ z ∧ z < 2147483648) (hM : eh_MS n sh ra sc ln cb th pl lo pr la cu cl fu fl ys yl yp) : eh_M (S := Int) l y_M_cost k_M_cost 3 70 D classes [(cI, .int), (cL, .long), (cZ, .boolean)] [.ref (md 0), .int (eI y), .int (eI z)] [((md 0), .inr (5, [.int (eI co), .int (eI ((n : Nat) : Int)), .ref (md 1), .ref (md 2), .ref (md 3), .int (eI sh), .int (eI ra), .ref (md 4), .ref (md 5), .ref (md 6), .ref (md 7), .ref (md 8), .long (eL up), .long (eL lw), .ref (md 9), .ref (md 10), .ref (md 11), .ref (md 12), .ref (md 13), .ref (md 14), .ref (md 15), .int (eI kn), .int (eI fo)])), ((md 1), aI cI 25 sc), ((md 2), aI cI 4 ln), ((md 3), aI cZ 4 cb), ((md 4), aI cZ 3 th), ((md 5), aI cI 3 pl), ((md 6), aI cI 3 lo), ((md 7), aI cI 3 pr), ((md 8), aI cI 30 la)] (fun u => u = if (y < 0 ∨ 5 < y ∨ z < 0 ∨ 4 < z) then 1 else 0) (fun _ => some (.int (eI (if (y < 0 ∨ 5 < y ∨ z < 0 ∨ 4 < z) then 0 else (eh_ku n ra ln cb ys yp y.toNat z.toNat))))) (fun u => [((md 0), .inr (5, [.int (eI u), .int (eI ((n : Nat) : Int)), .ref (md 1), .ref (md 2), .ref (md 3), .int (eI sh), .int (eI ra), .ref (md 4), .ref (md 5), .ref (md 6), .ref (md 7), .ref (md 8), .long (eL up), .long (eL lw), .ref (md 9), .ref (md 10), .ref (md 11), .ref (md 12), .ref (md 13), .ref (md 14), .ref (md 15), .int (eI kn), .int (eI fo)])), ((md 1), aI cI 25 sc), ((md 2), aI cI 4 ln), ((md 3), aI cZ 4 cb), ((md 4), aI cZ 3 th), ((md 5), aI cI 3 pl), ((md 6), aI cI 3 lo), ((md 7), aI cI 3 pr), ((md 8), aI cI 30 la)]) := by
  intro sz
  refine Met.ofW (cc := c_M_cost) (maxL := 3) (ret := (some .int)) (by decide) rfl ?_
  intro p e s m args below meth c s₁ B hml hv
  obtain ⟨hargs, hsz, hP, hK, hD0, hN⟩ := hv
  have hx := B.exec
  have hb := B.bytes
  have hrt := B.returns
  have hts := atoms_spec (ws := k_M_cost :: ew_t) B.pre
  have htb : ∀ w ∈ ew_t, w.before args s = true := fun w h => hts w (List.mem_cons_of_mem _ h)
  have hown : s.vm.findClass "EarthHaulsModel" = some m.cls := findClass_of_methodNamed B.named
  have hlocks := B.notSynchronized
  have hE : entryFrame m args 3 = entryFrame m ([.ref (md 0), .int (eI y), .int (eI z)] : List Value).toArray 3 := by rw [hargs]
  rw [hE]
  clear hE hts B hargs
  generalize hRe : (headSpec _ _).room = R
  have hR1 : R.frames = 3 := by rw [← hRe]; rfl
  have hR2 : R.locals = 70 := by rw [← hRe]; rfl
  clear hRe
  generalize hQ : MQ below _ _ s 0 0 _ = Q
  subst hsz
  have hD := hD0.self (sz := s.heap.size)
  generalize hAe : va_A [((md 0), .inr (5, [.int (eI co), .int (eI ((n : Nat) : Int)), .ref (md 1), .ref (md 2), .ref (md 3), .int (eI sh), .int (eI ra), .ref (md 4), .ref (md 5), .ref (md 6), .ref (md 7), .ref (md 8), .long (eL up), .long (eL lw), .ref (md 9), .ref (md 10), .ref (md 11), .ref (md 12), .ref (md 13), .ref (md 14), .ref (md 15), .int (eI kn), .int (eI fo)])), ((md 1), aI cI 25 sc), ((md 2), aI cI 4 ln), ((md 3), aI cZ 4 cb), ((md 4), aI cZ 3 th), ((md 5), aI cI 3 pl), ((md 6), aI cI 3 lo), ((md 7), aI cI 3 pr), ((md 8), aI cI 30 la)] s.heap.size = A at hD hQ
  have hA : ∀ q : Nat, s.heap.size ≤ q → A q := fun q h => by rw [← hAe]; exact Or.inr h
  have hS : va_S A s.heap s.heap [] := va_S.rf
  have hP : va_P D classes [((md 0), .inr (5, [.int (eI co), .int (eI ((n : Nat) : Int)), .ref (md 1), .ref (md 2), .ref (md 3), .int (eI sh), .int (eI ra), .ref (md 4), .ref (md 5), .ref (md 6), .ref (md 7), .ref (md 8), .long (eL up), .long (eL lw), .ref (md 9), .ref (md 10), .ref (md 11), .ref (md 12), .ref (md 13), .ref (md 14), .ref (md 15), .int (eI kn), .int (eI fo)])), ((md 1), aI cI 25 sc), ((md 2), aI cI 4 ln), ((md 3), aI cZ 4 cb), ((md 4), aI cZ 3 th), ((md 5), aI cI 3 pl), ((md 6), aI cI 3 lo), ((md 7), aI cI 3 pr), ((md 8), aI cI 30 la)] s.heap := hP
  have hl := lv_entry ([.ref (md 0), .int (eI y), .int (eI z)]) (n := 3) (Nat.le_of_ble_eq_true rfl)
  rw [lg_entry_eq]
  generalize (lg_sl ([.ref (md 0), .int (eI y), .int (eI z)]) ++ List.replicate (3 - (lg_sl ([.ref (md 0), .int (eI y), .int (eI z)])).length) Slot.unset).toArray = ls at hl ⊢
  have hl : lv_has ls 3 [(0, .ref (md 0)), (1, .int (eI y)), (2, .int (eI z))] := hl
  by_cases hbad : (y < 0 ∨ 5 < y ∨ z < 0 ∨ 4 < z)
  ·
    refine lv_aload_n hx hb d_M_cost_0 rfl (lv_at hl 0 rfl) ?_
    refine lv_iload_n hx hb d_M_cost_1 rfl (lv_at hl 1 rfl) ?_
    refine lv_iload_n hx hb d_M_cost_2 rfl (lv_at hl 2 rfl) ?_
    refine eh_cRS (As := [.int (eI y), .int (eI z)]) (rest := [.ref (md 0)]) (v := .int (eI (if (y < 0 ∨ 5 < y ∨ z < 0 ∨ 4 < z) then 1 else 0))) hx hb hml hown htb hN (r_M_noHaul l D y z hy hz) 2 ⟨tb_738, tb_739, tb_7, kin_M_noHaul⟩ dv_M_noHaul ⟨by rw [hR1]; decide, by rw [hR2]; decide⟩ hK hP [] rfl [] rfl rfl rfl hl.1 (Nat.le_of_ble_eq_true rfl) d_M_cost_3 ⟨Nat.zero_le _, Nat.zero_le _⟩ ?_
    refine we_if_eq (tgt := 13) hx hb (by rw [if_pos hbad]; constructor <;> omega) d_M_cost_6 rfl (fun hc6 => absurd hc6 (by rw [if_pos hbad]; omega)) (fun hc6 => ?_)
    refine lv_iconst (v := eI 1) hx hb d_M_cost_9 rfl ?_
    refine lv_goto (tgt := 14) hx hb d_M_cost_10 rfl ?_
    refine va_put (D := D) (ci := 5) (v := .int (eI 1)) (ty := .int) (C := R_M) (T := T_M) (N := 23) hx hb htb in_M t_M t_M_ok n_M hown hK hP hD hS 0 rfl rfl 0 (by decide) (htb _ tb_588) (fun _ h9 => h9) rfl (by decide +kernel) rfl rfl (Nat.le_of_ble_eq_true rfl) d_M_cost_14 (fun H locs hP hD hS => ?_)
    have hP : va_P D classes [((md 0), .inr (5, [.int (eI 1), .int (eI ((n : Nat) : Int)), .ref (md 1), .ref (md 2), .ref (md 3), .int (eI sh), .int (eI ra), .ref (md 4), .ref (md 5), .ref (md 6), .ref (md 7), .ref (md 8), .long (eL up), .long (eL lw), .ref (md 9), .ref (md 10), .ref (md 11), .ref (md 12), .ref (md 13), .ref (md 14), .ref (md 15), .int (eI kn), .int (eI fo)])), ((md 1), aI cI 25 sc), ((md 2), aI cI 4 ln), ((md 3), aI cZ 4 cb), ((md 4), aI cZ 3 th), ((md 5), aI cI 3 pl), ((md 6), aI cI 3 lo), ((md 7), aI cI 3 pr), ((md 8), aI cI 30 la)] H := hP
    have hD : va_D A [((md 0), .inr (5, [.int (eI 1), .int (eI ((n : Nat) : Int)), .ref (md 1), .ref (md 2), .ref (md 3), .int (eI sh), .int (eI ra), .ref (md 4), .ref (md 5), .ref (md 6), .ref (md 7), .ref (md 8), .long (eL up), .long (eL lw), .ref (md 9), .ref (md 10), .ref (md 11), .ref (md 12), .ref (md 13), .ref (md 14), .ref (md 15), .int (eI kn), .int (eI fo)])), ((md 1), aI cI 25 sc), ((md 2), aI cI 4 ln), ((md 3), aI cZ 4 cb), ((md 4), aI cZ 3 th), ((md 5), aI cI 3 pl), ((md 6), aI cI 3 lo), ((md 7), aI cI 3 pr), ((md 8), aI cI 30 la)] := hD
    refine lv_aload_n hx hb d_M_cost_17 rfl (lv_at hl 0 rfl) ?_
    refine va_get (D := D) (ci := 5) (v := .int (eI 1)) (C := R_M) (T := T_M) (N := 23) hx hb htb in_M hown hK hP 0 rfl rfl 0 (by decide) (htb _ tb_588) (fun _ h9 => h9) rfl d_M_cost_18 ?_
    refine we_if_le (tgt := 28) hx hb (by constructor <;> omega) d_M_cost_21 rfl (fun hc21 => absurd hc21 (by omega)) (fun hc21 => ?_)
    refine lv_iconst (v := eI 0) hx hb d_M_cost_24 rfl ?_
    refine lv_goto (tgt := 34) hx hb d_M_cost_25 rfl ?_
    have hres : (0 : Int) = (if (y < 0 ∨ 5 < y ∨ z < 0 ∨ 4 < z) then 0 else (eh_ku n ra ln cb ys yp y.toNat z.toNat)) := by rw [if_pos hbad]
    rw [hres]
    subst hQ
    exact W.iret hx hb hrt (fun t9 ht hW => ⟨⟨(1 : Int), rfl, by rw [if_pos hbad], by rw [ht]; exact hP, hD⟩, hS.F ht⟩) hS.2.2 d_M_cost_34
  ·
    refine lv_aload_n hx hb d_M_cost_0 rfl (lv_at hl 0 rfl) ?_
    refine lv_iload_n hx hb d_M_cost_1 rfl (lv_at hl 1 rfl) ?_
    refine lv_iload_n hx hb d_M_cost_2 rfl (lv_at hl 2 rfl) ?_
    refine eh_cRS (As := [.int (eI y), .int (eI z)]) (rest := [.ref (md 0)]) (v := .int (eI (if (y < 0 ∨ 5 < y ∨ z < 0 ∨ 4 < z) then 1 else 0))) hx hb hml hown htb hN (r_M_noHaul l D y z hy hz) 2 ⟨tb_738, tb_739, tb_7, kin_M_noHaul⟩ dv_M_noHaul ⟨by rw [hR1]; decide, by rw [hR2]; decide⟩ hK hP [] rfl [] rfl rfl rfl hl.1 (Nat.le_of_ble_eq_true rfl) d_M_cost_3 ⟨Nat.zero_le _, Nat.zero_le _⟩ ?_
    refine we_if_eq (tgt := 13) hx hb (by rw [if_neg hbad]; constructor <;> omega) d_M_cost_6 rfl (fun hc6 => ?_) (fun hc6 => absurd hc6 (by rw [if_neg hbad]; omega))
    refine lv_iconst (v := eI 0) hx hb d_M_cost_13 rfl ?_
    refine va_put (D := D) (ci := 5) (v := .int (eI 0)) (ty := .int) (C := R_M) (T := T_M) (N := 23) hx hb htb in_M t_M t_M_ok n_M hown hK hP hD hS 0 rfl rfl 0 (by decide) (htb _ tb_588) (fun _ h9 => h9) rfl (by decide +kernel) rfl rfl (Nat.le_of_ble_eq_true rfl) d_M_cost_14 (fun H locs hP hD hS => ?_)
    have hP : va_P D classes [((md 0), .inr (5, [.int (eI 0), .int (eI ((n : Nat) : Int)), .ref (md 1), .ref (md 2), .ref (md 3), .int (eI sh), .int (eI ra), .ref (md 4), .ref (md 5), .ref (md 6), .ref (md 7), .ref (md 8), .long (eL up), .long (eL lw), .ref (md 9), .ref (md 10), .ref (md 11), .ref (md 12), .ref (md 13), .ref (md 14), .ref (md 15), .int (eI kn), .int (eI fo)])), ((md 1), aI cI 25 sc), ((md 2), aI cI 4 ln), ((md 3), aI cZ 4 cb), ((md 4), aI cZ 3 th), ((md 5), aI cI 3 pl), ((md 6), aI cI 3 lo), ((md 7), aI cI 3 pr), ((md 8), aI cI 30 la)] H := hP
    have hD : va_D A [((md 0), .inr (5, [.int (eI 0), .int (eI ((n : Nat) : Int)), .ref (md 1), .ref (md 2), .ref (md 3), .int (eI sh), .int (eI ra), .ref (md 4), .ref (md 5), .ref (md 6), .ref (md 7), .ref (md 8), .long (eL up), .long (eL lw), .ref (md 9), .ref (md 10), .ref (md 11), .ref (md 12), .ref (md 13), .ref (md 14), .ref (md 15), .int (eI kn), .int (eI fo)])), ((md 1), aI cI 25 sc), ((md 2), aI cI 4 ln), ((md 3), aI cZ 4 cb), ((md 4), aI cZ 3 th), ((md 5), aI cI 3 pl), ((md 6), aI cI 3 lo), ((md 7), aI cI 3 pr), ((md 8), aI cI 30 la)] := hD
    refine lv_aload_n hx hb d_M_cost_17 rfl (lv_at hl 0 rfl) ?_
    refine va_get (D := D) (ci := 5) (v := .int (eI 0)) (C := R_M) (T := T_M) (N := 23) hx hb htb in_M hown hK hP 0 rfl rfl 0 (by decide) (htb _ tb_588) (fun _ h9 => h9) rfl d_M_cost_18 ?_
    refine we_if_le (tgt := 28) hx hb (by constructor <;> omega) d_M_cost_21 rfl (fun hc21 => ?_) (fun hc21 => absurd hc21 (by omega))
    refine lv_aload_n hx hb d_M_cost_28 rfl (lv_at hl 0 rfl) ?_
    refine lv_iload_n hx hb d_M_cost_29 rfl (lv_at hl 1 rfl) ?_
    refine lv_iload_n hx hb d_M_cost_30 rfl (lv_at hl 2 rfl) ?_
    refine eh_cRV (As := [.int (eI y), .int (eI z)]) (rest := []) (v := .int (eI (eh_ku n ra ln cb ys yp y.toNat z.toNat))) (q := (R_M, T_M, 23)) hx hb hml hown htb hN (by have z9 := r_M_costOf l D cI cL cZ md 0 n sh ra up lw kn fo sc ln cb th pl lo pr la cu cl fu fl ys yl yp y.toNat z.toNat (by omega) (by omega) hM; rw [show ((y.toNat : Nat) : Int) = y by omega, show ((z.toNat : Nat) : Int) = z by omega] at z9; exact z9) 2 ⟨tb_741, tb_743, ts_34, tb_7, kin_M_costOf⟩ dv_M_costOf ⟨by rw [hR1]; decide, by rw [hR2]; decide⟩ hK hP 0 rfl rfl [0, 1, 2, 3, 4, 5, 6, 7, 8] rfl [0, 1, 2] rfl rfl rfl hl.1 (Nat.le_of_ble_eq_true rfl) d_M_cost_31 ⟨Nat.zero_le _, Nat.zero_le _⟩ ?_
    have hres : ((eh_ku n ra ln cb ys yp y.toNat z.toNat) : Int) = (if (y < 0 ∨ 5 < y ∨ z < 0 ∨ 4 < z) then 0 else (eh_ku n ra ln cb ys yp y.toNat z.toNat)) := by rw [if_neg hbad]
    rw [hres]
    subst hQ
    exact W.iret hx hb hrt (fun t9 ht hW => ⟨⟨(0 : Int), rfl, by rw [if_neg hbad], by rw [ht]; exact hP, hD⟩, hS.F ht⟩) hS.2.2 d_M_cost_34
