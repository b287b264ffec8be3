abbrev c_M_divisor : ByteArray := prog_7_method_3_code
def y_M_divisor : MethodName := ⟨"EarthHaulsModel", "divisor", "(JJ)J"⟩
abbrev k_M_divisor : Cond := .code y_M_divisor c_M_divisor 10 (some .long)
theorem kin_M_divisor : k_M_divisor ∈ ew_t := tb_706
theorem dv_M_divisor : eh_dS y_M_divisor 2 := ⟨by decide, by decide, by decide +kernel⟩
theorem d_M_divisor_0 : decode c_M_divisor 0 = .ok (.lload_n 0, 1) := by decide +kernel
theorem d_M_divisor_1 : decode c_M_divisor 1 = .ok (.lstore 4, 2) := by decide +kernel
theorem d_M_divisor_3 : decode c_M_divisor 3 = .ok (.lload_n 2, 1) := by decide +kernel
theorem d_M_divisor_4 : decode c_M_divisor 4 = .ok (.lstore 6, 2) := by decide +kernel
theorem d_M_divisor_6 : decode c_M_divisor 6 = .ok (.lload 6, 2) := by decide +kernel
theorem d_M_divisor_8 : decode c_M_divisor 8 = .ok (.lconst 0, 1) := by decide +kernel
theorem d_M_divisor_9 : decode c_M_divisor 9 = .ok (.lcmp, 1) := by decide +kernel
theorem d_M_divisor_10 : decode c_M_divisor 10 = .ok (.ifCond .le 21, 3) := by decide +kernel
theorem d_M_divisor_13 : decode c_M_divisor 13 = .ok (.lload 4, 2) := by decide +kernel
theorem d_M_divisor_15 : decode c_M_divisor 15 = .ok (.lload 6, 2) := by decide +kernel
theorem d_M_divisor_17 : decode c_M_divisor 17 = .ok (.lrem, 1) := by decide +kernel
theorem d_M_divisor_18 : decode c_M_divisor 18 = .ok (.lstore 8, 2) := by decide +kernel
theorem d_M_divisor_20 : decode c_M_divisor 20 = .ok (.lload 6, 2) := by decide +kernel
theorem d_M_divisor_22 : decode c_M_divisor 22 = .ok (.lstore 4, 2) := by decide +kernel
theorem d_M_divisor_24 : decode c_M_divisor 24 = .ok (.lload 8, 2) := by decide +kernel
theorem d_M_divisor_26 : decode c_M_divisor 26 = .ok (.lstore 6, 2) := by decide +kernel
theorem d_M_divisor_28 : decode c_M_divisor 28 = .ok (.goto (-22), 3) := by decide +kernel
theorem d_M_divisor_31 : decode c_M_divisor 31 = .ok (.lload 4, 2) := by decide +kernel
theorem d_M_divisor_33 : decode c_M_divisor 33 = .ok (.lreturn, 1) := by decide +kernel
set_option maxHeartbeats 1000000 in
set_option maxRecDepth 100000 in
theorem r_M_divisor (l : Launch) (D : va_G) (a b : Nat) (ha62 : a < 4611686018427387904) (hb62 : b < 4611686018427387904) : eh_R l y_M_divisor k_M_divisor 0 0 D classes [] [.long (eL (a : Int)), .long (eL (b : Int))] [] (.long (eL ((Nat.gcd a b : Nat) : Int))) := by
  refine Met.ofW (cc := c_M_divisor) (maxL := 10) (ret := (some .long)) (by decide) rfl ?_
  intro p e s m args below meth c s₁ B hml hv
  obtain ⟨hargs, hP, hK, hN⟩ := hv
  have hx := B.exec
  have hb := B.bytes
  have hrt := B.returns
  have hts := atoms_spec (ws := k_M_divisor :: ew_t) B.pre
  have htb : ∀ w ∈ ew_t, w.before args s = true := fun w h => hts w (List.mem_cons_of_mem _ h)
  have hown : s.vm.findClass "EarthHaulsModel" = some m.cls := findClass_of_methodNamed B.named
  have hlocks := B.notSynchronized
  have hE : entryFrame m args 10 = entryFrame m ([.long (eL (a : Int)), .long (eL (b : Int))] : List Value).toArray 10 := by rw [hargs]
  rw [hE]
  clear hE hts B hargs
  generalize hRe : (headSpec _ _).room = R
  have hR1 : R.frames = 0 := by rw [← hRe]; rfl
  have hR2 : R.locals = 0 := by rw [← hRe]; rfl
  clear hRe
  generalize hQ : MQ below _ _ s 0 0 _ = Q
  have hP : va_P D classes [] s.heap := hP
  have hl := lv_entry ([.long (eL (a : Int)), .long (eL (b : Int))]) (n := 10) (Nat.le_of_ble_eq_true rfl)
  rw [lg_entry_eq]
  generalize (lg_sl ([.long (eL (a : Int)), .long (eL (b : Int))]) ++ List.replicate (10 - (lg_sl ([.long (eL (a : Int)), .long (eL (b : Int))])).length) Slot.unset).toArray = ls at hl ⊢
  have hl : lv_has ls 10 [(0, .long (eL (a : Int))), (2, .long (eL (b : Int)))] := hl
  refine lv_lload_n hx hb d_M_divisor_0 rfl (lv_at hl 0 rfl) ?_
  refine lv_lstore hx hb d_M_divisor_1 hl (by decide) rfl (fun ls hl => ?_)
  have hl : lv_has ls 10 [(4, .long (eL (a : Int))), (0, .long (eL (a : Int))), (2, .long (eL (b : Int)))] := hl
  refine lv_lload_n hx hb d_M_divisor_3 rfl (lv_at hl 2 rfl) ?_
  refine lv_lstore hx hb d_M_divisor_4 hl (by decide) rfl (fun ls hl => ?_)
  have hl : lv_has ls 10 [(6, .long (eL (b : Int))), (4, .long (eL (a : Int))), (0, .long (eL (a : Int))), (2, .long (eL (b : Int)))] := hl
  have loop : ∀ (q i aa bb : Nat) (ls : Array Slot), 125 - i = q → aa < 4611686018427387904 → bb < 4611686018427387904 → eh_eu (Nat.gcd a b) i aa bb → lv_has ls 10 [(6, .long (eL ((bb : Nat) : Int))), (4, .long (eL ((aa : Nat) : Int))), (2, .long (eL (b : Int))), (0, .long (eL (a : Int)))] → W p l e R s m args below meth c s.heap [] 0 0 Q (F0 m 6 ls []) := by
    intro q
    induction q with
    | zero =>
      intro i aa bb ls hq haa hbb heu hl
      have hi := heu.2.2.2.2
      have hb0 : bb = 0 := by
        apply Classical.byContradiction
        intro z
        have := eh_eu_lt heu (by omega)
        omega
      refine lv_lload hx hb d_M_divisor_6 (lv_at hl 0 rfl) ?_
      refine lv_lconst (v := eL 0) hx hb d_M_divisor_8 (by decide) ?_
      refine we_lcmp_le (pc2 := 10) (tgt := 31) hx hb (by constructor <;> omega) (by constructor <;> omega) d_M_divisor_9 rfl d_M_divisor_10 rfl (fun hc9 => ?_) (fun hc9 => absurd hc9 (by omega))
      refine lv_lload hx hb d_M_divisor_31 (lv_at hl 1 rfl) ?_
      have hres : ((aa : Nat) : Int) = ((Nat.gcd a b : Nat) : Int) := by rw [← heu.1, hb0, Nat.gcd_zero_right]
      rw [hres]
      subst hQ
      exact W.lret hx hb hrt (fun t9 ht hW => ⟨rfl, ht⟩) (fun q h => by cases h) d_M_divisor_33
    | succ q ih =>
      intro i aa bb ls hq haa hbb heu hl
      have hi := heu.2.2.2.2
      refine lv_lload hx hb d_M_divisor_6 (lv_at hl 0 rfl) ?_
      refine lv_lconst (v := eL 0) hx hb d_M_divisor_8 (by decide) ?_
      refine we_lcmp_le (pc2 := 10) (tgt := 31) hx hb (by constructor <;> omega) (by constructor <;> omega) d_M_divisor_9 rfl d_M_divisor_10 rfl (fun hc9 => ?_) (fun hc9 => ?_)
      ·
        refine lv_lload hx hb d_M_divisor_31 (lv_at hl 1 rfl) ?_
        have hb0 : bb = 0 := by omega
        have hres : ((aa : Nat) : Int) = ((Nat.gcd a b : Nat) : Int) := by rw [← heu.1, hb0, Nat.gcd_zero_right]
        rw [hres]
        subst hQ
        exact W.lret hx hb hrt (fun t9 ht hW => ⟨rfl, ht⟩) (fun q h => by cases h) d_M_divisor_33
      ·
        refine lv_lload hx hb d_M_divisor_13 (lv_at hl 1 rfl) ?_
        refine lv_lload hx hb d_M_divisor_15 (lv_at hl 0 rfl) ?_
        refine we_lrem hx hb (by constructor <;> omega) (by constructor <;> omega) (by omega) (by omega) d_M_divisor_17 ?_
        refine lv_lstore hx hb d_M_divisor_18 hl (by decide) rfl (fun ls hl => ?_)
        have hl : lv_has ls 10 [(8, .long (eL (((aa : Nat) : Int) % ((bb : Nat) : Int)))), (6, .long (eL ((bb : Nat) : Int))), (4, .long (eL ((aa : Nat) : Int))), (2, .long (eL (b : Int))), (0, .long (eL (a : Int)))] := hl
        refine lv_lload hx hb d_M_divisor_20 (lv_at hl 1 rfl) ?_
        refine lv_lstore hx hb d_M_divisor_22 hl (by decide) rfl (fun ls hl => ?_)
        have hl : lv_has ls 10 [(4, .long (eL ((bb : Nat) : Int))), (8, .long (eL (((aa : Nat) : Int) % ((bb : Nat) : Int)))), (6, .long (eL ((bb : Nat) : Int))), (2, .long (eL (b : Int))), (0, .long (eL (a : Int)))] := hl
        refine lv_lload hx hb d_M_divisor_24 (lv_at hl 1 rfl) ?_
        refine lv_lstore hx hb d_M_divisor_26 hl (by decide) rfl (fun ls hl => ?_)
        have hl : lv_has ls 10 [(6, .long (eL (((aa : Nat) : Int) % ((bb : Nat) : Int)))), (4, .long (eL ((bb : Nat) : Int))), (8, .long (eL (((aa : Nat) : Int) % ((bb : Nat) : Int)))), (2, .long (eL (b : Int))), (0, .long (eL (a : Int)))] := hl
        refine lv_goto (tgt := 6) hx hb d_M_divisor_28 rfl ?_
        have hbp : 0 < bb := by omega
        have hmlt := Nat.mod_lt aa hbp
        have hlt9 := eh_eu_lt heu hbp
        exact ih (i + 1) bb (aa % bb) ls (by omega) hbb (by omega) (eh_eu_s heu hbp) (lv_sub hl [0, 1, 3, 4] rfl)
  exact loop 125 0 a b ls (by omega) ha62 hb62 (eh_eu_0 ha62 hb62) (lv_sub hl [0, 1, 3, 2] rfl)
abbrev c_M_apart : ByteArray := prog_7_method_5_code
def y_M_apart : MethodName := ⟨"EarthHaulsModel", "apart", "(II)J"⟩
abbrev k_M_apart : Cond := .code y_M_apart c_M_apart 2 (some .long)
theorem kin_M_apart : k_M_apart ∈ ew_t := tb_700
theorem dv_M_apart : eh_dS y_M_apart 2 := ⟨by decide, by decide, by decide +kernel⟩
theorem d_M_apart_0 : decode c_M_apart 0 = .ok (.iload_n 0, 1) := by decide +kernel
theorem d_M_apart_1 : decode c_M_apart 1 = .ok (.iload_n 1, 1) := by decide +kernel
theorem d_M_apart_2 : decode c_M_apart 2 = .ok (.if_icmp .ne 7, 3) := by decide +kernel
theorem d_M_apart_5 : decode c_M_apart 5 = .ok (.lconst 1, 1) := by decide +kernel
theorem d_M_apart_6 : decode c_M_apart 6 = .ok (.goto 21, 3) := by decide +kernel
theorem d_M_apart_9 : decode c_M_apart 9 = .ok (.iload_n 0, 1) := by decide +kernel
theorem d_M_apart_10 : decode c_M_apart 10 = .ok (.iload_n 1, 1) := by decide +kernel
theorem d_M_apart_11 : decode c_M_apart 11 = .ok (.if_icmp .le 11, 3) := by decide +kernel
theorem d_M_apart_14 : decode c_M_apart 14 = .ok (.iload_n 0, 1) := by decide +kernel
theorem d_M_apart_15 : decode c_M_apart 15 = .ok (.i2l, 1) := by decide +kernel
theorem d_M_apart_16 : decode c_M_apart 16 = .ok (.iload_n 1, 1) := by decide +kernel
theorem d_M_apart_17 : decode c_M_apart 17 = .ok (.i2l, 1) := by decide +kernel
theorem d_M_apart_18 : decode c_M_apart 18 = .ok (.lsub, 1) := by decide +kernel
theorem d_M_apart_19 : decode c_M_apart 19 = .ok (.goto 8, 3) := by decide +kernel
theorem d_M_apart_22 : decode c_M_apart 22 = .ok (.iload_n 1, 1) := by decide +kernel
theorem d_M_apart_23 : decode c_M_apart 23 = .ok (.i2l, 1) := by decide +kernel
theorem d_M_apart_24 : decode c_M_apart 24 = .ok (.iload_n 0, 1) := by decide +kernel
theorem d_M_apart_25 : decode c_M_apart 25 = .ok (.i2l, 1) := by decide +kernel
theorem d_M_apart_26 : decode c_M_apart 26 = .ok (.lsub, 1) := by decide +kernel
theorem d_M_apart_27 : decode c_M_apart 27 = .ok (.lreturn, 1) := by decide +kernel
set_option maxHeartbeats 1000000 in
set_option maxRecDepth 100000 in
theorem r_M_apart (l : Launch) (D : va_G) (y z : Int) (hy : -100 ≤ y ∧ y ≤ 100) (hz : -100 ≤ z ∧ z ≤ 100) : eh_R l y_M_apart k_M_apart 0 0 D classes [] [.int (eI y), .int (eI z)] [] (.long (eL (eh_ap y z))) := by
  refine Met.ofW (cc := c_M_apart) (maxL := 2) (ret := (some .long)) (by decide) rfl ?_
  intro p e s m args below meth c s₁ B hml hv
  obtain ⟨hargs, hP, hK, hN⟩ := hv
  have hx := B.exec
  have hb := B.bytes
  have hrt := B.returns
  have hts := atoms_spec (ws := k_M_apart :: ew_t) B.pre
  have htb : ∀ w ∈ ew_t, w.before args s = true := fun w h => hts w (List.mem_cons_of_mem _ h)
  have hown : s.vm.findClass "EarthHaulsModel" = some m.cls := findClass_of_methodNamed B.named
  have hlocks := B.notSynchronized
  have hE : entryFrame m args 2 = entryFrame m ([.int (eI y), .int (eI z)] : List Value).toArray 2 := by rw [hargs]
  rw [hE]
  clear hE hts B hargs
  generalize hRe : (headSpec _ _).room = R
  have hR1 : R.frames = 0 := by rw [← hRe]; rfl
  have hR2 : R.locals = 0 := by rw [← hRe]; rfl
  clear hRe
  generalize hQ : MQ below _ _ s 0 0 _ = Q
  have hP : va_P D classes [] s.heap := hP
  have hl := lv_entry ([.int (eI y), .int (eI z)]) (n := 2) (Nat.le_of_ble_eq_true rfl)
  rw [lg_entry_eq]
  generalize (lg_sl ([.int (eI y), .int (eI z)]) ++ List.replicate (2 - (lg_sl ([.int (eI y), .int (eI z)])).length) Slot.unset).toArray = ls at hl ⊢
  have hl : lv_has ls 2 [(0, .int (eI y)), (1, .int (eI z))] := hl
  refine lv_iload_n hx hb d_M_apart_0 rfl (lv_at hl 0 rfl) ?_
  refine lv_iload_n hx hb d_M_apart_1 rfl (lv_at hl 1 rfl) ?_
  refine we_icmp_ne (tgt := 9) hx hb (by constructor <;> omega) (by constructor <;> omega) d_M_apart_2 rfl (fun hc2 => ?_) (fun hc2 => ?_)
  ·
    refine lv_iload_n hx hb d_M_apart_9 rfl (lv_at hl 0 rfl) ?_
    refine lv_iload_n hx hb d_M_apart_10 rfl (lv_at hl 1 rfl) ?_
    refine we_icmp_le (tgt := 22) hx hb (by constructor <;> omega) (by constructor <;> omega) d_M_apart_11 rfl (fun hc11 => ?_) (fun hc11 => ?_)
    ·
      refine lv_iload_n hx hb d_M_apart_22 rfl (lv_at hl 1 rfl) ?_
      refine we_i2l hx hb (by constructor <;> omega) d_M_apart_23 ?_
      refine lv_iload_n hx hb d_M_apart_24 rfl (lv_at hl 0 rfl) ?_
      refine we_i2l hx hb (by constructor <;> omega) d_M_apart_25 ?_
      refine we_lsub hx hb d_M_apart_26 ?_
      have hres : (z - y) = (eh_ap y z) := by
        unfold eh_ap
        split
        · omega
        · split <;> omega
      rw [hres]
      subst hQ
      exact W.lret hx hb hrt (fun t9 ht hW => ⟨rfl, ht⟩) (fun q h => by cases h) d_M_apart_27
    ·
      refine lv_iload_n hx hb d_M_apart_14 rfl (lv_at hl 0 rfl) ?_
      refine we_i2l hx hb (by constructor <;> omega) d_M_apart_15 ?_
      refine lv_iload_n hx hb d_M_apart_16 rfl (lv_at hl 1 rfl) ?_
      refine we_i2l hx hb (by constructor <;> omega) d_M_apart_17 ?_
      refine we_lsub hx hb d_M_apart_18 ?_
      refine lv_goto (tgt := 27) hx hb d_M_apart_19 rfl ?_
      have hres : (y - z) = (eh_ap y z) := by
        unfold eh_ap
        split
        · omega
        · split <;> omega
      rw [hres]
      subst hQ
      exact W.lret hx hb hrt (fun t9 ht hW => ⟨rfl, ht⟩) (fun q h => by cases h) d_M_apart_27
  ·
    refine lv_lconst (v := eL 1) hx hb d_M_apart_5 (by decide) ?_
    refine lv_goto (tgt := 27) hx hb d_M_apart_6 rfl ?_
    have hres : 1 = (eh_ap y z) := by
      unfold eh_ap
      split
      · omega
      · split <;> omega
    rw [hres]
    subst hQ
    exact W.lret hx hb hrt (fun t9 ht hW => ⟨rfl, ht⟩) (fun q h => by cases h) d_M_apart_27
abbrev c_M_above : ByteArray := prog_7_method_4_code
def y_M_above : MethodName := ⟨"EarthHaulsModel", "above", "(III)J"⟩
abbrev k_M_above : Cond := .code y_M_above c_M_above 7 (some .long)
theorem kin_M_above : k_M_above ∈ ew_t := tb_703
theorem dv_M_above : eh_dS y_M_above 3 := ⟨by decide, by decide, by decide +kernel⟩
theorem d_M_above_0 : decode c_M_above 0 = .ok (.iload_n 0, 1) := by decide +kernel
theorem d_M_above_1 : decode c_M_above 1 = .ok (.iload_n 1, 1) := by decide +kernel
theorem d_M_above_2 : decode c_M_above 2 = .ok (.if_icmp .le 7, 3) := by decide +kernel
theorem d_M_above_5 : decode c_M_above 5 = .ok (.iload_n 0, 1) := by decide +kernel
theorem d_M_above_6 : decode c_M_above 6 = .ok (.goto 4, 3) := by decide +kernel
theorem d_M_above_9 : decode c_M_above 9 = .ok (.iload_n 1, 1) := by decide +kernel
theorem d_M_above_10 : decode c_M_above 10 = .ok (.istore_n 3, 1) := by decide +kernel
theorem d_M_above_11 : decode c_M_above 11 = .ok (.iload_n 0, 1) := by decide +kernel
theorem d_M_above_12 : decode c_M_above 12 = .ok (.iload_n 1, 1) := by decide +kernel
theorem d_M_above_13 : decode c_M_above 13 = .ok (.if_icmp .le 7, 3) := by decide +kernel
theorem d_M_above_16 : decode c_M_above 16 = .ok (.iload_n 1, 1) := by decide +kernel
theorem d_M_above_17 : decode c_M_above 17 = .ok (.goto 4, 3) := by decide +kernel
theorem d_M_above_20 : decode c_M_above 20 = .ok (.iload_n 0, 1) := by decide +kernel
theorem d_M_above_21 : decode c_M_above 21 = .ok (.istore 4, 2) := by decide +kernel
theorem d_M_above_23 : decode c_M_above 23 = .ok (.iload_n 3, 1) := by decide +kernel
theorem d_M_above_24 : decode c_M_above 24 = .ok (.iload 4, 2) := by decide +kernel
theorem d_M_above_26 : decode c_M_above 26 = .ok (.if_icmp .ne 7, 3) := by decide +kernel
theorem d_M_above_29 : decode c_M_above 29 = .ok (.lconst 1, 1) := by decide +kernel
theorem d_M_above_30 : decode c_M_above 30 = .ok (.goto 9, 3) := by decide +kernel
theorem d_M_above_33 : decode c_M_above 33 = .ok (.iload_n 3, 1) := by decide +kernel
theorem d_M_above_34 : decode c_M_above 34 = .ok (.i2l, 1) := by decide +kernel
theorem d_M_above_35 : decode c_M_above 35 = .ok (.iload 4, 2) := by decide +kernel
theorem d_M_above_37 : decode c_M_above 37 = .ok (.i2l, 1) := by decide +kernel
theorem d_M_above_38 : decode c_M_above 38 = .ok (.lsub, 1) := by decide +kernel
theorem d_M_above_39 : decode c_M_above 39 = .ok (.lstore 5, 2) := by decide +kernel
theorem d_M_above_41 : decode c_M_above 41 = .ok (.iload_n 3, 1) := by decide +kernel
theorem d_M_above_42 : decode c_M_above 42 = .ok (.ifCond .gt 5, 3) := by decide +kernel
theorem d_M_above_45 : decode c_M_above 45 = .ok (.lconst 0, 1) := by decide +kernel
theorem d_M_above_46 : decode c_M_above 46 = .ok (.lreturn, 1) := by decide +kernel
theorem d_M_above_47 : decode c_M_above 47 = .ok (.iload 4, 2) := by decide +kernel
theorem d_M_above_49 : decode c_M_above 49 = .ok (.ifCond .lt 17, 3) := by decide +kernel
theorem d_M_above_52 : decode c_M_above 52 = .ok (.iload_n 2, 1) := by decide +kernel
theorem d_M_above_53 : decode c_M_above 53 = .ok (.i2l, 1) := by decide +kernel
theorem d_M_above_54 : decode c_M_above 54 = .ok (.iload_n 3, 1) := by decide +kernel
theorem d_M_above_55 : decode c_M_above 55 = .ok (.iload 4, 2) := by decide +kernel
theorem d_M_above_57 : decode c_M_above 57 = .ok (.iadd, 1) := by decide +kernel
theorem d_M_above_58 : decode c_M_above 58 = .ok (.i2l, 1) := by decide +kernel
theorem d_M_above_59 : decode c_M_above 59 = .ok (.lmul, 1) := by decide +kernel
theorem d_M_above_60 : decode c_M_above 60 = .ok (.lload 5, 2) := by decide +kernel
theorem d_M_above_62 : decode c_M_above 62 = .ok (.lmul, 1) := by decide +kernel
theorem d_M_above_63 : decode c_M_above 63 = .ok (.goto 11, 3) := by decide +kernel
theorem d_M_above_66 : decode c_M_above 66 = .ok (.iload_n 2, 1) := by decide +kernel
theorem d_M_above_67 : decode c_M_above 67 = .ok (.i2l, 1) := by decide +kernel
theorem d_M_above_68 : decode c_M_above 68 = .ok (.iload_n 3, 1) := by decide +kernel
theorem d_M_above_69 : decode c_M_above 69 = .ok (.i2l, 1) := by decide +kernel
theorem d_M_above_70 : decode c_M_above 70 = .ok (.lmul, 1) := by decide +kernel
theorem d_M_above_71 : decode c_M_above 71 = .ok (.iload_n 3, 1) := by decide +kernel
theorem d_M_above_72 : decode c_M_above 72 = .ok (.i2l, 1) := by decide +kernel
theorem d_M_above_73 : decode c_M_above 73 = .ok (.lmul, 1) := by decide +kernel
theorem d_M_above_74 : decode c_M_above 74 = .ok (.lreturn, 1) := by decide +kernel
set_option maxHeartbeats 1000000 in
set_option maxRecDepth 100000 in
theorem r_M_above (l : Launch) (D : va_G) (y z w : Int) (hy : -100 ≤ y ∧ y ≤ 100) (hz : -100 ≤ z ∧ z ≤ 100) (hw : 1 ≤ w ∧ w ≤ 50) : eh_R l y_M_above k_M_above 0 0 D classes [] [.int (eI y), .int (eI z), .int (eI w)] [] (.long (eL (eh_ab y z w))) := by
  refine Met.ofW (cc := c_M_above) (maxL := 7) (ret := (some .long)) (by decide) rfl ?_
  intro p e s m args below meth c s₁ B hml hv
  obtain ⟨hargs, hP, hK, hN⟩ := hv
  have hx := B.exec
  have hb := B.bytes
  have hrt := B.returns
  have hts := atoms_spec (ws := k_M_above :: ew_t) B.pre
  have htb : ∀ w ∈ ew_t, w.before args s = true := fun w h => hts w (List.mem_cons_of_mem _ h)
  have hown : s.vm.findClass "EarthHaulsModel" = some m.cls := findClass_of_methodNamed B.named
  have hlocks := B.notSynchronized
  have hE : entryFrame m args 7 = entryFrame m ([.int (eI y), .int (eI z), .int (eI w)] : List Value).toArray 7 := by rw [hargs]
  rw [hE]
  clear hE hts B hargs
  generalize hRe : (headSpec _ _).room = R
  have hR1 : R.frames = 0 := by rw [← hRe]; rfl
  have hR2 : R.locals = 0 := by rw [← hRe]; rfl
  clear hRe
  generalize hQ : MQ below _ _ s 0 0 _ = Q
  have hP : va_P D classes [] s.heap := hP
  have hl := lv_entry ([.int (eI y), .int (eI z), .int (eI w)]) (n := 7) (Nat.le_of_ble_eq_true rfl)
  rw [lg_entry_eq]
  generalize (lg_sl ([.int (eI y), .int (eI z), .int (eI w)]) ++ List.replicate (7 - (lg_sl ([.int (eI y), .int (eI z), .int (eI w)])).length) Slot.unset).toArray = ls at hl ⊢
  have hl : lv_has ls 7 [(0, .int (eI y)), (1, .int (eI z)), (2, .int (eI w))] := hl
  refine lv_iload_n hx hb d_M_above_0 rfl (lv_at hl 0 rfl) ?_
  refine lv_iload_n hx hb d_M_above_1 rfl (lv_at hl 1 rfl) ?_
  refine we_icmp_le (tgt := 9) hx hb (by constructor <;> omega) (by constructor <;> omega) d_M_above_2 rfl (fun hc2 => ?_) (fun hc2 => ?_)
  ·
    refine lv_iload_n hx hb d_M_above_9 rfl (lv_at hl 1 rfl) ?_
    refine lv_istore_n hx hb d_M_above_10 rfl hl (by decide) rfl (fun ls hl => ?_)
    have hl : lv_has ls 7 [(3, .int (eI z)), (0, .int (eI y)), (1, .int (eI z)), (2, .int (eI w))] := hl
    refine lv_iload_n hx hb d_M_above_11 rfl (lv_at hl 1 rfl) ?_
    refine lv_iload_n hx hb d_M_above_12 rfl (lv_at hl 2 rfl) ?_
    refine we_icmp_le (tgt := 20) hx hb (by constructor <;> omega) (by constructor <;> omega) d_M_above_13 rfl (fun hc13 => ?_) (fun hc13 => ?_)
    ·
      refine lv_iload_n hx hb d_M_above_20 rfl (lv_at hl 1 rfl) ?_
      refine lv_istore hx hb d_M_above_21 hl (by decide) rfl (fun ls hl => ?_)
      have hl : lv_has ls 7 [(4, .int (eI y)), (3, .int (eI z)), (0, .int (eI y)), (1, .int (eI z)), (2, .int (eI w))] := hl
      refine lv_iload_n hx hb d_M_above_23 rfl (lv_at hl 1 rfl) ?_
      refine lv_iload hx hb d_M_above_24 (lv_at hl 0 rfl) ?_
      refine we_icmp_ne (tgt := 33) hx hb (by constructor <;> omega) (by constructor <;> omega) d_M_above_26 rfl (fun hc26 => ?_) (fun hc26 => ?_)
      ·
        refine lv_iload_n hx hb d_M_above_33 rfl (lv_at hl 1 rfl) ?_
        refine we_i2l hx hb (by constructor <;> omega) d_M_above_34 ?_
        refine lv_iload hx hb d_M_above_35 (lv_at hl 0 rfl) ?_
        refine we_i2l hx hb (by constructor <;> omega) d_M_above_37 ?_
        refine we_lsub hx hb d_M_above_38 ?_
        refine lv_lstore hx hb d_M_above_39 hl (by decide) rfl (fun ls hl => ?_)
        have hl : lv_has ls 7 [(5, .long (eL (z - y))), (4, .int (eI y)), (3, .int (eI z)), (0, .int (eI y)), (1, .int (eI z)), (2, .int (eI w))] := hl
        refine lv_iload_n hx hb d_M_above_41 rfl (lv_at hl 2 rfl) ?_
        refine we_if_gt (tgt := 47) hx hb (by constructor <;> omega) d_M_above_42 rfl (fun hc42 => ?_) (fun hc42 => ?_)
        ·
          refine lv_iload hx hb d_M_above_47 (lv_at hl 1 rfl) ?_
          refine we_if_lt (tgt := 66) hx hb (by constructor <;> omega) d_M_above_49 rfl (fun hc49 => ?_) (fun hc49 => ?_)
          ·
            refine lv_iload_n hx hb d_M_above_66 rfl (lv_at hl 5 rfl) ?_
            refine we_i2l hx hb (by constructor <;> omega) d_M_above_67 ?_
            refine lv_iload_n hx hb d_M_above_68 rfl (lv_at hl 2 rfl) ?_
            refine we_i2l hx hb (by constructor <;> omega) d_M_above_69 ?_
            refine we_lmul hx hb d_M_above_70 ?_
            refine lv_iload_n hx hb d_M_above_71 rfl (lv_at hl 2 rfl) ?_
            refine we_i2l hx hb (by constructor <;> omega) d_M_above_72 ?_
            refine we_lmul hx hb d_M_above_73 ?_
            have hres : ((w * z) * z) = (eh_ab y z w) := by
              unfold eh_ab
              rw [show max y z = z by omega, show min y z = y by omega]
              rw [if_neg (by omega), if_neg (by omega)]
            rw [hres]
            subst hQ
            exact W.lret hx hb hrt (fun t9 ht hW => ⟨rfl, ht⟩) (fun q h => by cases h) d_M_above_74
          ·
            refine lv_iload_n hx hb d_M_above_52 rfl (lv_at hl 5 rfl) ?_
            refine we_i2l hx hb (by constructor <;> omega) d_M_above_53 ?_
            refine lv_iload_n hx hb d_M_above_54 rfl (lv_at hl 2 rfl) ?_
            refine lv_iload hx hb d_M_above_55 (lv_at hl 1 rfl) ?_
            refine we_iadd hx hb d_M_above_57 ?_
            refine we_i2l hx hb (by constructor <;> omega) d_M_above_58 ?_
            refine we_lmul hx hb d_M_above_59 ?_
            refine lv_lload hx hb d_M_above_60 (lv_at hl 0 rfl) ?_
            refine we_lmul hx hb d_M_above_62 ?_
            refine lv_goto (tgt := 74) hx hb d_M_above_63 rfl ?_
            have hres : ((w * (z + y)) * (z - y)) = (eh_ab y z w) := by
              unfold eh_ab
              rw [show max y z = z by omega, show min y z = y by omega]
              rw [if_neg (by omega), if_pos (by omega), show eh_ap y z = (z - y) from by unfold eh_ap; split <;> (try split) <;> omega]
            rw [hres]
            subst hQ
            exact W.lret hx hb hrt (fun t9 ht hW => ⟨rfl, ht⟩) (fun q h => by cases h) d_M_above_74
        ·
          refine lv_lconst (v := eL 0) hx hb d_M_above_45 (by decide) ?_
          have hres : 0 = (eh_ab y z w) := by
            unfold eh_ab
            rw [show max y z = z by omega, show min y z = y by omega]
            rw [if_pos (by omega)]
          rw [hres]
          subst hQ
          exact W.lret hx hb hrt (fun t9 ht hW => ⟨rfl, ht⟩) (fun q h => by cases h) d_M_above_46
      ·
        refine lv_lconst (v := eL 1) hx hb d_M_above_29 (by decide) ?_
        refine lv_goto (tgt := 39) hx hb d_M_above_30 rfl ?_
        refine lv_lstore hx hb d_M_above_39 hl (by decide) rfl (fun ls hl => ?_)
        have hl : lv_has ls 7 [(5, .long (eL 1)), (4, .int (eI y)), (3, .int (eI z)), (0, .int (eI y)), (1, .int (eI z)), (2, .int (eI w))] := hl
        refine lv_iload_n hx hb d_M_above_41 rfl (lv_at hl 2 rfl) ?_
        refine we_if_gt (tgt := 47) hx hb (by constructor <;> omega) d_M_above_42 rfl (fun hc42 => ?_) (fun hc42 => ?_)
        ·
          refine lv_iload hx hb d_M_above_47 (lv_at hl 1 rfl) ?_
          refine we_if_lt (tgt := 66) hx hb (by constructor <;> omega) d_M_above_49 rfl (fun hc49 => ?_) (fun hc49 => ?_)
          ·
            refine lv_iload_n hx hb d_M_above_66 rfl (lv_at hl 5 rfl) ?_
            refine we_i2l hx hb (by constructor <;> omega) d_M_above_67 ?_
            refine lv_iload_n hx hb d_M_above_68 rfl (lv_at hl 2 rfl) ?_
            refine we_i2l hx hb (by constructor <;> omega) d_M_above_69 ?_
            refine we_lmul hx hb d_M_above_70 ?_
            refine lv_iload_n hx hb d_M_above_71 rfl (lv_at hl 2 rfl) ?_
            refine we_i2l hx hb (by constructor <;> omega) d_M_above_72 ?_
            refine we_lmul hx hb d_M_above_73 ?_
            have hres : ((w * z) * z) = (eh_ab y z w) := by
              unfold eh_ab
              rw [show max y z = z by omega, show min y z = y by omega]
              rw [if_neg (by omega), if_neg (by omega)]
            rw [hres]
            subst hQ
            exact W.lret hx hb hrt (fun t9 ht hW => ⟨rfl, ht⟩) (fun q h => by cases h) d_M_above_74
          ·
            refine lv_iload_n hx hb d_M_above_52 rfl (lv_at hl 5 rfl) ?_
            refine we_i2l hx hb (by constructor <;> omega) d_M_above_53 ?_
            refine lv_iload_n hx hb d_M_above_54 rfl (lv_at hl 2 rfl) ?_
            refine lv_iload hx hb d_M_above_55 (lv_at hl 1 rfl) ?_
            refine we_iadd hx hb d_M_above_57 ?_
            refine we_i2l hx hb (by constructor <;> omega) d_M_above_58 ?_
            refine we_lmul hx hb d_M_above_59 ?_
            refine lv_lload hx hb d_M_above_60 (lv_at hl 0 rfl) ?_
            refine we_lmul hx hb d_M_above_62 ?_
            refine lv_goto (tgt := 74) hx hb d_M_above_63 rfl ?_
            have hres : ((w * (z + y)) * 1) = (eh_ab y z w) := by
              unfold eh_ab
              rw [show max y z = z by omega, show min y z = y by omega]
              rw [if_neg (by omega), if_pos (by omega), show eh_ap y z = 1 from by unfold eh_ap; split <;> (try split) <;> omega]
            rw [hres]
            subst hQ
            exact W.lret hx hb hrt (fun t9 ht hW => ⟨rfl, ht⟩) (fun q h => by cases h) d_M_above_74
        ·
          refine lv_lconst (v := eL 0) hx hb d_M_above_45 (by decide) ?_
          have hres : 0 = (eh_ab y z w) := by
            unfold eh_ab
            rw [show max y z = z by omega, show min y z = y by omega]
            rw [if_pos (by omega)]
          rw [hres]
          subst hQ
          exact W.lret hx hb hrt (fun t9 ht hW => ⟨rfl, ht⟩) (fun q h => by cases h) d_M_above_46
    ·
      refine lv_iload_n hx hb d_M_above_16 rfl (lv_at hl 2 rfl) ?_
      refine lv_goto (tgt := 21) hx hb d_M_above_17 rfl ?_
      refine lv_istore hx hb d_M_above_21 hl (by decide) rfl (fun ls hl => ?_)
      have hl : lv_has ls 7 [(4, .int (eI z)), (3, .int (eI z)), (0, .int (eI y)), (1, .int (eI z)), (2, .int (eI w))] := hl
      refine lv_iload_n hx hb d_M_above_23 rfl (lv_at hl 1 rfl) ?_
      refine lv_iload hx hb d_M_above_24 (lv_at hl 0 rfl) ?_
      refine we_icmp_ne (tgt := 33) hx hb (by constructor <;> omega) (by constructor <;> omega) d_M_above_26 rfl (fun hc26 => ?_) (fun hc26 => ?_)
      ·
        refine lv_iload_n hx hb d_M_above_33 rfl (lv_at hl 1 rfl) ?_
        refine we_i2l hx hb (by constructor <;> omega) d_M_above_34 ?_
        refine lv_iload hx hb d_M_above_35 (lv_at hl 0 rfl) ?_
        refine we_i2l hx hb (by constructor <;> omega) d_M_above_37 ?_
        refine we_lsub hx hb d_M_above_38 ?_
        refine lv_lstore hx hb d_M_above_39 hl (by decide) rfl (fun ls hl => ?_)
        have hl : lv_has ls 7 [(5, .long (eL (z - z))), (4, .int (eI z)), (3, .int (eI z)), (0, .int (eI y)), (1, .int (eI z)), (2, .int (eI w))] := hl
        refine lv_iload_n hx hb d_M_above_41 rfl (lv_at hl 2 rfl) ?_
        refine we_if_gt (tgt := 47) hx hb (by constructor <;> omega) d_M_above_42 rfl (fun hc42 => ?_) (fun hc42 => ?_)
        ·
          refine lv_iload hx hb d_M_above_47 (lv_at hl 1 rfl) ?_
          refine we_if_lt (tgt := 66) hx hb (by constructor <;> omega) d_M_above_49 rfl (fun hc49 => ?_) (fun hc49 => ?_)
          ·
            refine lv_iload_n hx hb d_M_above_66 rfl (lv_at hl 5 rfl) ?_
            refine we_i2l hx hb (by constructor <;> omega) d_M_above_67 ?_
            refine lv_iload_n hx hb d_M_above_68 rfl (lv_at hl 2 rfl) ?_
            refine we_i2l hx hb (by constructor <;> omega) d_M_above_69 ?_
            refine we_lmul hx hb d_M_above_70 ?_
            refine lv_iload_n hx hb d_M_above_71 rfl (lv_at hl 2 rfl) ?_
            refine we_i2l hx hb (by constructor <;> omega) d_M_above_72 ?_
            refine we_lmul hx hb d_M_above_73 ?_
            have hres : ((w * z) * z) = (eh_ab y z w) := by exfalso; omega
            rw [hres]
            subst hQ
            exact W.lret hx hb hrt (fun t9 ht hW => ⟨rfl, ht⟩) (fun q h => by cases h) d_M_above_74
          ·
            refine lv_iload_n hx hb d_M_above_52 rfl (lv_at hl 5 rfl) ?_
            refine we_i2l hx hb (by constructor <;> omega) d_M_above_53 ?_
            refine lv_iload_n hx hb d_M_above_54 rfl (lv_at hl 2 rfl) ?_
            refine lv_iload hx hb d_M_above_55 (lv_at hl 1 rfl) ?_
            refine we_iadd hx hb d_M_above_57 ?_
            refine we_i2l hx hb (by constructor <;> omega) d_M_above_58 ?_
            refine we_lmul hx hb d_M_above_59 ?_
            refine lv_lload hx hb d_M_above_60 (lv_at hl 0 rfl) ?_
            refine we_lmul hx hb d_M_above_62 ?_
            refine lv_goto (tgt := 74) hx hb d_M_above_63 rfl ?_
            have hres : ((w * (z + z)) * (z - z)) = (eh_ab y z w) := by exfalso; omega
            rw [hres]
            subst hQ
            exact W.lret hx hb hrt (fun t9 ht hW => ⟨rfl, ht⟩) (fun q h => by cases h) d_M_above_74
        ·
          refine lv_lconst (v := eL 0) hx hb d_M_above_45 (by decide) ?_
          have hres : 0 = (eh_ab y z w) := by exfalso; omega
          rw [hres]
          subst hQ
          exact W.lret hx hb hrt (fun t9 ht hW => ⟨rfl, ht⟩) (fun q h => by cases h) d_M_above_46
      ·
        refine lv_lconst (v := eL 1) hx hb d_M_above_29 (by decide) ?_
        refine lv_goto (tgt := 39) hx hb d_M_above_30 rfl ?_
        refine lv_lstore hx hb d_M_above_39 hl (by decide) rfl (fun ls hl => ?_)
        have hl : lv_has ls 7 [(5, .long (eL 1)), (4, .int (eI z)), (3, .int (eI z)), (0, .int (eI y)), (1, .int (eI z)), (2, .int (eI w))] := hl
        refine lv_iload_n hx hb d_M_above_41 rfl (lv_at hl 2 rfl) ?_
        refine we_if_gt (tgt := 47) hx hb (by constructor <;> omega) d_M_above_42 rfl (fun hc42 => ?_) (fun hc42 => ?_)
        ·
          refine lv_iload hx hb d_M_above_47 (lv_at hl 1 rfl) ?_
          refine we_if_lt (tgt := 66) hx hb (by constructor <;> omega) d_M_above_49 rfl (fun hc49 => ?_) (fun hc49 => ?_)
          ·
            refine lv_iload_n hx hb d_M_above_66 rfl (lv_at hl 5 rfl) ?_
            refine we_i2l hx hb (by constructor <;> omega) d_M_above_67 ?_
            refine lv_iload_n hx hb d_M_above_68 rfl (lv_at hl 2 rfl) ?_
            refine we_i2l hx hb (by constructor <;> omega) d_M_above_69 ?_
            refine we_lmul hx hb d_M_above_70 ?_
            refine lv_iload_n hx hb d_M_above_71 rfl (lv_at hl 2 rfl) ?_
            refine we_i2l hx hb (by constructor <;> omega) d_M_above_72 ?_
            refine we_lmul hx hb d_M_above_73 ?_
            have hres : ((w * z) * z) = (eh_ab y z w) := by exfalso; omega
            rw [hres]
            subst hQ
            exact W.lret hx hb hrt (fun t9 ht hW => ⟨rfl, ht⟩) (fun q h => by cases h) d_M_above_74
          ·
            refine lv_iload_n hx hb d_M_above_52 rfl (lv_at hl 5 rfl) ?_
            refine we_i2l hx hb (by constructor <;> omega) d_M_above_53 ?_
            refine lv_iload_n hx hb d_M_above_54 rfl (lv_at hl 2 rfl) ?_
            refine lv_iload hx hb d_M_above_55 (lv_at hl 1 rfl) ?_
            refine we_iadd hx hb d_M_above_57 ?_
            refine we_i2l hx hb (by constructor <;> omega) d_M_above_58 ?_
            refine we_lmul hx hb d_M_above_59 ?_
            refine lv_lload hx hb d_M_above_60 (lv_at hl 0 rfl) ?_
            refine we_lmul hx hb d_M_above_62 ?_
            refine lv_goto (tgt := 74) hx hb d_M_above_63 rfl ?_
            have hres : ((w * (z + z)) * 1) = (eh_ab y z w) := by exfalso; omega
            rw [hres]
            subst hQ
            exact W.lret hx hb hrt (fun t9 ht hW => ⟨rfl, ht⟩) (fun q h => by cases h) d_M_above_74
        ·
          refine lv_lconst (v := eL 0) hx hb d_M_above_45 (by decide) ?_
          have hres : 0 = (eh_ab y z w) := by exfalso; omega
          rw [hres]
          subst hQ
          exact W.lret hx hb hrt (fun t9 ht hW => ⟨rfl, ht⟩) (fun q h => by cases h) d_M_above_46
  ·
    refine lv_iload_n hx hb d_M_above_5 rfl (lv_at hl 0 rfl) ?_
    refine lv_goto (tgt := 10) hx hb d_M_above_6 rfl ?_
    refine lv_istore_n hx hb d_M_above_10 rfl hl (by decide) rfl (fun ls hl => ?_)
    have hl : lv_has ls 7 [(3, .int (eI y)), (0, .int (eI y)), (1, .int (eI z)), (2, .int (eI w))] := hl
    refine lv_iload_n hx hb d_M_above_11 rfl (lv_at hl 1 rfl) ?_
    refine lv_iload_n hx hb d_M_above_12 rfl (lv_at hl 2 rfl) ?_
    refine we_icmp_le (tgt := 20) hx hb (by constructor <;> omega) (by constructor <;> omega) d_M_above_13 rfl (fun hc13 => ?_) (fun hc13 => ?_)
    ·
      refine lv_iload_n hx hb d_M_above_20 rfl (lv_at hl 1 rfl) ?_
      refine lv_istore hx hb d_M_above_21 hl (by decide) rfl (fun ls hl => ?_)
      have hl : lv_has ls 7 [(4, .int (eI y)), (3, .int (eI y)), (0, .int (eI y)), (1, .int (eI z)), (2, .int (eI w))] := hl
      refine lv_iload_n hx hb d_M_above_23 rfl (lv_at hl 1 rfl) ?_
      refine lv_iload hx hb d_M_above_24 (lv_at hl 0 rfl) ?_
      refine we_icmp_ne (tgt := 33) hx hb (by constructor <;> omega) (by constructor <;> omega) d_M_above_26 rfl (fun hc26 => ?_) (fun hc26 => ?_)
      ·
        refine lv_iload_n hx hb d_M_above_33 rfl (lv_at hl 1 rfl) ?_
        refine we_i2l hx hb (by constructor <;> omega) d_M_above_34 ?_
        refine lv_iload hx hb d_M_above_35 (lv_at hl 0 rfl) ?_
        refine we_i2l hx hb (by constructor <;> omega) d_M_above_37 ?_
        refine we_lsub hx hb d_M_above_38 ?_
        refine lv_lstore hx hb d_M_above_39 hl (by decide) rfl (fun ls hl => ?_)
        have hl : lv_has ls 7 [(5, .long (eL (y - y))), (4, .int (eI y)), (3, .int (eI y)), (0, .int (eI y)), (1, .int (eI z)), (2, .int (eI w))] := hl
        refine lv_iload_n hx hb d_M_above_41 rfl (lv_at hl 2 rfl) ?_
        refine we_if_gt (tgt := 47) hx hb (by constructor <;> omega) d_M_above_42 rfl (fun hc42 => ?_) (fun hc42 => ?_)
        ·
          refine lv_iload hx hb d_M_above_47 (lv_at hl 1 rfl) ?_
          refine we_if_lt (tgt := 66) hx hb (by constructor <;> omega) d_M_above_49 rfl (fun hc49 => ?_) (fun hc49 => ?_)
          ·
            refine lv_iload_n hx hb d_M_above_66 rfl (lv_at hl 5 rfl) ?_
            refine we_i2l hx hb (by constructor <;> omega) d_M_above_67 ?_
            refine lv_iload_n hx hb d_M_above_68 rfl (lv_at hl 2 rfl) ?_
            refine we_i2l hx hb (by constructor <;> omega) d_M_above_69 ?_
            refine we_lmul hx hb d_M_above_70 ?_
            refine lv_iload_n hx hb d_M_above_71 rfl (lv_at hl 2 rfl) ?_
            refine we_i2l hx hb (by constructor <;> omega) d_M_above_72 ?_
            refine we_lmul hx hb d_M_above_73 ?_
            have hres : ((w * y) * y) = (eh_ab y z w) := by exfalso; omega
            rw [hres]
            subst hQ
            exact W.lret hx hb hrt (fun t9 ht hW => ⟨rfl, ht⟩) (fun q h => by cases h) d_M_above_74
          ·
            refine lv_iload_n hx hb d_M_above_52 rfl (lv_at hl 5 rfl) ?_
            refine we_i2l hx hb (by constructor <;> omega) d_M_above_53 ?_
            refine lv_iload_n hx hb d_M_above_54 rfl (lv_at hl 2 rfl) ?_
            refine lv_iload hx hb d_M_above_55 (lv_at hl 1 rfl) ?_
            refine we_iadd hx hb d_M_above_57 ?_
            refine we_i2l hx hb (by constructor <;> omega) d_M_above_58 ?_
            refine we_lmul hx hb d_M_above_59 ?_
            refine lv_lload hx hb d_M_above_60 (lv_at hl 0 rfl) ?_
            refine we_lmul hx hb d_M_above_62 ?_
            refine lv_goto (tgt := 74) hx hb d_M_above_63 rfl ?_
            have hres : ((w * (y + y)) * (y - y)) = (eh_ab y z w) := by exfalso; omega
            rw [hres]
            subst hQ
            exact W.lret hx hb hrt (fun t9 ht hW => ⟨rfl, ht⟩) (fun q h => by cases h) d_M_above_74
        ·
          refine lv_lconst (v := eL 0) hx hb d_M_above_45 (by decide) ?_
          have hres : 0 = (eh_ab y z w) := by exfalso; omega
          rw [hres]
          subst hQ
          exact W.lret hx hb hrt (fun t9 ht hW => ⟨rfl, ht⟩) (fun q h => by cases h) d_M_above_46
      ·
        refine lv_lconst (v := eL 1) hx hb d_M_above_29 (by decide) ?_
        refine lv_goto (tgt := 39) hx hb d_M_above_30 rfl ?_
        refine lv_lstore hx hb d_M_above_39 hl (by decide) rfl (fun ls hl => ?_)
        have hl : lv_has ls 7 [(5, .long (eL 1)), (4, .int (eI y)), (3, .int (eI y)), (0, .int (eI y)), (1, .int (eI z)), (2, .int (eI w))] := hl
        refine lv_iload_n hx hb d_M_above_41 rfl (lv_at hl 2 rfl) ?_
        refine we_if_gt (tgt := 47) hx hb (by constructor <;> omega) d_M_above_42 rfl (fun hc42 => ?_) (fun hc42 => ?_)
        ·
          refine lv_iload hx hb d_M_above_47 (lv_at hl 1 rfl) ?_
          refine we_if_lt (tgt := 66) hx hb (by constructor <;> omega) d_M_above_49 rfl (fun hc49 => ?_) (fun hc49 => ?_)
          ·
            refine lv_iload_n hx hb d_M_above_66 rfl (lv_at hl 5 rfl) ?_
            refine we_i2l hx hb (by constructor <;> omega) d_M_above_67 ?_
            refine lv_iload_n hx hb d_M_above_68 rfl (lv_at hl 2 rfl) ?_
            refine we_i2l hx hb (by constructor <;> omega) d_M_above_69 ?_
            refine we_lmul hx hb d_M_above_70 ?_
            refine lv_iload_n hx hb d_M_above_71 rfl (lv_at hl 2 rfl) ?_
            refine we_i2l hx hb (by constructor <;> omega) d_M_above_72 ?_
            refine we_lmul hx hb d_M_above_73 ?_
            have hres : ((w * y) * y) = (eh_ab y z w) := by exfalso; omega
            rw [hres]
            subst hQ
            exact W.lret hx hb hrt (fun t9 ht hW => ⟨rfl, ht⟩) (fun q h => by cases h) d_M_above_74
          ·
            refine lv_iload_n hx hb d_M_above_52 rfl (lv_at hl 5 rfl) ?_
            refine we_i2l hx hb (by constructor <;> omega) d_M_above_53 ?_
            refine lv_iload_n hx hb d_M_above_54 rfl (lv_at hl 2 rfl) ?_
            refine lv_iload hx hb d_M_above_55 (lv_at hl 1 rfl) ?_
            refine we_iadd hx hb d_M_above_57 ?_
            refine we_i2l hx hb (by constructor <;> omega) d_M_above_58 ?_
            refine we_lmul hx hb d_M_above_59 ?_
            refine lv_lload hx hb d_M_above_60 (lv_at hl 0 rfl) ?_
            refine we_lmul hx hb d_M_above_62 ?_
            refine lv_goto (tgt := 74) hx hb d_M_above_63 rfl ?_
            have hres : ((w * (y + y)) * 1) = (eh_ab y z w) := by exfalso; omega
            rw [hres]
            subst hQ
            exact W.lret hx hb hrt (fun t9 ht hW => ⟨rfl, ht⟩) (fun q h => by cases h) d_M_above_74
        ·
          refine lv_lconst (v := eL 0) hx hb d_M_above_45 (by decide) ?_
          have hres : 0 = (eh_ab y z w) := by exfalso; omega
          rw [hres]
          subst hQ
          exact W.lret hx hb hrt (fun t9 ht hW => ⟨rfl, ht⟩) (fun q h => by cases h) d_M_above_46
    ·
      refine lv_iload_n hx hb d_M_above_16 rfl (lv_at hl 2 rfl) ?_
      refine lv_goto (tgt := 21) hx hb d_M_above_17 rfl ?_
      refine lv_istore hx hb d_M_above_21 hl (by decide) rfl (fun ls hl => ?_)
      have hl : lv_has ls 7 [(4, .int (eI z)), (3, .int (eI y)), (0, .int (eI y)), (1, .int (eI z)), (2, .int (eI w))] := hl
      refine lv_iload_n hx hb d_M_above_23 rfl (lv_at hl 1 rfl) ?_
      refine lv_iload hx hb d_M_above_24 (lv_at hl 0 rfl) ?_
      refine we_icmp_ne (tgt := 33) hx hb (by constructor <;> omega) (by constructor <;> omega) d_M_above_26 rfl (fun hc26 => ?_) (fun hc26 => ?_)
      ·
        refine lv_iload_n hx hb d_M_above_33 rfl (lv_at hl 1 rfl) ?_
        refine we_i2l hx hb (by constructor <;> omega) d_M_above_34 ?_
        refine lv_iload hx hb d_M_above_35 (lv_at hl 0 rfl) ?_
        refine we_i2l hx hb (by constructor <;> omega) d_M_above_37 ?_
        refine we_lsub hx hb d_M_above_38 ?_
        refine lv_lstore hx hb d_M_above_39 hl (by decide) rfl (fun ls hl => ?_)
        have hl : lv_has ls 7 [(5, .long (eL (y - z))), (4, .int (eI z)), (3, .int (eI y)), (0, .int (eI y)), (1, .int (eI z)), (2, .int (eI w))] := hl
        refine lv_iload_n hx hb d_M_above_41 rfl (lv_at hl 2 rfl) ?_
        refine we_if_gt (tgt := 47) hx hb (by constructor <;> omega) d_M_above_42 rfl (fun hc42 => ?_) (fun hc42 => ?_)
        ·
          refine lv_iload hx hb d_M_above_47 (lv_at hl 1 rfl) ?_
          refine we_if_lt (tgt := 66) hx hb (by constructor <;> omega) d_M_above_49 rfl (fun hc49 => ?_) (fun hc49 => ?_)
          ·
            refine lv_iload_n hx hb d_M_above_66 rfl (lv_at hl 5 rfl) ?_
            refine we_i2l hx hb (by constructor <;> omega) d_M_above_67 ?_
            refine lv_iload_n hx hb d_M_above_68 rfl (lv_at hl 2 rfl) ?_
            refine we_i2l hx hb (by constructor <;> omega) d_M_above_69 ?_
            refine we_lmul hx hb d_M_above_70 ?_
            refine lv_iload_n hx hb d_M_above_71 rfl (lv_at hl 2 rfl) ?_
            refine we_i2l hx hb (by constructor <;> omega) d_M_above_72 ?_
            refine we_lmul hx hb d_M_above_73 ?_
            have hres : ((w * y) * y) = (eh_ab y z w) := by
              unfold eh_ab
              rw [show max y z = y by omega, show min y z = z by omega]
              rw [if_neg (by omega), if_neg (by omega)]
            rw [hres]
            subst hQ
            exact W.lret hx hb hrt (fun t9 ht hW => ⟨rfl, ht⟩) (fun q h => by cases h) d_M_above_74
          ·
            refine lv_iload_n hx hb d_M_above_52 rfl (lv_at hl 5 rfl) ?_
            refine we_i2l hx hb (by constructor <;> omega) d_M_above_53 ?_
            refine lv_iload_n hx hb d_M_above_54 rfl (lv_at hl 2 rfl) ?_
            refine lv_iload hx hb d_M_above_55 (lv_at hl 1 rfl) ?_
            refine we_iadd hx hb d_M_above_57 ?_
            refine we_i2l hx hb (by constructor <;> omega) d_M_above_58 ?_
            refine we_lmul hx hb d_M_above_59 ?_
            refine lv_lload hx hb d_M_above_60 (lv_at hl 0 rfl) ?_
            refine we_lmul hx hb d_M_above_62 ?_
            refine lv_goto (tgt := 74) hx hb d_M_above_63 rfl ?_
            have hres : ((w * (y + z)) * (y - z)) = (eh_ab y z w) := by
              unfold eh_ab
              rw [show max y z = y by omega, show min y z = z by omega]
              rw [if_neg (by omega), if_pos (by omega), show eh_ap y z = (y - z) from by unfold eh_ap; split <;> (try split) <;> omega]
            rw [hres]
            subst hQ
            exact W.lret hx hb hrt (fun t9 ht hW => ⟨rfl, ht⟩) (fun q h => by cases h) d_M_above_74
        ·
          refine lv_lconst (v := eL 0) hx hb d_M_above_45 (by decide) ?_
          have hres : 0 = (eh_ab y z w) := by
            unfold eh_ab
            rw [show max y z = y by omega, show min y z = z by omega]
            rw [if_pos (by omega)]
          rw [hres]
          subst hQ
          exact W.lret hx hb hrt (fun t9 ht hW => ⟨rfl, ht⟩) (fun q h => by cases h) d_M_above_46
      ·
        refine lv_lconst (v := eL 1) hx hb d_M_above_29 (by decide) ?_
        refine lv_goto (tgt := 39) hx hb d_M_above_30 rfl ?_
        refine lv_lstore hx hb d_M_above_39 hl (by decide) rfl (fun ls hl => ?_)
        have hl : lv_has ls 7 [(5, .long (eL 1)), (4, .int (eI z)), (3, .int (eI y)), (0, .int (eI y)), (1, .int (eI z)), (2, .int (eI w))] := hl
        refine lv_iload_n hx hb d_M_above_41 rfl (lv_at hl 2 rfl) ?_
        refine we_if_gt (tgt := 47) hx hb (by constructor <;> omega) d_M_above_42 rfl (fun hc42 => ?_) (fun hc42 => ?_)
        ·
          refine lv_iload hx hb d_M_above_47 (lv_at hl 1 rfl) ?_
          refine we_if_lt (tgt := 66) hx hb (by constructor <;> omega) d_M_above_49 rfl (fun hc49 => ?_) (fun hc49 => ?_)
          ·
            refine lv_iload_n hx hb d_M_above_66 rfl (lv_at hl 5 rfl) ?_
            refine we_i2l hx hb (by constructor <;> omega) d_M_above_67 ?_
            refine lv_iload_n hx hb d_M_above_68 rfl (lv_at hl 2 rfl) ?_
            refine we_i2l hx hb (by constructor <;> omega) d_M_above_69 ?_
            refine we_lmul hx hb d_M_above_70 ?_
            refine lv_iload_n hx hb d_M_above_71 rfl (lv_at hl 2 rfl) ?_
            refine we_i2l hx hb (by constructor <;> omega) d_M_above_72 ?_
            refine we_lmul hx hb d_M_above_73 ?_
            have hres : ((w * y) * y) = (eh_ab y z w) := by
              unfold eh_ab
              rw [show max y z = y by omega, show min y z = z by omega]
              rw [if_neg (by omega), if_neg (by omega)]
            rw [hres]
            subst hQ
            exact W.lret hx hb hrt (fun t9 ht hW => ⟨rfl, ht⟩) (fun q h => by cases h) d_M_above_74
          ·
            refine lv_iload_n hx hb d_M_above_52 rfl (lv_at hl 5 rfl) ?_
            refine we_i2l hx hb (by constructor <;> omega) d_M_above_53 ?_
            refine lv_iload_n hx hb d_M_above_54 rfl (lv_at hl 2 rfl) ?_
            refine lv_iload hx hb d_M_above_55 (lv_at hl 1 rfl) ?_
            refine we_iadd hx hb d_M_above_57 ?_
            refine we_i2l hx hb (by constructor <;> omega) d_M_above_58 ?_
            refine we_lmul hx hb d_M_above_59 ?_
            refine lv_lload hx hb d_M_above_60 (lv_at hl 0 rfl) ?_
            refine we_lmul hx hb d_M_above_62 ?_
            refine lv_goto (tgt := 74) hx hb d_M_above_63 rfl ?_
            have hres : ((w * (y + z)) * 1) = (eh_ab y z w) := by
              unfold eh_ab
              rw [show max y z = y by omega, show min y z = z by omega]
              rw [if_neg (by omega), if_pos (by omega), show eh_ap y z = 1 from by unfold eh_ap; split <;> (try split) <;> omega]
            rw [hres]
            subst hQ
            exact W.lret hx hb hrt (fun t9 ht hW => ⟨rfl, ht⟩) (fun q h => by cases h) d_M_above_74
        ·
          refine lv_lconst (v := eL 0) hx hb d_M_above_45 (by decide) ?_
          have hres : 0 = (eh_ab y z w) := by
            unfold eh_ab
            rw [show max y z = y by omega, show min y z = z by omega]
            rw [if_pos (by omega)]
          rw [hres]
          subst hQ
          exact W.lret hx hb hrt (fun t9 ht hW => ⟨rfl, ht⟩) (fun q h => by cases h) d_M_above_46
abbrev c_M_within : ByteArray := prog_7_method_11_code
def y_M_within : MethodName := ⟨"EarthHaulsModel", "within", "(III)Z"⟩
abbrev k_M_within : Cond := .code y_M_within c_M_within 3 (some .boolean)
theorem kin_M_within : k_M_within ∈ ew_t := tb_672
theorem dv_M_within : eh_dS y_M_within 3 := ⟨by decide, by decide, by decide +kernel⟩
theorem d_M_within_0 : decode c_M_within 0 = .ok (.iload_n 0, 1) := by decide +kernel
theorem d_M_within_1 : decode c_M_within 1 = .ok (.iload_n 1, 1) := by decide +kernel
theorem d_M_within_2 : decode c_M_within 2 = .ok (.if_icmp .lt 12, 3) := by decide +kernel
theorem d_M_within_5 : decode c_M_within 5 = .ok (.iload_n 0, 1) := by decide +kernel
theorem d_M_within_6 : decode c_M_within 6 = .ok (.iload_n 2, 1) := by decide +kernel
theorem d_M_within_7 : decode c_M_within 7 = .ok (.if_icmp .gt 7, 3) := by decide +kernel
theorem d_M_within_10 : decode c_M_within 10 = .ok (.iconst 1, 1) := by decide +kernel
theorem d_M_within_11 : decode c_M_within 11 = .ok (.goto 4, 3) := by decide +kernel
theorem d_M_within_14 : decode c_M_within 14 = .ok (.iconst 0, 1) := by decide +kernel
theorem d_M_within_15 : decode c_M_within 15 = .ok (.ireturn, 1) := by decide +kernel
set_option maxHeartbeats 1000000 in
set_option maxRecDepth 100000 in
theorem r_M_within (l : Launch) (D : va_G) (y z w : Int) (hy : -2147483648 ≤ y ∧ y < 2147483648) (hz : -2147483648 ≤ z ∧ z < 2147483648) (hw : -2147483648 ≤ w ∧ w < 2147483648) : eh_R l y_M_within k_M_within 0 0 D classes [] [.int (eI y), .int (eI z), .int (eI w)] [] (.int (eI (if z ≤ y ∧ y ≤ w then 1 else 0))) := by
  refine Met.ofW (cc := c_M_within) (maxL := 3) (ret := (some .boolean)) (by decide) rfl ?_
  intro p e s m args below meth c s₁ B hml hv
  obtain ⟨hargs, hP, hK, hN⟩ := hv
  have hx := B.exec
  have hb := B.bytes
  have hrt := B.returns
  have hts := atoms_spec (ws := k_M_within :: ew_t) B.pre
  have htb : ∀ w ∈ ew_t, w.before args s = true := fun w h => hts w (List.mem_cons_of_mem _ h)
  have hown : s.vm.findClass "EarthHaulsModel" = some m.cls := findClass_of_methodNamed B.named
  have hlocks := B.notSynchronized
  have hE : entryFrame m args 3 = entryFrame m ([.int (eI y), .int (eI z), .int (eI w)] : List Value).toArray 3 := by rw [hargs]
  rw [hE]
  clear hE hts B hargs
  generalize hRe : (headSpec _ _).room = R
  have hR1 : R.frames = 0 := by rw [← hRe]; rfl
  have hR2 : R.locals = 0 := by rw [← hRe]; rfl
  clear hRe
  generalize hQ : MQ below _ _ s 0 0 _ = Q
  have hP : va_P D classes [] s.heap := hP
  have hl := lv_entry ([.int (eI y), .int (eI z), .int (eI w)]) (n := 3) (Nat.le_of_ble_eq_true rfl)
  rw [lg_entry_eq]
  generalize (lg_sl ([.int (eI y), .int (eI z), .int (eI w)]) ++ List.replicate (3 - (lg_sl ([.int (eI y), .int (eI z), .int (eI w)])).length) Slot.unset).toArray = ls at hl ⊢
  have hl : lv_has ls 3 [(0, .int (eI y)), (1, .int (eI z)), (2, .int (eI w))] := hl
  refine lv_iload_n hx hb d_M_within_0 rfl (lv_at hl 0 rfl) ?_
  refine lv_iload_n hx hb d_M_within_1 rfl (lv_at hl 1 rfl) ?_
  refine we_icmp_lt (tgt := 14) hx hb (by constructor <;> omega) (by constructor <;> omega) d_M_within_2 rfl (fun hc2 => ?_) (fun hc2 => ?_)
  ·
    refine lv_iconst (v := eI 0) hx hb d_M_within_14 rfl ?_
    have hres : (0 : Int) = (if z ≤ y ∧ y ≤ w then 1 else 0) := by rw [if_neg (by omega)]
    subst hQ
    exact W.zret (v := eI 0) hx hb hrt (by decide) (fun t9 ht hW => ⟨by rw [← hres], ht⟩) (fun q h => by cases h) d_M_within_15
  ·
    refine lv_iload_n hx hb d_M_within_5 rfl (lv_at hl 0 rfl) ?_
    refine lv_iload_n hx hb d_M_within_6 rfl (lv_at hl 2 rfl) ?_
    refine we_icmp_gt (tgt := 14) hx hb (by constructor <;> omega) (by constructor <;> omega) d_M_within_7 rfl (fun hc7 => ?_) (fun hc7 => ?_)
    ·
      refine lv_iconst (v := eI 0) hx hb d_M_within_14 rfl ?_
      have hres : (0 : Int) = (if z ≤ y ∧ y ≤ w then 1 else 0) := by rw [if_neg (by omega)]
      subst hQ
      exact W.zret (v := eI 0) hx hb hrt (by decide) (fun t9 ht hW => ⟨by rw [← hres], ht⟩) (fun q h => by cases h) d_M_within_15
    ·
      refine lv_iconst (v := eI 1) hx hb d_M_within_10 rfl ?_
      refine lv_goto (tgt := 15) hx hb d_M_within_11 rfl ?_
      have hres : (1 : Int) = (if z ≤ y ∧ y ≤ w then 1 else 0) := by rw [if_pos (by omega)]
      subst hQ
      exact W.zret (v := eI 1) hx hb hrt (by decide) (fun t9 ht hW => ⟨by rw [← hres], ht⟩) (fun q h => by cases h) d_M_within_15
abbrev c_M_noHaul : ByteArray := prog_7_method_26_code
def y_M_noHaul : MethodName := ⟨"EarthHaulsModel", "noHaul", "(II)Z"⟩
abbrev k_M_noHaul : Cond := .code y_M_noHaul c_M_noHaul 2 (some .boolean)
theorem kin_M_noHaul : k_M_noHaul ∈ ew_t := tb_740
theorem dv_M_noHaul : eh_dS y_M_noHaul 2 := ⟨by decide, by decide, by decide +kernel⟩
theorem d_M_noHaul_0 : decode c_M_noHaul 0 = .ok (.iload_n 0, 1) := by decide +kernel
theorem d_M_noHaul_1 : decode c_M_noHaul 1 = .ok (.ifCond .lt 17, 3) := by decide +kernel
theorem d_M_noHaul_4 : decode c_M_noHaul 4 = .ok (.iload_n 0, 1) := by decide +kernel
theorem d_M_noHaul_5 : decode c_M_noHaul 5 = .ok (.iconst 5, 1) := by decide +kernel
theorem d_M_noHaul_6 : decode c_M_noHaul 6 = .ok (.if_icmp .gt 12, 3) := by decide +kernel
theorem d_M_noHaul_9 : decode c_M_noHaul 9 = .ok (.iload_n 1, 1) := by decide +kernel
theorem d_M_noHaul_10 : decode c_M_noHaul 10 = .ok (.ifCond .lt 8, 3) := by decide +kernel
theorem d_M_noHaul_13 : decode c_M_noHaul 13 = .ok (.iload_n 1, 1) := by decide +kernel
theorem d_M_noHaul_14 : decode c_M_noHaul 14 = .ok (.iconst 4, 1) := by decide +kernel
theorem d_M_noHaul_15 : decode c_M_noHaul 15 = .ok (.if_icmp .le 7, 3) := by decide +kernel
theorem d_M_noHaul_18 : decode c_M_noHaul 18 = .ok (.iconst 1, 1) := by decide +kernel
theorem d_M_noHaul_19 : decode c_M_noHaul 19 = .ok (.goto 4, 3) := by decide +kernel
theorem d_M_noHaul_22 : decode c_M_noHaul 22 = .ok (.iconst 0, 1) := by decide +kernel
theorem d_M_noHaul_23 : decode c_M_noHaul 23 = .ok (.ireturn, 1) := by decide +kernel
set_option maxHeartbeats 1000000 in
set_option maxRecDepth 100000 in
theorem r_M_noHaul (l : Launch) (D : va_G) (y z : Int) (hy : -2147483648 ≤ y ∧ y < 2147483648) (hz : -2147483648 ≤ z ∧ z < 2147483648) : eh_R l y_M_noHaul k_M_noHaul 0 0 D classes [] [.int (eI y), .int (eI z)] [] (.int (eI (if y < 0 ∨ 5 < y ∨ z < 0 ∨ 4 < z then 1 else 0))) := by
  refine Met.ofW (cc := c_M_noHaul) (maxL := 2) (ret := (some .boolean)) (by decide) rfl ?_
  intro p e s m args below meth c s₁ B hml hv
  obtain ⟨hargs, hP, hK, hN⟩ := hv
  have hx := B.exec
  have hb := B.bytes
  have hrt := B.returns
  have hts := atoms_spec (ws := k_M_noHaul :: ew_t) B.pre
  have htb : ∀ w ∈ ew_t, w.before args s = true := fun w h => hts w (List.mem_cons_of_mem _ h)
  have hown : s.vm.findClass "EarthHaulsModel" = some m.cls := findClass_of_methodNamed B.named
  have hlocks := B.notSynchronized
  have hE : entryFrame m args 2 = entryFrame m ([.int (eI y), .int (eI z)] : List Value).toArray 2 := by rw [hargs]
  rw [hE]
  clear hE hts B hargs
  generalize hRe : (headSpec _ _).room = R
  have hR1 : R.frames = 0 := by rw [← hRe]; rfl
  have hR2 : R.locals = 0 := by rw [← hRe]; rfl
  clear hRe
  generalize hQ : MQ below _ _ s 0 0 _ = Q
  have hP : va_P D classes [] s.heap := hP
  have hl := lv_entry ([.int (eI y), .int (eI z)]) (n := 2) (Nat.le_of_ble_eq_true rfl)
  rw [lg_entry_eq]
  generalize (lg_sl ([.int (eI y), .int (eI z)]) ++ List.replicate (2 - (lg_sl ([.int (eI y), .int (eI z)])).length) Slot.unset).toArray = ls at hl ⊢
  have hl : lv_has ls 2 [(0, .int (eI y)), (1, .int (eI z))] := hl
  refine lv_iload_n hx hb d_M_noHaul_0 rfl (lv_at hl 0 rfl) ?_
  refine we_if_lt (tgt := 18) hx hb (by constructor <;> omega) d_M_noHaul_1 rfl (fun hc1 => ?_) (fun hc1 => ?_)
  ·
    refine lv_iconst (v := eI 1) hx hb d_M_noHaul_18 rfl ?_
    refine lv_goto (tgt := 23) hx hb d_M_noHaul_19 rfl ?_
    have hres : (1 : Int) = (if y < 0 ∨ 5 < y ∨ z < 0 ∨ 4 < z then 1 else 0) := by rw [if_pos (by omega)]
    subst hQ
    exact W.zret (v := eI 1) hx hb hrt (by decide) (fun t9 ht hW => ⟨by rw [← hres], ht⟩) (fun q h => by cases h) d_M_noHaul_23
  ·
    refine lv_iload_n hx hb d_M_noHaul_4 rfl (lv_at hl 0 rfl) ?_
    refine lv_iconst (v := eI 5) hx hb d_M_noHaul_5 rfl ?_
    refine we_icmp_gt (tgt := 18) hx hb (by constructor <;> omega) (by constructor <;> omega) d_M_noHaul_6 rfl (fun hc6 => ?_) (fun hc6 => ?_)
    ·
      refine lv_iconst (v := eI 1) hx hb d_M_noHaul_18 rfl ?_
      refine lv_goto (tgt := 23) hx hb d_M_noHaul_19 rfl ?_
      have hres : (1 : Int) = (if y < 0 ∨ 5 < y ∨ z < 0 ∨ 4 < z then 1 else 0) := by rw [if_pos (by omega)]
      subst hQ
      exact W.zret (v := eI 1) hx hb hrt (by decide) (fun t9 ht hW => ⟨by rw [← hres], ht⟩) (fun q h => by cases h) d_M_noHaul_23
    ·
      refine lv_iload_n hx hb d_M_noHaul_9 rfl (lv_at hl 1 rfl) ?_
      refine we_if_lt (tgt := 18) hx hb (by constructor <;> omega) d_M_noHaul_10 rfl (fun hc10 => ?_) (fun hc10 => ?_)
      ·
        refine lv_iconst (v := eI 1) hx hb d_M_noHaul_18 rfl ?_
        refine lv_goto (tgt := 23) hx hb d_M_noHaul_19 rfl ?_
        have hres : (1 : Int) = (if y < 0 ∨ 5 < y ∨ z < 0 ∨ 4 < z then 1 else 0) := by rw [if_pos (by omega)]
        subst hQ
        exact W.zret (v := eI 1) hx hb hrt (by decide) (fun t9 ht hW => ⟨by rw [← hres], ht⟩) (fun q h => by cases h) d_M_noHaul_23
      ·
        refine lv_iload_n hx hb d_M_noHaul_13 rfl (lv_at hl 1 rfl) ?_
        refine lv_iconst (v := eI 4) hx hb d_M_noHaul_14 rfl ?_
        refine we_icmp_le (tgt := 22) hx hb (by constructor <;> omega) (by constructor <;> omega) d_M_noHaul_15 rfl (fun hc15 => ?_) (fun hc15 => ?_)
        ·
          refine lv_iconst (v := eI 0) hx hb d_M_noHaul_22 rfl ?_
          have hres : (0 : Int) = (if y < 0 ∨ 5 < y ∨ z < 0 ∨ 4 < z then 1 else 0) := by rw [if_neg (by omega)]
          subst hQ
          exact W.zret (v := eI 0) hx hb hrt (by decide) (fun t9 ht hW => ⟨by rw [← hres], ht⟩) (fun q h => by cases h) d_M_noHaul_23
        ·
          refine lv_iconst (v := eI 1) hx hb d_M_noHaul_18 rfl ?_
          refine lv_goto (tgt := 23) hx hb d_M_noHaul_19 rfl ?_
          have hres : (1 : Int) = (if y < 0 ∨ 5 < y ∨ z < 0 ∨ 4 < z then 1 else 0) := by rw [if_pos (by omega)]
          subst hQ
          exact W.zret (v := eI 1) hx hb hrt (by decide) (fun t9 ht hW => ⟨by rw [← hres], ht⟩) (fun q h => by cases h) d_M_noHaul_23
abbrev c_M_noSpan : ByteArray := prog_7_method_7_code
def y_M_noSpan : MethodName := ⟨"EarthHaulsModel", "noSpan", "(I)Z"⟩
abbrev k_M_noSpan : Cond := .code y_M_noSpan c_M_noSpan 2 (some .boolean)
theorem kin_M_noSpan : k_M_noSpan ∈ ew_t := tb_684
theorem dv_M_noSpan : eh_dV y_M_noSpan "EarthHaulsModel" 1 := ⟨rfl, by decide, by decide, by decide +kernel⟩
theorem d_M_noSpan_0 : decode c_M_noSpan 0 = .ok (.iload_n 1, 1) := by decide +kernel
theorem d_M_noSpan_1 : decode c_M_noSpan 1 = .ok (.ifCond .lt 13, 3) := by decide +kernel
theorem d_M_noSpan_4 : decode c_M_noSpan 4 = .ok (.iload_n 1, 1) := by decide +kernel
theorem d_M_noSpan_5 : decode c_M_noSpan 5 = .ok (.aload_n 0, 1) := by decide +kernel
theorem d_M_noSpan_6 : decode c_M_noSpan 6 = .ok (.getfield 86, 3) := by decide +kernel
theorem d_M_noSpan_9 : decode c_M_noSpan 9 = .ok (.iconst 1, 1) := by decide +kernel
theorem d_M_noSpan_10 : decode c_M_noSpan 10 = .ok (.isub, 1) := by decide +kernel
theorem d_M_noSpan_11 : decode c_M_noSpan 11 = .ok (.if_icmp .lt 7, 3) := by decide +kernel
theorem d_M_noSpan_14 : decode c_M_noSpan 14 = .ok (.iconst 1, 1) := by decide +kernel
theorem d_M_noSpan_15 : decode c_M_noSpan 15 = .ok (.goto 4, 3) := by decide +kernel
theorem d_M_noSpan_18 : decode c_M_noSpan 18 = .ok (.iconst 0, 1) := by decide +kernel
theorem d_M_noSpan_19 : decode c_M_noSpan 19 = .ok (.ireturn, 1) := by decide +kernel
set_option maxHeartbeats 1000000 in
set_option maxRecDepth 100000 in
theorem r_M_noSpan (l : Launch) (D : va_G) (cI cL cZ : ClassId) (md : Nat → Nat) (co : Int) (n : Nat) (sh ra up lw kn fo : Int) (sc ln cb th pl lo pr la : Nat → Int) (cu cl fu fl : Nat → Nat) (ys yl yp : Nat → Int) (y : Int) (hy : -2147483648 ≤ y ∧ y < 2147483648) (hM : eh_MS n sh ra sc ln cb th pl lo pr la cu cl fu fl ys yl yp) : eh_R l y_M_noSpan k_M_noSpan 0 0 D classes [(cI, .int), (cL, .long), (cZ, .boolean)] [.ref (md 0), .int (eI y)] [((md 0), .inr (5, [.int (eI co), .int (eI ((n : Nat) : Int)), .ref (md 1), .ref (md 2), .ref (md 3), .int (eI sh), .int (eI ra), .ref (md 4), .ref (md 5), .ref (md 6), .ref (md 7), .ref (md 8), .long (eL up), .long (eL lw), .ref (md 9), .ref (md 10), .ref (md 11), .ref (md 12), .ref (md 13), .ref (md 14), .ref (md 15), .int (eI kn), .int (eI fo)])), ((md 1), aI cI 25 sc), ((md 2), aI cI 4 ln), ((md 3), aI cZ 4 cb), ((md 4), aI cZ 3 th), ((md 5), aI cI 3 pl), ((md 6), aI cI 3 lo), ((md 7), aI cI 3 pr), ((md 8), aI cI 30 la)] (.int (eI (if y < 0 ∨ (n : Int) ≤ y + 1 then 1 else 0))) := by
  refine Met.ofW (cc := c_M_noSpan) (maxL := 2) (ret := (some .boolean)) (by decide) rfl ?_
  intro p e s m args below meth c s₁ B hml hv
  obtain ⟨hargs, hP, hK, hN⟩ := hv
  have hx := B.exec
  have hb := B.bytes
  have hrt := B.returns
  have hts := atoms_spec (ws := k_M_noSpan :: ew_t) B.pre
  have htb : ∀ w ∈ ew_t, w.before args s = true := fun w h => hts w (List.mem_cons_of_mem _ h)
  have hown : s.vm.findClass "EarthHaulsModel" = some m.cls := findClass_of_methodNamed B.named
  have hlocks := B.notSynchronized
  have hE : entryFrame m args 2 = entryFrame m ([.ref (md 0), .int (eI y)] : List Value).toArray 2 := by rw [hargs]
  rw [hE]
  clear hE hts B hargs
  generalize hRe : (headSpec _ _).room = R
  have hR1 : R.frames = 0 := by rw [← hRe]; rfl
  have hR2 : R.locals = 0 := by rw [← hRe]; rfl
  clear hRe
  generalize hQ : MQ below _ _ s 0 0 _ = Q
  have hP : va_P D classes [((md 0), .inr (5, [.int (eI co), .int (eI ((n : Nat) : Int)), .ref (md 1), .ref (md 2), .ref (md 3), .int (eI sh), .int (eI ra), .ref (md 4), .ref (md 5), .ref (md 6), .ref (md 7), .ref (md 8), .long (eL up), .long (eL lw), .ref (md 9), .ref (md 10), .ref (md 11), .ref (md 12), .ref (md 13), .ref (md 14), .ref (md 15), .int (eI kn), .int (eI fo)])), ((md 1), aI cI 25 sc), ((md 2), aI cI 4 ln), ((md 3), aI cZ 4 cb), ((md 4), aI cZ 3 th), ((md 5), aI cI 3 pl), ((md 6), aI cI 3 lo), ((md 7), aI cI 3 pr), ((md 8), aI cI 30 la)] s.heap := hP
  have hl := lv_entry ([.ref (md 0), .int (eI y)]) (n := 2) (Nat.le_of_ble_eq_true rfl)
  rw [lg_entry_eq]
  generalize (lg_sl ([.ref (md 0), .int (eI y)]) ++ List.replicate (2 - (lg_sl ([.ref (md 0), .int (eI y)])).length) Slot.unset).toArray = ls at hl ⊢
  have hl : lv_has ls 2 [(0, .ref (md 0)), (1, .int (eI y))] := hl
  have hn5 := hM.1.1
  refine lv_iload_n hx hb d_M_noSpan_0 rfl (lv_at hl 1 rfl) ?_
  refine we_if_lt (tgt := 14) hx hb (by constructor <;> omega) d_M_noSpan_1 rfl (fun hc1 => ?_) (fun hc1 => ?_)
  ·
    refine lv_iconst (v := eI 1) hx hb d_M_noSpan_14 rfl ?_
    refine lv_goto (tgt := 19) hx hb d_M_noSpan_15 rfl ?_
    have hres : (1 : Int) = (if y < 0 ∨ (n : Int) ≤ y + 1 then 1 else 0) := by rw [if_pos (by omega)]
    subst hQ
    exact W.zret (v := eI 1) hx hb hrt (by decide) (fun t9 ht hW => ⟨by rw [← hres], ht⟩) (fun q h => by cases h) d_M_noSpan_19
  ·
    refine lv_iload_n hx hb d_M_noSpan_4 rfl (lv_at hl 1 rfl) ?_
    refine lv_aload_n hx hb d_M_noSpan_5 rfl (lv_at hl 0 rfl) ?_
    refine va_get (D := D) (ci := 5) (v := .int (eI ((n : Nat) : Int))) (C := R_M) (T := T_M) (N := 23) hx hb htb in_M hown hK hP 0 rfl rfl 1 (by decide) (htb _ tb_589) (fun _ h9 => h9) rfl d_M_noSpan_6 ?_
    refine lv_iconst (v := eI 1) hx hb d_M_noSpan_9 rfl ?_
    refine we_isub hx hb d_M_noSpan_10 ?_
    refine we_icmp_lt (tgt := 18) hx hb (by constructor <;> omega) (by constructor <;> omega) d_M_noSpan_11 rfl (fun hc11 => ?_) (fun hc11 => ?_)
    ·
      refine lv_iconst (v := eI 0) hx hb d_M_noSpan_18 rfl ?_
      have hres : (0 : Int) = (if y < 0 ∨ (n : Int) ≤ y + 1 then 1 else 0) := by rw [if_neg (by omega)]
      subst hQ
      exact W.zret (v := eI 0) hx hb hrt (by decide) (fun t9 ht hW => ⟨by rw [← hres], ht⟩) (fun q h => by cases h) d_M_noSpan_19
    ·
      refine lv_iconst (v := eI 1) hx hb d_M_noSpan_14 rfl ?_
      refine lv_goto (tgt := 19) hx hb d_M_noSpan_15 rfl ?_
      have hres : (1 : Int) = (if y < 0 ∨ (n : Int) ≤ y + 1 then 1 else 0) := by rw [if_pos (by omega)]
      subst hQ
      exact W.zret (v := eI 1) hx hb hrt (by decide) (fun t9 ht hW => ⟨by rw [← hres], ht⟩) (fun q h => by cases h) d_M_noSpan_19
abbrev c_M_reckon : ByteArray := prog_7_method_6_code
def y_M_reckon : MethodName := ⟨"EarthHaulsModel", "reckon", "(IZ)V"⟩
abbrev k_M_reckon : Cond := .code y_M_reckon c_M_reckon 13 none
theorem kin_M_reckon : k_M_reckon ∈ ew_t := tb_697
theorem dv_M_reckon : eh_dV y_M_reckon "EarthHaulsModel" 2 := ⟨rfl, by decide, by decide, by decide +kernel⟩
theorem d_M_reckon_0 : decode c_M_reckon 0 = .ok (.iload_n 2, 1) := by decide +kernel
theorem d_M_reckon_1 : decode c_M_reckon 1 = .ok (.ifCond .eq 7, 3) := by decide +kernel
theorem d_M_reckon_4 : decode c_M_reckon 4 = .ok (.iconst 1, 1) := by decide +kernel
theorem d_M_reckon_5 : decode c_M_reckon 5 = .ok (.goto 4, 3) := by decide +kernel
theorem d_M_reckon_8 : decode c_M_reckon 8 = .ok (.iconst (-1), 1) := by decide +kernel
theorem d_M_reckon_9 : decode c_M_reckon 9 = .ok (.istore_n 3, 1) := by decide +kernel
theorem d_M_reckon_10 : decode c_M_reckon 10 = .ok (.iload_n 3, 1) := by decide +kernel
theorem d_M_reckon_11 : decode c_M_reckon 11 = .ok (.aload_n 0, 1) := by decide +kernel
theorem d_M_reckon_12 : decode c_M_reckon 12 = .ok (.getfield 7, 3) := by decide +kernel
theorem d_M_reckon_15 : decode c_M_reckon 15 = .ok (.iconst 5, 1) := by decide +kernel
theorem d_M_reckon_16 : decode c_M_reckon 16 = .ok (.iload_n 1, 1) := by decide +kernel
theorem d_M_reckon_17 : decode c_M_reckon 17 = .ok (.imul, 1) := by decide +kernel
theorem d_M_reckon_18 : decode c_M_reckon 18 = .ok (.iaload, 1) := by decide +kernel
theorem d_M_reckon_19 : decode c_M_reckon 19 = .ok (.imul, 1) := by decide +kernel
theorem d_M_reckon_20 : decode c_M_reckon 20 = .ok (.istore 4, 2) := by decide +kernel
theorem d_M_reckon_22 : decode c_M_reckon 22 = .ok (.iload_n 3, 1) := by decide +kernel
theorem d_M_reckon_23 : decode c_M_reckon 23 = .ok (.aload_n 0, 1) := by decide +kernel
theorem d_M_reckon_24 : decode c_M_reckon 24 = .ok (.getfield 7, 3) := by decide +kernel
theorem d_M_reckon_27 : decode c_M_reckon 27 = .ok (.iconst 5, 1) := by decide +kernel
theorem d_M_reckon_28 : decode c_M_reckon 28 = .ok (.iload_n 1, 1) := by decide +kernel
theorem d_M_reckon_29 : decode c_M_reckon 29 = .ok (.imul, 1) := by decide +kernel
theorem d_M_reckon_30 : decode c_M_reckon 30 = .ok (.iconst 1, 1) := by decide +kernel
theorem d_M_reckon_31 : decode c_M_reckon 31 = .ok (.iadd, 1) := by decide +kernel
theorem d_M_reckon_32 : decode c_M_reckon 32 = .ok (.iaload, 1) := by decide +kernel
theorem d_M_reckon_33 : decode c_M_reckon 33 = .ok (.imul, 1) := by decide +kernel
theorem d_M_reckon_34 : decode c_M_reckon 34 = .ok (.istore 5, 2) := by decide +kernel
theorem d_M_reckon_36 : decode c_M_reckon 36 = .ok (.iload_n 3, 1) := by decide +kernel
theorem d_M_reckon_37 : decode c_M_reckon 37 = .ok (.aload_n 0, 1) := by decide +kernel
theorem d_M_reckon_38 : decode c_M_reckon 38 = .ok (.getfield 7, 3) := by decide +kernel
theorem d_M_reckon_41 : decode c_M_reckon 41 = .ok (.iconst 5, 1) := by decide +kernel
theorem d_M_reckon_42 : decode c_M_reckon 42 = .ok (.iload_n 1, 1) := by decide +kernel
theorem d_M_reckon_43 : decode c_M_reckon 43 = .ok (.imul, 1) := by decide +kernel
theorem d_M_reckon_44 : decode c_M_reckon 44 = .ok (.iconst 2, 1) := by decide +kernel
theorem d_M_reckon_45 : decode c_M_reckon 45 = .ok (.iadd, 1) := by decide +kernel
theorem d_M_reckon_46 : decode c_M_reckon 46 = .ok (.iaload, 1) := by decide +kernel
theorem d_M_reckon_47 : decode c_M_reckon 47 = .ok (.imul, 1) := by decide +kernel
theorem d_M_reckon_48 : decode c_M_reckon 48 = .ok (.istore 6, 2) := by decide +kernel
theorem d_M_reckon_50 : decode c_M_reckon 50 = .ok (.iload 4, 2) := by decide +kernel
theorem d_M_reckon_52 : decode c_M_reckon 52 = .ok (.iload 5, 2) := by decide +kernel
theorem d_M_reckon_54 : decode c_M_reckon 54 = .ok (.invokestatic 67, 3) := by decide +kernel
theorem d_M_reckon_57 : decode c_M_reckon 57 = .ok (.lstore 7, 2) := by decide +kernel
theorem d_M_reckon_59 : decode c_M_reckon 59 = .ok (.iload 5, 2) := by decide +kernel
theorem d_M_reckon_61 : decode c_M_reckon 61 = .ok (.iload 6, 2) := by decide +kernel
theorem d_M_reckon_63 : decode c_M_reckon 63 = .ok (.invokestatic 67, 3) := by decide +kernel
theorem d_M_reckon_66 : decode c_M_reckon 66 = .ok (.lstore 9, 2) := by decide +kernel
theorem d_M_reckon_68 : decode c_M_reckon 68 = .ok (.aload_n 0, 1) := by decide +kernel
theorem d_M_reckon_69 : decode c_M_reckon 69 = .ok (.iload 4, 2) := by decide +kernel
theorem d_M_reckon_71 : decode c_M_reckon 71 = .ok (.iload 5, 2) := by decide +kernel
theorem d_M_reckon_73 : decode c_M_reckon 73 = .ok (.aload_n 0, 1) := by decide +kernel
theorem d_M_reckon_74 : decode c_M_reckon 74 = .ok (.getfield 7, 3) := by decide +kernel
theorem d_M_reckon_77 : decode c_M_reckon 77 = .ok (.iconst 5, 1) := by decide +kernel
theorem d_M_reckon_78 : decode c_M_reckon 78 = .ok (.iload_n 1, 1) := by decide +kernel
theorem d_M_reckon_79 : decode c_M_reckon 79 = .ok (.imul, 1) := by decide +kernel
theorem d_M_reckon_80 : decode c_M_reckon 80 = .ok (.iconst 3, 1) := by decide +kernel
theorem d_M_reckon_81 : decode c_M_reckon 81 = .ok (.iadd, 1) := by decide +kernel
theorem d_M_reckon_82 : decode c_M_reckon 82 = .ok (.iaload, 1) := by decide +kernel
theorem d_M_reckon_83 : decode c_M_reckon 83 = .ok (.invokestatic 71, 3) := by decide +kernel
theorem d_M_reckon_86 : decode c_M_reckon 86 = .ok (.lload 9, 2) := by decide +kernel
theorem d_M_reckon_88 : decode c_M_reckon 88 = .ok (.lmul, 1) := by decide +kernel
theorem d_M_reckon_89 : decode c_M_reckon 89 = .ok (.iload 5, 2) := by decide +kernel
theorem d_M_reckon_91 : decode c_M_reckon 91 = .ok (.iload 6, 2) := by decide +kernel
theorem d_M_reckon_93 : decode c_M_reckon 93 = .ok (.aload_n 0, 1) := by decide +kernel
theorem d_M_reckon_94 : decode c_M_reckon 94 = .ok (.getfield 7, 3) := by decide +kernel
theorem d_M_reckon_97 : decode c_M_reckon 97 = .ok (.iconst 5, 1) := by decide +kernel
theorem d_M_reckon_98 : decode c_M_reckon 98 = .ok (.iload_n 1, 1) := by decide +kernel
theorem d_M_reckon_99 : decode c_M_reckon 99 = .ok (.imul, 1) := by decide +kernel
theorem d_M_reckon_100 : decode c_M_reckon 100 = .ok (.iconst 4, 1) := by decide +kernel
theorem d_M_reckon_101 : decode c_M_reckon 101 = .ok (.iadd, 1) := by decide +kernel
theorem d_M_reckon_102 : decode c_M_reckon 102 = .ok (.iaload, 1) := by decide +kernel
theorem d_M_reckon_103 : decode c_M_reckon 103 = .ok (.invokestatic 71, 3) := by decide +kernel
theorem d_M_reckon_106 : decode c_M_reckon 106 = .ok (.lload 7, 2) := by decide +kernel
theorem d_M_reckon_108 : decode c_M_reckon 108 = .ok (.lmul, 1) := by decide +kernel
theorem d_M_reckon_109 : decode c_M_reckon 109 = .ok (.ladd, 1) := by decide +kernel
theorem d_M_reckon_110 : decode c_M_reckon 110 = .ok (.putfield 75, 3) := by decide +kernel
theorem d_M_reckon_113 : decode c_M_reckon 113 = .ok (.aload_n 0, 1) := by decide +kernel
theorem d_M_reckon_114 : decode c_M_reckon 114 = .ok (.lload 7, 2) := by decide +kernel
theorem d_M_reckon_116 : decode c_M_reckon 116 = .ok (.lload 9, 2) := by decide +kernel
theorem d_M_reckon_118 : decode c_M_reckon 118 = .ok (.lmul, 1) := by decide +kernel
theorem d_M_reckon_119 : decode c_M_reckon 119 = .ok (.putfield 79, 3) := by decide +kernel
theorem d_M_reckon_122 : decode c_M_reckon 122 = .ok (.aload_n 0, 1) := by decide +kernel
theorem d_M_reckon_123 : decode c_M_reckon 123 = .ok (.getfield 75, 3) := by decide +kernel
theorem d_M_reckon_126 : decode c_M_reckon 126 = .ok (.aload_n 0, 1) := by decide +kernel
theorem d_M_reckon_127 : decode c_M_reckon 127 = .ok (.getfield 79, 3) := by decide +kernel
theorem d_M_reckon_130 : decode c_M_reckon 130 = .ok (.invokestatic 82, 3) := by decide +kernel
theorem d_M_reckon_133 : decode c_M_reckon 133 = .ok (.lstore 11, 2) := by decide +kernel
theorem d_M_reckon_135 : decode c_M_reckon 135 = .ok (.aload_n 0, 1) := by decide +kernel
theorem d_M_reckon_136 : decode c_M_reckon 136 = .ok (.aload_n 0, 1) := by decide +kernel
theorem d_M_reckon_137 : decode c_M_reckon 137 = .ok (.getfield 75, 3) := by decide +kernel
theorem d_M_reckon_140 : decode c_M_reckon 140 = .ok (.lload 11, 2) := by decide +kernel
theorem d_M_reckon_142 : decode c_M_reckon 142 = .ok (.ldiv, 1) := by decide +kernel
theorem d_M_reckon_143 : decode c_M_reckon 143 = .ok (.putfield 75, 3) := by decide +kernel
theorem d_M_reckon_146 : decode c_M_reckon 146 = .ok (.aload_n 0, 1) := by decide +kernel
theorem d_M_reckon_147 : decode c_M_reckon 147 = .ok (.aload_n 0, 1) := by decide +kernel
theorem d_M_reckon_148 : decode c_M_reckon 148 = .ok (.getfield 79, 3) := by decide +kernel
theorem d_M_reckon_151 : decode c_M_reckon 151 = .ok (.lload 11, 2) := by decide +kernel
theorem d_M_reckon_153 : decode c_M_reckon 153 = .ok (.ldiv, 1) := by decide +kernel
theorem d_M_reckon_154 : decode c_M_reckon 154 = .ok (.putfield 79, 3) := by decide +kernel
theorem d_M_reckon_157 : decode c_M_reckon 157 = .ok (.return_, 1) := by decide +kernel
set_option maxHeartbeats 1000000 in
set_option maxRecDepth 100000 in
theorem m_M_reckon_1 (l : Launch) (D : va_G) (cI cL cZ : ClassId) (md : Nat → Nat) (co : Int) (n : Nat) (sh ra up lw kn fo : Int) (sc ln cb th pl lo pr la : Nat → Int) (cu cl fu fl : Nat → Nat) (ys yl yp : Nat → Int) (k : Nat) (hk : k < n) (hM : eh_MS n sh ra sc ln cb th pl lo pr la cu cl fu fl ys yl yp) : eh_M (S := Unit) l y_M_reckon k_M_reckon 1 29 D classes [(cI, .int), (cL, .long), (cZ, .boolean)] [.ref (md 0), .int (eI ((k : Nat) : Int)), .int (eI 1)] [((md 0), .inr (5, [.int (eI co), .int (eI ((n : Nat) : Int)), .ref (md 1), .ref (md 2), .ref (md 3), .int (eI sh), .int (eI ra), .ref (md 4), .ref (md 5), .ref (md 6), .ref (md 7), .ref (md 8), .long (eL up), .long (eL lw), .ref (md 9), .ref (md 10), .ref (md 11), .ref (md 12), .ref (md 13), .ref (md 14), .ref (md 15), .int (eI kn), .int (eI fo)])), ((md 1), aI cI 25 sc), ((md 2), aI cI 4 ln), ((md 3), aI cZ 4 cb), ((md 4), aI cZ 3 th), ((md 5), aI cI 3 pl), ((md 6), aI cI 3 lo), ((md 7), aI cI 3 pr), ((md 8), aI cI 30 la)] (fun _ => True) (fun _ => none) (fun _ => [((md 0), .inr (5, [.int (eI co), .int (eI ((n : Nat) : Int)), .ref (md 1), .ref (md 2), .ref (md 3), .int (eI sh), .int (eI ra), .ref (md 4), .ref (md 5), .ref (md 6), .ref (md 7), .ref (md 8), .long (eL ((cu k : Nat) : Int)), .long (eL ((cl k : Nat) : Int)), .ref (md 9), .ref (md 10), .ref (md 11), .ref (md 12), .ref (md 13), .ref (md 14), .ref (md 15), .int (eI kn), .int (eI fo)])), ((md 1), aI cI 25 sc), ((md 2), aI cI 4 ln), ((md 3), aI cZ 4 cb), ((md 4), aI cZ 3 th), ((md 5), aI cI 3 pl), ((md 6), aI cI 3 lo), ((md 7), aI cI 3 pr), ((md 8), aI cI 30 la)]) := by
  intro sz
  refine Met.ofW (cc := c_M_reckon) (maxL := 13) (ret := none) (by decide) rfl ?_
  intro p e s m args below meth c s₁ B hml hv
  obtain ⟨hargs, hsz, hP, hK, hD0, hN⟩ := hv
  have hx := B.exec
  have hb := B.bytes
  have hrt := B.returns
  have hts := atoms_spec (ws := k_M_reckon :: ew_t) B.pre
  have htb : ∀ w ∈ ew_t, w.before args s = true := fun w h => hts w (List.mem_cons_of_mem _ h)
  have hown : s.vm.findClass "EarthHaulsModel" = some m.cls := findClass_of_methodNamed B.named
  have hlocks := B.notSynchronized
  have hE : entryFrame m args 13 = entryFrame m ([.ref (md 0), .int (eI ((k : Nat) : Int)), .int (eI 1)] : List Value).toArray 13 := by rw [hargs]
  rw [hE]
  clear hE hts B hargs
  generalize hRe : (headSpec _ _).room = R
  have hR1 : R.frames = 1 := by rw [← hRe]; rfl
  have hR2 : R.locals = 29 := by rw [← hRe]; rfl
  clear hRe
  generalize hQ : MQ below _ _ s 0 0 _ = Q
  subst hsz
  have hD := hD0.self (sz := s.heap.size)
  generalize hAe : va_A [((md 0), .inr (5, [.int (eI co), .int (eI ((n : Nat) : Int)), .ref (md 1), .ref (md 2), .ref (md 3), .int (eI sh), .int (eI ra), .ref (md 4), .ref (md 5), .ref (md 6), .ref (md 7), .ref (md 8), .long (eL up), .long (eL lw), .ref (md 9), .ref (md 10), .ref (md 11), .ref (md 12), .ref (md 13), .ref (md 14), .ref (md 15), .int (eI kn), .int (eI fo)])), ((md 1), aI cI 25 sc), ((md 2), aI cI 4 ln), ((md 3), aI cZ 4 cb), ((md 4), aI cZ 3 th), ((md 5), aI cI 3 pl), ((md 6), aI cI 3 lo), ((md 7), aI cI 3 pr), ((md 8), aI cI 30 la)] s.heap.size = A at hD hQ
  have hA : ∀ q : Nat, s.heap.size ≤ q → A q := fun q h => by rw [← hAe]; exact Or.inr h
  have hS : va_S A s.heap s.heap [] := va_S.rf
  have hP : va_P D classes [((md 0), .inr (5, [.int (eI co), .int (eI ((n : Nat) : Int)), .ref (md 1), .ref (md 2), .ref (md 3), .int (eI sh), .int (eI ra), .ref (md 4), .ref (md 5), .ref (md 6), .ref (md 7), .ref (md 8), .long (eL up), .long (eL lw), .ref (md 9), .ref (md 10), .ref (md 11), .ref (md 12), .ref (md 13), .ref (md 14), .ref (md 15), .int (eI kn), .int (eI fo)])), ((md 1), aI cI 25 sc), ((md 2), aI cI 4 ln), ((md 3), aI cZ 4 cb), ((md 4), aI cZ 3 th), ((md 5), aI cI 3 pl), ((md 6), aI cI 3 lo), ((md 7), aI cI 3 pr), ((md 8), aI cI 30 la)] s.heap := hP
  have hl := lv_entry ([.ref (md 0), .int (eI ((k : Nat) : Int)), .int (eI 1)]) (n := 13) (Nat.le_of_ble_eq_true rfl)
  rw [lg_entry_eq]
  generalize (lg_sl ([.ref (md 0), .int (eI ((k : Nat) : Int)), .int (eI 1)]) ++ List.replicate (13 - (lg_sl ([.ref (md 0), .int (eI ((k : Nat) : Int)), .int (eI 1)])).length) Slot.unset).toArray = ls at hl ⊢
  have hl : lv_has ls 13 [(0, .ref (md 0)), (1, .int (eI ((k : Nat) : Int))), (2, .int (eI 1))] := hl
  have hn5 := hM.1.1
  obtain ⟨s1, s2, s3, s4, s5, f1, f2⟩ := hM.2.2 k hk
  obtain ⟨y1, hy1⟩ : ∃ z, z = (1 * (sc (5 * k))) := ⟨_, rfl⟩
  have by1 : -100 ≤ y1 ∧ y1 ≤ 100 := by omega
  obtain ⟨y2, hy2⟩ : ∃ z, z = (1 * (sc (5 * k + 1))) := ⟨_, rfl⟩
  have by2 : -100 ≤ y2 ∧ y2 ≤ 100 := by omega
  obtain ⟨y3, hy3⟩ : ∃ z, z = (1 * (sc (5 * k + 2))) := ⟨_, rfl⟩
  have by3 : -100 ≤ y3 ∧ y3 ≤ 100 := by omega
  have hfr : eh_fr (cu k) (cl k) (eh_anm y1 y2 y3 (sc (5 * k + 3)) (sc (5 * k + 4))) (eh_adm y1 y2 y3) := by
    rw [show y1 = sc (5 * k) by omega, show y2 = sc (5 * k + 1) by omega, show y3 = sc (5 * k + 2) by omega]
    exact f1
  obtain ⟨r1, r2, r3, r4, r5, r6⟩ := eh_ref_fr by1 by2 by3 s4 s5
  obtain ⟨nn, hnn⟩ : ∃ nn : Nat, (((eh_ab y1 y2 (sc (5 * k + 3))) * (eh_ap y2 y3)) + ((eh_ab y2 y3 (sc (5 * k + 4))) * (eh_ap y1 y2))) = (nn : Int) := Int.eq_ofNat_of_zero_le r2
  obtain ⟨dd, hdd⟩ : ∃ dd : Nat, ((eh_ap y1 y2) * (eh_ap y2 y3)) = (dd : Int) := Int.eq_ofNat_of_zero_le (by omega)
  obtain ⟨e1, e2⟩ := eh_ref_eq by1 by2 by3 s4 s5 hfr hnn hdd
  refine lv_iload_n hx hb d_M_reckon_0 rfl (lv_at hl 2 rfl) ?_
  refine we_if_eq (tgt := 8) hx hb (by constructor <;> omega) d_M_reckon_1 rfl (fun hc1 => absurd hc1 (by omega)) (fun hc1 => ?_)
  refine lv_iconst (v := eI 1) hx hb d_M_reckon_4 rfl ?_
  refine lv_goto (tgt := 9) hx hb d_M_reckon_5 rfl ?_
  refine lv_istore_n hx hb d_M_reckon_9 rfl hl (by decide) rfl (fun ls hl => ?_)
  have hl : lv_has ls 13 [(3, .int (eI 1)), (0, .ref (md 0)), (1, .int (eI ((k : Nat) : Int))), (2, .int (eI 1))] := hl
  refine lv_iload_n hx hb d_M_reckon_10 rfl (lv_at hl 0 rfl) ?_
  refine lv_aload_n hx hb d_M_reckon_11 rfl (lv_at hl 1 rfl) ?_
  refine va_get (D := D) (ci := 5) (v := .ref (md 1)) (C := R_M) (T := T_M) (N := 23) hx hb htb in_M hown hK hP 0 rfl rfl 2 (by decide) (htb _ tb_590) (fun _ h9 => h9) rfl d_M_reckon_12 ?_
  refine lv_iconst (v := eI 5) hx hb d_M_reckon_15 rfl ?_
  refine lv_iload_n hx hb d_M_reckon_16 rfl (lv_at hl 2 rfl) ?_
  refine we_imul hx hb d_M_reckon_17 ?_
  refine we_iald hx hb hK hP 1 0 rfl rfl (5 * k) (by omega) (by omega) (by decide) d_M_reckon_18 ?_
  refine we_imul hx hb d_M_reckon_19 ?_
  refine lv_istore hx hb d_M_reckon_20 hl (by decide) rfl (fun ls hl => ?_)
  have hl : lv_has ls 13 [(4, .int (eI (1 * (sc (5 * k))))), (3, .int (eI 1)), (0, .ref (md 0)), (1, .int (eI ((k : Nat) : Int))), (2, .int (eI 1))] := hl
  rw [← hy1] at hl
  refine lv_iload_n hx hb d_M_reckon_22 rfl (lv_at hl 1 rfl) ?_
  refine lv_aload_n hx hb d_M_reckon_23 rfl (lv_at hl 2 rfl) ?_
  refine va_get (D := D) (ci := 5) (v := .ref (md 1)) (C := R_M) (T := T_M) (N := 23) hx hb htb in_M hown hK hP 0 rfl rfl 2 (by decide) (htb _ tb_590) (fun _ h9 => h9) rfl d_M_reckon_24 ?_
  refine lv_iconst (v := eI 5) hx hb d_M_reckon_27 rfl ?_
  refine lv_iload_n hx hb d_M_reckon_28 rfl (lv_at hl 3 rfl) ?_
  refine we_imul hx hb d_M_reckon_29 ?_
  refine lv_iconst (v := eI 1) hx hb d_M_reckon_30 rfl ?_
  refine we_iadd hx hb d_M_reckon_31 ?_
  refine we_iald hx hb hK hP 1 0 rfl rfl (5 * k + 1) (by omega) (by omega) (by decide) d_M_reckon_32 ?_
  refine we_imul hx hb d_M_reckon_33 ?_
  refine lv_istore hx hb d_M_reckon_34 hl (by decide) rfl (fun ls hl => ?_)
  have hl : lv_has ls 13 [(5, .int (eI (1 * (sc (5 * k + 1))))), (4, .int (eI y1)), (3, .int (eI 1)), (0, .ref (md 0)), (1, .int (eI ((k : Nat) : Int))), (2, .int (eI 1))] := hl
  rw [← hy2] at hl
  refine lv_iload_n hx hb d_M_reckon_36 rfl (lv_at hl 2 rfl) ?_
  refine lv_aload_n hx hb d_M_reckon_37 rfl (lv_at hl 3 rfl) ?_
  refine va_get (D := D) (ci := 5) (v := .ref (md 1)) (C := R_M) (T := T_M) (N := 23) hx hb htb in_M hown hK hP 0 rfl rfl 2 (by decide) (htb _ tb_590) (fun _ h9 => h9) rfl d_M_reckon_38 ?_
  refine lv_iconst (v := eI 5) hx hb d_M_reckon_41 rfl ?_
  refine lv_iload_n hx hb d_M_reckon_42 rfl (lv_at hl 4 rfl) ?_
  refine we_imul hx hb d_M_reckon_43 ?_
  refine lv_iconst (v := eI 2) hx hb d_M_reckon_44 rfl ?_
  refine we_iadd hx hb d_M_reckon_45 ?_
  refine we_iald hx hb hK hP 1 0 rfl rfl (5 * k + 2) (by omega) (by omega) (by decide) d_M_reckon_46 ?_
  refine we_imul hx hb d_M_reckon_47 ?_
  refine lv_istore hx hb d_M_reckon_48 hl (by decide) rfl (fun ls hl => ?_)
  have hl : lv_has ls 13 [(6, .int (eI (1 * (sc (5 * k + 2))))), (5, .int (eI y2)), (4, .int (eI y1)), (3, .int (eI 1)), (0, .ref (md 0)), (1, .int (eI ((k : Nat) : Int))), (2, .int (eI 1))] := hl
  rw [← hy3] at hl
  refine lv_iload hx hb d_M_reckon_50 (lv_at hl 2 rfl) ?_
  refine lv_iload hx hb d_M_reckon_52 (lv_at hl 1 rfl) ?_
  refine eh_cRS (As := [.int (eI y1), .int (eI y2)]) (rest := []) (v := .long (eL (eh_ap y1 y2))) hx hb hml hown htb hN (r_M_apart l D y1 y2 by1 by2) 2 ⟨tb_698, tb_699, tb_7, kin_M_apart⟩ dv_M_apart ⟨by rw [hR1]; decide, by rw [hR2]; decide⟩ hK hP [] rfl [] rfl rfl rfl hl.1 (Nat.le_of_ble_eq_true rfl) d_M_reckon_54 ⟨Nat.zero_le _, Nat.zero_le _⟩ ?_
  refine lv_lstore hx hb d_M_reckon_57 hl (by decide) rfl (fun ls hl => ?_)
  have hl : lv_has ls 13 [(7, .long (eL (eh_ap y1 y2))), (6, .int (eI y3)), (5, .int (eI y2)), (4, .int (eI y1)), (3, .int (eI 1)), (0, .ref (md 0)), (1, .int (eI ((k : Nat) : Int))), (2, .int (eI 1))] := hl
  refine lv_iload hx hb d_M_reckon_59 (lv_at hl 2 rfl) ?_
  refine lv_iload hx hb d_M_reckon_61 (lv_at hl 1 rfl) ?_
  refine eh_cRS (As := [.int (eI y2), .int (eI y3)]) (rest := []) (v := .long (eL (eh_ap y2 y3))) hx hb hml hown htb hN (r_M_apart l D y2 y3 by2 by3) 2 ⟨tb_698, tb_699, tb_7, kin_M_apart⟩ dv_M_apart ⟨by rw [hR1]; decide, by rw [hR2]; decide⟩ hK hP [] rfl [] rfl rfl rfl hl.1 (Nat.le_of_ble_eq_true rfl) d_M_reckon_63 ⟨Nat.zero_le _, Nat.zero_le _⟩ ?_
  refine lv_lstore hx hb d_M_reckon_66 hl (by decide) rfl (fun ls hl => ?_)
  have hl : lv_has ls 13 [(9, .long (eL (eh_ap y2 y3))), (7, .long (eL (eh_ap y1 y2))), (6, .int (eI y3)), (5, .int (eI y2)), (4, .int (eI y1)), (3, .int (eI 1)), (0, .ref (md 0)), (1, .int (eI ((k : Nat) : Int))), (2, .int (eI 1))] := hl
  refine lv_aload_n hx hb d_M_reckon_68 rfl (lv_at hl 6 rfl) ?_
  refine lv_iload hx hb d_M_reckon_69 (lv_at hl 4 rfl) ?_
  refine lv_iload hx hb d_M_reckon_71 (lv_at hl 3 rfl) ?_
  refine lv_aload_n hx hb d_M_reckon_73 rfl (lv_at hl 6 rfl) ?_
  refine va_get (D := D) (ci := 5) (v := .ref (md 1)) (C := R_M) (T := T_M) (N := 23) hx hb htb in_M hown hK hP 0 rfl rfl 2 (by decide) (htb _ tb_590) (fun _ h9 => h9) rfl d_M_reckon_74 ?_
  refine lv_iconst (v := eI 5) hx hb d_M_reckon_77 rfl ?_
  refine lv_iload_n hx hb d_M_reckon_78 rfl (lv_at hl 7 rfl) ?_
  refine we_imul hx hb d_M_reckon_79 ?_
  refine lv_iconst (v := eI 3) hx hb d_M_reckon_80 rfl ?_
  refine we_iadd hx hb d_M_reckon_81 ?_
  refine we_iald hx hb hK hP 1 0 rfl rfl (5 * k + 3) (by omega) (by omega) (by decide) d_M_reckon_82 ?_
  refine eh_cRS (As := [.int (eI y1), .int (eI y2), .int (eI (sc (5 * k + 3)))]) (rest := [.ref (md 0)]) (v := .long (eL (eh_ab y1 y2 (sc (5 * k + 3))))) hx hb hml hown htb hN (r_M_above l D y1 y2 (sc (5 * k + 3)) by1 by2 s4) 3 ⟨tb_701, tb_702, tb_7, kin_M_above⟩ dv_M_above ⟨by rw [hR1]; decide, by rw [hR2]; decide⟩ hK hP [] rfl [] rfl rfl rfl hl.1 (Nat.le_of_ble_eq_true rfl) d_M_reckon_83 ⟨Nat.zero_le _, Nat.zero_le _⟩ ?_
  refine lv_lload hx hb d_M_reckon_86 (lv_at hl 0 rfl) ?_
  refine we_lmul hx hb d_M_reckon_88 ?_
  refine lv_iload hx hb d_M_reckon_89 (lv_at hl 3 rfl) ?_
  refine lv_iload hx hb d_M_reckon_91 (lv_at hl 2 rfl) ?_
  refine lv_aload_n hx hb d_M_reckon_93 rfl (lv_at hl 6 rfl) ?_
  refine va_get (D := D) (ci := 5) (v := .ref (md 1)) (C := R_M) (T := T_M) (N := 23) hx hb htb in_M hown hK hP 0 rfl rfl 2 (by decide) (htb _ tb_590) (fun _ h9 => h9) rfl d_M_reckon_94 ?_
  refine lv_iconst (v := eI 5) hx hb d_M_reckon_97 rfl ?_
  refine lv_iload_n hx hb d_M_reckon_98 rfl (lv_at hl 7 rfl) ?_
  refine we_imul hx hb d_M_reckon_99 ?_
  refine lv_iconst (v := eI 4) hx hb d_M_reckon_100 rfl ?_
  refine we_iadd hx hb d_M_reckon_101 ?_
  refine we_iald hx hb hK hP 1 0 rfl rfl (5 * k + 4) (by omega) (by omega) (by decide) d_M_reckon_102 ?_
  refine eh_cRS (As := [.int (eI y2), .int (eI y3), .int (eI (sc (5 * k + 4)))]) (rest := [.long (eL ((eh_ab y1 y2 (sc (5 * k + 3))) * (eh_ap y2 y3))), .ref (md 0)]) (v := .long (eL (eh_ab y2 y3 (sc (5 * k + 4))))) hx hb hml hown htb hN (r_M_above l D y2 y3 (sc (5 * k + 4)) by2 by3 s5) 3 ⟨tb_701, tb_702, tb_7, kin_M_above⟩ dv_M_above ⟨by rw [hR1]; decide, by rw [hR2]; decide⟩ hK hP [] rfl [] rfl rfl rfl hl.1 (Nat.le_of_ble_eq_true rfl) d_M_reckon_103 ⟨Nat.zero_le _, Nat.zero_le _⟩ ?_
  refine lv_lload hx hb d_M_reckon_106 (lv_at hl 1 rfl) ?_
  refine we_lmul hx hb d_M_reckon_108 ?_
  refine we_ladd hx hb d_M_reckon_109 ?_
  refine va_put (D := D) (ci := 5) (v := .long (eL (((eh_ab y1 y2 (sc (5 * k + 3))) * (eh_ap y2 y3)) + ((eh_ab y2 y3 (sc (5 * k + 4))) * (eh_ap y1 y2))))) (ty := .long) (C := R_M) (T := T_M) (N := 23) hx hb htb in_M t_M t_M_ok n_M hown hK hP hD hS 0 rfl rfl 12 (by decide) (htb _ tb_600) (fun _ h9 => h9) rfl (by decide +kernel) rfl rfl (Nat.le_of_ble_eq_true rfl) d_M_reckon_110 (fun H locs hP hD hS => ?_)
  have hP : va_P D classes [((md 0), .inr (5, [.int (eI co), .int (eI ((n : Nat) : Int)), .ref (md 1), .ref (md 2), .ref (md 3), .int (eI sh), .int (eI ra), .ref (md 4), .ref (md 5), .ref (md 6), .ref (md 7), .ref (md 8), .long (eL (((eh_ab y1 y2 (sc (5 * k + 3))) * (eh_ap y2 y3)) + ((eh_ab y2 y3 (sc (5 * k + 4))) * (eh_ap y1 y2)))), .long (eL lw), .ref (md 9), .ref (md 10), .ref (md 11), .ref (md 12), .ref (md 13), .ref (md 14), .ref (md 15), .int (eI kn), .int (eI fo)])), ((md 1), aI cI 25 sc), ((md 2), aI cI 4 ln), ((md 3), aI cZ 4 cb), ((md 4), aI cZ 3 th), ((md 5), aI cI 3 pl), ((md 6), aI cI 3 lo), ((md 7), aI cI 3 pr), ((md 8), aI cI 30 la)] H := hP
  have hD : va_D A [((md 0), .inr (5, [.int (eI co), .int (eI ((n : Nat) : Int)), .ref (md 1), .ref (md 2), .ref (md 3), .int (eI sh), .int (eI ra), .ref (md 4), .ref (md 5), .ref (md 6), .ref (md 7), .ref (md 8), .long (eL (((eh_ab y1 y2 (sc (5 * k + 3))) * (eh_ap y2 y3)) + ((eh_ab y2 y3 (sc (5 * k + 4))) * (eh_ap y1 y2)))), .long (eL lw), .ref (md 9), .ref (md 10), .ref (md 11), .ref (md 12), .ref (md 13), .ref (md 14), .ref (md 15), .int (eI kn), .int (eI fo)])), ((md 1), aI cI 25 sc), ((md 2), aI cI 4 ln), ((md 3), aI cZ 4 cb), ((md 4), aI cZ 3 th), ((md 5), aI cI 3 pl), ((md 6), aI cI 3 lo), ((md 7), aI cI 3 pr), ((md 8), aI cI 30 la)] := hD
  refine lv_aload_n hx hb d_M_reckon_113 rfl (lv_at hl 6 rfl) ?_
  refine lv_lload hx hb d_M_reckon_114 (lv_at hl 1 rfl) ?_
  refine lv_lload hx hb d_M_reckon_116 (lv_at hl 0 rfl) ?_
  refine we_lmul hx hb d_M_reckon_118 ?_
  refine va_put (D := D) (ci := 5) (v := .long (eL ((eh_ap y1 y2) * (eh_ap y2 y3)))) (ty := .long) (C := R_M) (T := T_M) (N := 23) hx hb htb in_M t_M t_M_ok n_M hown hK hP hD hS 0 rfl rfl 13 (by decide) (htb _ tb_601) (fun _ h9 => h9) rfl (by decide +kernel) rfl rfl (Nat.le_of_ble_eq_true rfl) d_M_reckon_119 (fun H locs hP hD hS => ?_)
  have hP : va_P D classes [((md 0), .inr (5, [.int (eI co), .int (eI ((n : Nat) : Int)), .ref (md 1), .ref (md 2), .ref (md 3), .int (eI sh), .int (eI ra), .ref (md 4), .ref (md 5), .ref (md 6), .ref (md 7), .ref (md 8), .long (eL (((eh_ab y1 y2 (sc (5 * k + 3))) * (eh_ap y2 y3)) + ((eh_ab y2 y3 (sc (5 * k + 4))) * (eh_ap y1 y2)))), .long (eL ((eh_ap y1 y2) * (eh_ap y2 y3))), .ref (md 9), .ref (md 10), .ref (md 11), .ref (md 12), .ref (md 13), .ref (md 14), .ref (md 15), .int (eI kn), .int (eI fo)])), ((md 1), aI cI 25 sc), ((md 2), aI cI 4 ln), ((md 3), aI cZ 4 cb), ((md 4), aI cZ 3 th), ((md 5), aI cI 3 pl), ((md 6), aI cI 3 lo), ((md 7), aI cI 3 pr), ((md 8), aI cI 30 la)] H := hP
  have hD : va_D A [((md 0), .inr (5, [.int (eI co), .int (eI ((n : Nat) : Int)), .ref (md 1), .ref (md 2), .ref (md 3), .int (eI sh), .int (eI ra), .ref (md 4), .ref (md 5), .ref (md 6), .ref (md 7), .ref (md 8), .long (eL (((eh_ab y1 y2 (sc (5 * k + 3))) * (eh_ap y2 y3)) + ((eh_ab y2 y3 (sc (5 * k + 4))) * (eh_ap y1 y2)))), .long (eL ((eh_ap y1 y2) * (eh_ap y2 y3))), .ref (md 9), .ref (md 10), .ref (md 11), .ref (md 12), .ref (md 13), .ref (md 14), .ref (md 15), .int (eI kn), .int (eI fo)])), ((md 1), aI cI 25 sc), ((md 2), aI cI 4 ln), ((md 3), aI cZ 4 cb), ((md 4), aI cZ 3 th), ((md 5), aI cI 3 pl), ((md 6), aI cI 3 lo), ((md 7), aI cI 3 pr), ((md 8), aI cI 30 la)] := hD
  rw [hnn, hdd] at hP hD
  refine lv_aload_n hx hb d_M_reckon_122 rfl (lv_at hl 6 rfl) ?_
  refine va_get (D := D) (ci := 5) (v := .long (eL ((nn : Nat) : Int))) (C := R_M) (T := T_M) (N := 23) hx hb htb in_M hown hK hP 0 rfl rfl 12 (by decide) (htb _ tb_600) (fun _ h9 => h9) rfl d_M_reckon_123 ?_
  refine lv_aload_n hx hb d_M_reckon_126 rfl (lv_at hl 6 rfl) ?_
  refine va_get (D := D) (ci := 5) (v := .long (eL ((dd : Nat) : Int))) (C := R_M) (T := T_M) (N := 23) hx hb htb in_M hown hK hP 0 rfl rfl 13 (by decide) (htb _ tb_601) (fun _ h9 => h9) rfl d_M_reckon_127 ?_
  refine eh_cRS (As := [.long (eL ((nn : Nat) : Int)), .long (eL ((dd : Nat) : Int))]) (rest := []) (v := .long (eL ((Nat.gcd nn dd : Nat) : Int))) hx hb hml hown htb hN (r_M_divisor l D nn dd (by omega) (by omega)) 2 ⟨tb_704, tb_705, tb_7, kin_M_divisor⟩ dv_M_divisor ⟨by rw [hR1]; decide, by rw [hR2]; decide⟩ hK hP [] rfl [] rfl rfl rfl hl.1 (Nat.le_of_ble_eq_true rfl) d_M_reckon_130 ⟨Nat.zero_le _, Nat.zero_le _⟩ ?_
  refine lv_lstore hx hb d_M_reckon_133 hl (by decide) rfl (fun ls hl => ?_)
  have hl : lv_has ls 13 [(11, .long (eL ((Nat.gcd nn dd : Nat) : Int))), (9, .long (eL (eh_ap y2 y3))), (7, .long (eL (eh_ap y1 y2))), (6, .int (eI y3)), (5, .int (eI y2)), (4, .int (eI y1)), (3, .int (eI 1)), (0, .ref (md 0)), (1, .int (eI ((k : Nat) : Int))), (2, .int (eI 1))] := hl
  have hgp : 0 < Nat.gcd nn dd := Nat.gcd_pos_of_pos_right _ (by omega)
  have hgle : Nat.gcd nn dd ≤ dd := Nat.gcd_le_right _ (by omega)
  refine lv_aload_n hx hb d_M_reckon_135 rfl (lv_at hl 7 rfl) ?_
  refine lv_aload_n hx hb d_M_reckon_136 rfl (lv_at hl 7 rfl) ?_
  refine va_get (D := D) (ci := 5) (v := .long (eL ((nn : Nat) : Int))) (C := R_M) (T := T_M) (N := 23) hx hb htb in_M hown hK hP 0 rfl rfl 12 (by decide) (htb _ tb_600) (fun _ h9 => h9) rfl d_M_reckon_137 ?_
  refine lv_lload hx hb d_M_reckon_140 (lv_at hl 0 rfl) ?_
  refine we_ldiv hx hb (by constructor <;> omega) (by constructor <;> omega) (by omega) (by omega) d_M_reckon_142 ?_
  refine va_put (D := D) (ci := 5) (v := .long (eL (((nn : Nat) : Int) / ((Nat.gcd nn dd : Nat) : Int)))) (ty := .long) (C := R_M) (T := T_M) (N := 23) hx hb htb in_M t_M t_M_ok n_M hown hK hP hD hS 0 rfl rfl 12 (by decide) (htb _ tb_600) (fun _ h9 => h9) rfl (by decide +kernel) rfl rfl (Nat.le_of_ble_eq_true rfl) d_M_reckon_143 (fun H locs hP hD hS => ?_)
  have hP : va_P D classes [((md 0), .inr (5, [.int (eI co), .int (eI ((n : Nat) : Int)), .ref (md 1), .ref (md 2), .ref (md 3), .int (eI sh), .int (eI ra), .ref (md 4), .ref (md 5), .ref (md 6), .ref (md 7), .ref (md 8), .long (eL (((nn : Nat) : Int) / ((Nat.gcd nn dd : Nat) : Int))), .long (eL ((dd : Nat) : Int)), .ref (md 9), .ref (md 10), .ref (md 11), .ref (md 12), .ref (md 13), .ref (md 14), .ref (md 15), .int (eI kn), .int (eI fo)])), ((md 1), aI cI 25 sc), ((md 2), aI cI 4 ln), ((md 3), aI cZ 4 cb), ((md 4), aI cZ 3 th), ((md 5), aI cI 3 pl), ((md 6), aI cI 3 lo), ((md 7), aI cI 3 pr), ((md 8), aI cI 30 la)] H := hP
  have hD : va_D A [((md 0), .inr (5, [.int (eI co), .int (eI ((n : Nat) : Int)), .ref (md 1), .ref (md 2), .ref (md 3), .int (eI sh), .int (eI ra), .ref (md 4), .ref (md 5), .ref (md 6), .ref (md 7), .ref (md 8), .long (eL (((nn : Nat) : Int) / ((Nat.gcd nn dd : Nat) : Int))), .long (eL ((dd : Nat) : Int)), .ref (md 9), .ref (md 10), .ref (md 11), .ref (md 12), .ref (md 13), .ref (md 14), .ref (md 15), .int (eI kn), .int (eI fo)])), ((md 1), aI cI 25 sc), ((md 2), aI cI 4 ln), ((md 3), aI cZ 4 cb), ((md 4), aI cZ 3 th), ((md 5), aI cI 3 pl), ((md 6), aI cI 3 lo), ((md 7), aI cI 3 pr), ((md 8), aI cI 30 la)] := hD
  refine lv_aload_n hx hb d_M_reckon_146 rfl (lv_at hl 7 rfl) ?_
  refine lv_aload_n hx hb d_M_reckon_147 rfl (lv_at hl 7 rfl) ?_
  refine va_get (D := D) (ci := 5) (v := .long (eL ((dd : Nat) : Int))) (C := R_M) (T := T_M) (N := 23) hx hb htb in_M hown hK hP 0 rfl rfl 13 (by decide) (htb _ tb_601) (fun _ h9 => h9) rfl d_M_reckon_148 ?_
  refine lv_lload hx hb d_M_reckon_151 (lv_at hl 0 rfl) ?_
  refine we_ldiv hx hb (by constructor <;> omega) (by constructor <;> omega) (by omega) (by omega) d_M_reckon_153 ?_
  refine va_put (D := D) (ci := 5) (v := .long (eL (((dd : Nat) : Int) / ((Nat.gcd nn dd : Nat) : Int)))) (ty := .long) (C := R_M) (T := T_M) (N := 23) hx hb htb in_M t_M t_M_ok n_M hown hK hP hD hS 0 rfl rfl 13 (by decide) (htb _ tb_601) (fun _ h9 => h9) rfl (by decide +kernel) rfl rfl (Nat.le_of_ble_eq_true rfl) d_M_reckon_154 (fun H locs hP hD hS => ?_)
  have hP : va_P D classes [((md 0), .inr (5, [.int (eI co), .int (eI ((n : Nat) : Int)), .ref (md 1), .ref (md 2), .ref (md 3), .int (eI sh), .int (eI ra), .ref (md 4), .ref (md 5), .ref (md 6), .ref (md 7), .ref (md 8), .long (eL (((nn : Nat) : Int) / ((Nat.gcd nn dd : Nat) : Int))), .long (eL (((dd : Nat) : Int) / ((Nat.gcd nn dd : Nat) : Int))), .ref (md 9), .ref (md 10), .ref (md 11), .ref (md 12), .ref (md 13), .ref (md 14), .ref (md 15), .int (eI kn), .int (eI fo)])), ((md 1), aI cI 25 sc), ((md 2), aI cI 4 ln), ((md 3), aI cZ 4 cb), ((md 4), aI cZ 3 th), ((md 5), aI cI 3 pl), ((md 6), aI cI 3 lo), ((md 7), aI cI 3 pr), ((md 8), aI cI 30 la)] H := hP
  have hD : va_D A [((md 0), .inr (5, [.int (eI co), .int (eI ((n : Nat) : Int)), .ref (md 1), .ref (md 2), .ref (md 3), .int (eI sh), .int (eI ra), .ref (md 4), .ref (md 5), .ref (md 6), .ref (md 7), .ref (md 8), .long (eL (((nn : Nat) : Int) / ((Nat.gcd nn dd : Nat) : Int))), .long (eL (((dd : Nat) : Int) / ((Nat.gcd nn dd : Nat) : Int))), .ref (md 9), .ref (md 10), .ref (md 11), .ref (md 12), .ref (md 13), .ref (md 14), .ref (md 15), .int (eI kn), .int (eI fo)])), ((md 1), aI cI 25 sc), ((md 2), aI cI 4 ln), ((md 3), aI cZ 4 cb), ((md 4), aI cZ 3 th), ((md 5), aI cI 3 pl), ((md 6), aI cI 3 lo), ((md 7), aI cI 3 pr), ((md 8), aI cI 30 la)] := hD
  have i1 : (((nn : Nat) : Int) / ((Nat.gcd nn dd : Nat) : Int)) = ((cu k : Nat) : Int) := by rw [← e1]; rfl
  have i2 : (((dd : Nat) : Int) / ((Nat.gcd nn dd : Nat) : Int)) = ((cl k : Nat) : Int) := by rw [← e2]; rfl
  rw [i1, i2] at hP hD
  subst hQ
  exact W.vret hx hb hrt (fun t9 ht hW => ⟨⟨(), rfl, trivial, by rw [ht]; exact hP, hD⟩, hS.F ht⟩) hS.2.2 d_M_reckon_157
set_option maxHeartbeats 1000000 in
set_option maxRecDepth 100000 in
theorem m_M_reckon_0 (l : Launch) (D : va_G) (cI cL cZ : ClassId) (md : Nat → Nat) (co : Int) (n : Nat) (sh ra up lw kn fo : Int) (sc ln cb th pl lo pr la : Nat → Int) (cu cl fu fl : Nat → Nat) (ys yl yp : Nat → Int) (k : Nat) (hk : k < n) (hM : eh_MS n sh ra sc ln cb th pl lo pr la cu cl fu fl ys yl yp) : eh_M (S := Unit) l y_M_reckon k_M_reckon 1 29 D classes [(cI, .int), (cL, .long), (cZ, .boolean)] [.ref (md 0), .int (eI ((k : Nat) : Int)), .int (eI 0)] [((md 0), .inr (5, [.int (eI co), .int (eI ((n : Nat) : Int)), .ref (md 1), .ref (md 2), .ref (md 3), .int (eI sh), .int (eI ra), .ref (md 4), .ref (md 5), .ref (md 6), .ref (md 7), .ref (md 8), .long (eL up), .long (eL lw), .ref (md 9), .ref (md 10), .ref (md 11), .ref (md 12), .ref (md 13), .ref (md 14), .ref (md 15), .int (eI kn), .int (eI fo)])), ((md 1), aI cI 25 sc), ((md 2), aI cI 4 ln), ((md 3), aI cZ 4 cb), ((md 4), aI cZ 3 th), ((md 5), aI cI 3 pl), ((md 6), aI cI 3 lo), ((md 7), aI cI 3 pr), ((md 8), aI cI 30 la)] (fun _ => True) (fun _ => none) (fun _ => [((md 0), .inr (5, [.int (eI co), .int (eI ((n : Nat) : Int)), .ref (md 1), .ref (md 2), .ref (md 3), .int (eI sh), .int (eI ra), .ref (md 4), .ref (md 5), .ref (md 6), .ref (md 7), .ref (md 8), .long (eL ((fu k : Nat) : Int)), .long (eL ((fl k : Nat) : Int)), .ref (md 9), .ref (md 10), .ref (md 11), .ref (md 12), .ref (md 13), .ref (md 14), .ref (md 15), .int (eI kn), .int (eI fo)])), ((md 1), aI cI 25 sc), ((md 2), aI cI 4 ln), ((md 3), aI cZ 4 cb), ((md 4), aI cZ 3 th), ((md 5), aI cI 3 pl), ((md 6), aI cI 3 lo), ((md 7), aI cI 3 pr), ((md 8), aI cI 30 la)]) := by
  intro sz
  refine Met.ofW (cc := c_M_reckon) (maxL := 13) (ret := none) (by decide) rfl ?_
  intro p e s m args below meth c s₁ B hml hv
  obtain ⟨hargs, hsz, hP, hK, hD0, hN⟩ := hv
  have hx := B.exec
  have hb := B.bytes
  have hrt := B.returns
  have hts := atoms_spec (ws := k_M_reckon :: ew_t) B.pre
  have htb : ∀ w ∈ ew_t, w.before args s = true := fun w h => hts w (List.mem_cons_of_mem _ h)
  have hown : s.vm.findClass "EarthHaulsModel" = some m.cls := findClass_of_methodNamed B.named
  have hlocks := B.notSynchronized
  have hE : entryFrame m args 13 = entryFrame m ([.ref (md 0), .int (eI ((k : Nat) : Int)), .int (eI 0)] : List Value).toArray 13 := by rw [hargs]
  rw [hE]
  clear hE hts B hargs
  generalize hRe : (headSpec _ _).room = R
  have hR1 : R.frames = 1 := by rw [← hRe]; rfl
  have hR2 : R.locals = 29 := by rw [← hRe]; rfl
  clear hRe
  generalize hQ : MQ below _ _ s 0 0 _ = Q
  subst hsz
  have hD := hD0.self (sz := s.heap.size)
  generalize hAe : va_A [((md 0), .inr (5, [.int (eI co), .int (eI ((n : Nat) : Int)), .ref (md 1), .ref (md 2), .ref (md 3), .int (eI sh), .int (eI ra), .ref (md 4), .ref (md 5), .ref (md 6), .ref (md 7), .ref (md 8), .long (eL up), .long (eL lw), .ref (md 9), .ref (md 10), .ref (md 11), .ref (md 12), .ref (md 13), .ref (md 14), .ref (md 15), .int (eI kn), .int (eI fo)])), ((md 1), aI cI 25 sc), ((md 2), aI cI 4 ln), ((md 3), aI cZ 4 cb), ((md 4), aI cZ 3 th), ((md 5), aI cI 3 pl), ((md 6), aI cI 3 lo), ((md 7), aI cI 3 pr), ((md 8), aI cI 30 la)] s.heap.size = A at hD hQ
  have hA : ∀ q : Nat, s.heap.size ≤ q → A q := fun q h => by rw [← hAe]; exact Or.inr h
  have hS : va_S A s.heap s.heap [] := va_S.rf
  have hP : va_P D classes [((md 0), .inr (5, [.int (eI co), .int (eI ((n : Nat) : Int)), .ref (md 1), .ref (md 2), .ref (md 3), .int (eI sh), .int (eI ra), .ref (md 4), .ref (md 5), .ref (md 6), .ref (md 7), .ref (md 8), .long (eL up), .long (eL lw), .ref (md 9), .ref (md 10), .ref (md 11), .ref (md 12), .ref (md 13), .ref (md 14), .ref (md 15), .int (eI kn), .int (eI fo)])), ((md 1), aI cI 25 sc), ((md 2), aI cI 4 ln), ((md 3), aI cZ 4 cb), ((md 4), aI cZ 3 th), ((md 5), aI cI 3 pl), ((md 6), aI cI 3 lo), ((md 7), aI cI 3 pr), ((md 8), aI cI 30 la)] s.heap := hP
  have hl := lv_entry ([.ref (md 0), .int (eI ((k : Nat) : Int)), .int (eI 0)]) (n := 13) (Nat.le_of_ble_eq_true rfl)
  rw [lg_entry_eq]
  generalize (lg_sl ([.ref (md 0), .int (eI ((k : Nat) : Int)), .int (eI 0)]) ++ List.replicate (13 - (lg_sl ([.ref (md 0), .int (eI ((k : Nat) : Int)), .int (eI 0)])).length) Slot.unset).toArray = ls at hl ⊢
  have hl : lv_has ls 13 [(0, .ref (md 0)), (1, .int (eI ((k : Nat) : Int))), (2, .int (eI 0))] := hl
  have hn5 := hM.1.1
  obtain ⟨s1, s2, s3, s4, s5, f1, f2⟩ := hM.2.2 k hk
  obtain ⟨y1, hy1⟩ : ∃ z, z = ((-1) * (sc (5 * k))) := ⟨_, rfl⟩
  have by1 : -100 ≤ y1 ∧ y1 ≤ 100 := by omega
  obtain ⟨y2, hy2⟩ : ∃ z, z = ((-1) * (sc (5 * k + 1))) := ⟨_, rfl⟩
  have by2 : -100 ≤ y2 ∧ y2 ≤ 100 := by omega
  obtain ⟨y3, hy3⟩ : ∃ z, z = ((-1) * (sc (5 * k + 2))) := ⟨_, rfl⟩
  have by3 : -100 ≤ y3 ∧ y3 ≤ 100 := by omega
  have hfr : eh_fr (fu k) (fl k) (eh_anm y1 y2 y3 (sc (5 * k + 3)) (sc (5 * k + 4))) (eh_adm y1 y2 y3) := by
    rw [show y1 = -sc (5 * k) by omega, show y2 = -sc (5 * k + 1) by omega, show y3 = -sc (5 * k + 2) by omega]
    exact f2
  obtain ⟨r1, r2, r3, r4, r5, r6⟩ := eh_ref_fr by1 by2 by3 s4 s5
  obtain ⟨nn, hnn⟩ : ∃ nn : Nat, (((eh_ab y1 y2 (sc (5 * k + 3))) * (eh_ap y2 y3)) + ((eh_ab y2 y3 (sc (5 * k + 4))) * (eh_ap y1 y2))) = (nn : Int) := Int.eq_ofNat_of_zero_le r2
  obtain ⟨dd, hdd⟩ : ∃ dd : Nat, ((eh_ap y1 y2) * (eh_ap y2 y3)) = (dd : Int) := Int.eq_ofNat_of_zero_le (by omega)
  obtain ⟨e1, e2⟩ := eh_ref_eq by1 by2 by3 s4 s5 hfr hnn hdd
  refine lv_iload_n hx hb d_M_reckon_0 rfl (lv_at hl 2 rfl) ?_
  refine we_if_eq (tgt := 8) hx hb (by constructor <;> omega) d_M_reckon_1 rfl (fun hc1 => ?_) (fun hc1 => absurd hc1 (by omega))
  refine lv_iconst (v := eI (-1)) hx hb d_M_reckon_8 rfl ?_
  refine lv_istore_n hx hb d_M_reckon_9 rfl hl (by decide) rfl (fun ls hl => ?_)
  have hl : lv_has ls 13 [(3, .int (eI (-1))), (0, .ref (md 0)), (1, .int (eI ((k : Nat) : Int))), (2, .int (eI 0))] := hl
  refine lv_iload_n hx hb d_M_reckon_10 rfl (lv_at hl 0 rfl) ?_
  refine lv_aload_n hx hb d_M_reckon_11 rfl (lv_at hl 1 rfl) ?_
  refine va_get (D := D) (ci := 5) (v := .ref (md 1)) (C := R_M) (T := T_M) (N := 23) hx hb htb in_M hown hK hP 0 rfl rfl 2 (by decide) (htb _ tb_590) (fun _ h9 => h9) rfl d_M_reckon_12 ?_
  refine lv_iconst (v := eI 5) hx hb d_M_reckon_15 rfl ?_
  refine lv_iload_n hx hb d_M_reckon_16 rfl (lv_at hl 2 rfl) ?_
  refine we_imul hx hb d_M_reckon_17 ?_
  refine we_iald hx hb hK hP 1 0 rfl rfl (5 * k) (by omega) (by omega) (by decide) d_M_reckon_18 ?_
  refine we_imul hx hb d_M_reckon_19 ?_
  refine lv_istore hx hb d_M_reckon_20 hl (by decide) rfl (fun ls hl => ?_)
  have hl : lv_has ls 13 [(4, .int (eI ((-1) * (sc (5 * k))))), (3, .int (eI (-1))), (0, .ref (md 0)), (1, .int (eI ((k : Nat) : Int))), (2, .int (eI 0))] := hl
  rw [← hy1] at hl
  refine lv_iload_n hx hb d_M_reckon_22 rfl (lv_at hl 1 rfl) ?_
  refine lv_aload_n hx hb d_M_reckon_23 rfl (lv_at hl 2 rfl) ?_
  refine va_get (D := D) (ci := 5) (v := .ref (md 1)) (C := R_M) (T := T_M) (N := 23) hx hb htb in_M hown hK hP 0 rfl rfl 2 (by decide) (htb _ tb_590) (fun _ h9 => h9) rfl d_M_reckon_24 ?_
  refine lv_iconst (v := eI 5) hx hb d_M_reckon_27 rfl ?_
  refine lv_iload_n hx hb d_M_reckon_28 rfl (lv_at hl 3 rfl) ?_
  refine we_imul hx hb d_M_reckon_29 ?_
  refine lv_iconst (v := eI 1) hx hb d_M_reckon_30 rfl ?_
  refine we_iadd hx hb d_M_reckon_31 ?_
  refine we_iald hx hb hK hP 1 0 rfl rfl (5 * k + 1) (by omega) (by omega) (by decide) d_M_reckon_32 ?_
  refine we_imul hx hb d_M_reckon_33 ?_
  refine lv_istore hx hb d_M_reckon_34 hl (by decide) rfl (fun ls hl => ?_)
  have hl : lv_has ls 13 [(5, .int (eI ((-1) * (sc (5 * k + 1))))), (4, .int (eI y1)), (3, .int (eI (-1))), (0, .ref (md 0)), (1, .int (eI ((k : Nat) : Int))), (2, .int (eI 0))] := hl
  rw [← hy2] at hl
  refine lv_iload_n hx hb d_M_reckon_36 rfl (lv_at hl 2 rfl) ?_
  refine lv_aload_n hx hb d_M_reckon_37 rfl (lv_at hl 3 rfl) ?_
  refine va_get (D := D) (ci := 5) (v := .ref (md 1)) (C := R_M) (T := T_M) (N := 23) hx hb htb in_M hown hK hP 0 rfl rfl 2 (by decide) (htb _ tb_590) (fun _ h9 => h9) rfl d_M_reckon_38 ?_
  refine lv_iconst (v := eI 5) hx hb d_M_reckon_41 rfl ?_
  refine lv_iload_n hx hb d_M_reckon_42 rfl (lv_at hl 4 rfl) ?_
  refine we_imul hx hb d_M_reckon_43 ?_
  refine lv_iconst (v := eI 2) hx hb d_M_reckon_44 rfl ?_
  refine we_iadd hx hb d_M_reckon_45 ?_
  refine we_iald hx hb hK hP 1 0 rfl rfl (5 * k + 2) (by omega) (by omega) (by decide) d_M_reckon_46 ?_
  refine we_imul hx hb d_M_reckon_47 ?_
  refine lv_istore hx hb d_M_reckon_48 hl (by decide) rfl (fun ls hl => ?_)
  have hl : lv_has ls 13 [(6, .int (eI ((-1) * (sc (5 * k + 2))))), (5, .int (eI y2)), (4, .int (eI y1)), (3, .int (eI (-1))), (0, .ref (md 0)), (1, .int (eI ((k : Nat) : Int))), (2, .int (eI 0))] := hl
  rw [← hy3] at hl
  refine lv_iload hx hb d_M_reckon_50 (lv_at hl 2 rfl) ?_
  refine lv_iload hx hb d_M_reckon_52 (lv_at hl 1 rfl) ?_
  refine eh_cRS (As := [.int (eI y1), .int (eI y2)]) (rest := []) (v := .long (eL (eh_ap y1 y2))) hx hb hml hown htb hN (r_M_apart l D y1 y2 by1 by2) 2 ⟨tb_698, tb_699, tb_7, kin_M_apart⟩ dv_M_apart ⟨by rw [hR1]; decide, by rw [hR2]; decide⟩ hK hP [] rfl [] rfl rfl rfl hl.1 (Nat.le_of_ble_eq_true rfl) d_M_reckon_54 ⟨Nat.zero_le _, Nat.zero_le _⟩ ?_
  refine lv_lstore hx hb d_M_reckon_57 hl (by decide) rfl (fun ls hl => ?_)
  have hl : lv_has ls 13 [(7, .long (eL (eh_ap y1 y2))), (6, .int (eI y3)), (5, .int (eI y2)), (4, .int (eI y1)), (3, .int (eI (-1))), (0, .ref (md 0)), (1, .int (eI ((k : Nat) : Int))), (2, .int (eI 0))] := hl
  refine lv_iload hx hb d_M_reckon_59 (lv_at hl 2 rfl) ?_
  refine lv_iload hx hb d_M_reckon_61 (lv_at hl 1 rfl) ?_
  refine eh_cRS (As := [.int (eI y2), .int (eI y3)]) (rest := []) (v := .long (eL (eh_ap y2 y3))) hx hb hml hown htb hN (r_M_apart l D y2 y3 by2 by3) 2 ⟨tb_698, tb_699, tb_7, kin_M_apart⟩ dv_M_apart ⟨by rw [hR1]; decide, by rw [hR2]; decide⟩ hK hP [] rfl [] rfl rfl rfl hl.1 (Nat.le_of_ble_eq_true rfl) d_M_reckon_63 ⟨Nat.zero_le _, Nat.zero_le _⟩ ?_
  refine lv_lstore hx hb d_M_reckon_66 hl (by decide) rfl (fun ls hl => ?_)
  have hl : lv_has ls 13 [(9, .long (eL (eh_ap y2 y3))), (7, .long (eL (eh_ap y1 y2))), (6, .int (eI y3)), (5, .int (eI y2)), (4, .int (eI y1)), (3, .int (eI (-1))), (0, .ref (md 0)), (1, .int (eI ((k : Nat) : Int))), (2, .int (eI 0))] := hl
  refine lv_aload_n hx hb d_M_reckon_68 rfl (lv_at hl 6 rfl) ?_
  refine lv_iload hx hb d_M_reckon_69 (lv_at hl 4 rfl) ?_
  refine lv_iload hx hb d_M_reckon_71 (lv_at hl 3 rfl) ?_
  refine lv_aload_n hx hb d_M_reckon_73 rfl (lv_at hl 6 rfl) ?_
  refine va_get (D := D) (ci := 5) (v := .ref (md 1)) (C := R_M) (T := T_M) (N := 23) hx hb htb in_M hown hK hP 0 rfl rfl 2 (by decide) (htb _ tb_590) (fun _ h9 => h9) rfl d_M_reckon_74 ?_
  refine lv_iconst (v := eI 5) hx hb d_M_reckon_77 rfl ?_
  refine lv_iload_n hx hb d_M_reckon_78 rfl (lv_at hl 7 rfl) ?_
  refine we_imul hx hb d_M_reckon_79 ?_
  refine lv_iconst (v := eI 3) hx hb d_M_reckon_80 rfl ?_
  refine we_iadd hx hb d_M_reckon_81 ?_
  refine we_iald hx hb hK hP 1 0 rfl rfl (5 * k + 3) (by omega) (by omega) (by decide) d_M_reckon_82 ?_
  refine eh_cRS (As := [.int (eI y1), .int (eI y2), .int (eI (sc (5 * k + 3)))]) (rest := [.ref (md 0)]) (v := .long (eL (eh_ab y1 y2 (sc (5 * k + 3))))) hx hb hml hown htb hN (r_M_above l D y1 y2 (sc (5 * k + 3)) by1 by2 s4) 3 ⟨tb_701, tb_702, tb_7, kin_M_above⟩ dv_M_above ⟨by rw [hR1]; decide, by rw [hR2]; decide⟩ hK hP [] rfl [] rfl rfl rfl hl.1 (Nat.le_of_ble_eq_true rfl) d_M_reckon_83 ⟨Nat.zero_le _, Nat.zero_le _⟩ ?_
  refine lv_lload hx hb d_M_reckon_86 (lv_at hl 0 rfl) ?_
  refine we_lmul hx hb d_M_reckon_88 ?_
  refine lv_iload hx hb d_M_reckon_89 (lv_at hl 3 rfl) ?_
  refine lv_iload hx hb d_M_reckon_91 (lv_at hl 2 rfl) ?_
  refine lv_aload_n hx hb d_M_reckon_93 rfl (lv_at hl 6 rfl) ?_
  refine va_get (D := D) (ci := 5) (v := .ref (md 1)) (C := R_M) (T := T_M) (N := 23) hx hb htb in_M hown hK hP 0 rfl rfl 2 (by decide) (htb _ tb_590) (fun _ h9 => h9) rfl d_M_reckon_94 ?_
  refine lv_iconst (v := eI 5) hx hb d_M_reckon_97 rfl ?_
  refine lv_iload_n hx hb d_M_reckon_98 rfl (lv_at hl 7 rfl) ?_
  refine we_imul hx hb d_M_reckon_99 ?_
  refine lv_iconst (v := eI 4) hx hb d_M_reckon_100 rfl ?_
  refine we_iadd hx hb d_M_reckon_101 ?_
  refine we_iald hx hb hK hP 1 0 rfl rfl (5 * k + 4) (by omega) (by omega) (by decide) d_M_reckon_102 ?_
  refine eh_cRS (As := [.int (eI y2), .int (eI y3), .int (eI (sc (5 * k + 4)))]) (rest := [.long (eL ((eh_ab y1 y2 (sc (5 * k + 3))) * (eh_ap y2 y3))), .ref (md 0)]) (v := .long (eL (eh_ab y2 y3 (sc (5 * k + 4))))) hx hb hml hown htb hN (r_M_above l D y2 y3 (sc (5 * k + 4)) by2 by3 s5) 3 ⟨tb_701, tb_702, tb_7, kin_M_above⟩ dv_M_above ⟨by rw [hR1]; decide, by rw [hR2]; decide⟩ hK hP [] rfl [] rfl rfl rfl hl.1 (Nat.le_of_ble_eq_true rfl) d_M_reckon_103 ⟨Nat.zero_le _, Nat.zero_le _⟩ ?_
  refine lv_lload hx hb d_M_reckon_106 (lv_at hl 1 rfl) ?_
  refine we_lmul hx hb d_M_reckon_108 ?_
  refine we_ladd hx hb d_M_reckon_109 ?_
  refine va_put (D := D) (ci := 5) (v := .long (eL (((eh_ab y1 y2 (sc (5 * k + 3))) * (eh_ap y2 y3)) + ((eh_ab y2 y3 (sc (5 * k + 4))) * (eh_ap y1 y2))))) (ty := .long) (C := R_M) (T := T_M) (N := 23) hx hb htb in_M t_M t_M_ok n_M hown hK hP hD hS 0 rfl rfl 12 (by decide) (htb _ tb_600) (fun _ h9 => h9) rfl (by decide +kernel) rfl rfl (Nat.le_of_ble_eq_true rfl) d_M_reckon_110 (fun H locs hP hD hS => ?_)
  have hP : va_P D classes [((md 0), .inr (5, [.int (eI co), .int (eI ((n : Nat) : Int)), .ref (md 1), .ref (md 2), .ref (md 3), .int (eI sh), .int (eI ra), .ref (md 4), .ref (md 5), .ref (md 6), .ref (md 7), .ref (md 8), .long (eL (((eh_ab y1 y2 (sc (5 * k + 3))) * (eh_ap y2 y3)) + ((eh_ab y2 y3 (sc (5 * k + 4))) * (eh_ap y1 y2)))), .long (eL lw), .ref (md 9), .ref (md 10), .ref (md 11), .ref (md 12), .ref (md 13), .ref (md 14), .ref (md 15), .int (eI kn), .int (eI fo)])), ((md 1), aI cI 25 sc), ((md 2), aI cI 4 ln), ((md 3), aI cZ 4 cb), ((md 4), aI cZ 3 th), ((md 5), aI cI 3 pl), ((md 6), aI cI 3 lo), ((md 7), aI cI 3 pr), ((md 8), aI cI 30 la)] H := hP
  have hD : va_D A [((md 0), .inr (5, [.int (eI co), .int (eI ((n : Nat) : Int)), .ref (md 1), .ref (md 2), .ref (md 3), .int (eI sh), .int (eI ra), .ref (md 4), .ref (md 5), .ref (md 6), .ref (md 7), .ref (md 8), .long (eL (((eh_ab y1 y2 (sc (5 * k + 3))) * (eh_ap y2 y3)) + ((eh_ab y2 y3 (sc (5 * k + 4))) * (eh_ap y1 y2)))), .long (eL lw), .ref (md 9), .ref (md 10), .ref (md 11), .ref (md 12), .ref (md 13), .ref (md 14), .ref (md 15), .int (eI kn), .int (eI fo)])), ((md 1), aI cI 25 sc), ((md 2), aI cI 4 ln), ((md 3), aI cZ 4 cb), ((md 4), aI cZ 3 th), ((md 5), aI cI 3 pl), ((md 6), aI cI 3 lo), ((md 7), aI cI 3 pr), ((md 8), aI cI 30 la)] := hD
  refine lv_aload_n hx hb d_M_reckon_113 rfl (lv_at hl 6 rfl) ?_
  refine lv_lload hx hb d_M_reckon_114 (lv_at hl 1 rfl) ?_
  refine lv_lload hx hb d_M_reckon_116 (lv_at hl 0 rfl) ?_
  refine we_lmul hx hb d_M_reckon_118 ?_
  refine va_put (D := D) (ci := 5) (v := .long (eL ((eh_ap y1 y2) * (eh_ap y2 y3)))) (ty := .long) (C := R_M) (T := T_M) (N := 23) hx hb htb in_M t_M t_M_ok n_M hown hK hP hD hS 0 rfl rfl 13 (by decide) (htb _ tb_601) (fun _ h9 => h9) rfl (by decide +kernel) rfl rfl (Nat.le_of_ble_eq_true rfl) d_M_reckon_119 (fun H locs hP hD hS => ?_)
  have hP : va_P D classes [((md 0), .inr (5, [.int (eI co), .int (eI ((n : Nat) : Int)), .ref (md 1), .ref (md 2), .ref (md 3), .int (eI sh), .int (eI ra), .ref (md 4), .ref (md 5), .ref (md 6), .ref (md 7), .ref (md 8), .long (eL (((eh_ab y1 y2 (sc (5 * k + 3))) * (eh_ap y2 y3)) + ((eh_ab y2 y3 (sc (5 * k + 4))) * (eh_ap y1 y2)))), .long (eL ((eh_ap y1 y2) * (eh_ap y2 y3))), .ref (md 9), .ref (md 10), .ref (md 11), .ref (md 12), .ref (md 13), .ref (md 14), .ref (md 15), .int (eI kn), .int (eI fo)])), ((md 1), aI cI 25 sc), ((md 2), aI cI 4 ln), ((md 3), aI cZ 4 cb), ((md 4), aI cZ 3 th), ((md 5), aI cI 3 pl), ((md 6), aI cI 3 lo), ((md 7), aI cI 3 pr), ((md 8), aI cI 30 la)] H := hP
  have hD : va_D A [((md 0), .inr (5, [.int (eI co), .int (eI ((n : Nat) : Int)), .ref (md 1), .ref (md 2), .ref (md 3), .int (eI sh), .int (eI ra), .ref (md 4), .ref (md 5), .ref (md 6), .ref (md 7), .ref (md 8), .long (eL (((eh_ab y1 y2 (sc (5 * k + 3))) * (eh_ap y2 y3)) + ((eh_ab y2 y3 (sc (5 * k + 4))) * (eh_ap y1 y2)))), .long (eL ((eh_ap y1 y2) * (eh_ap y2 y3))), .ref (md 9), .ref (md 10), .ref (md 11), .ref (md 12), .ref (md 13), .ref (md 14), .ref (md 15), .int (eI kn), .int (eI fo)])), ((md 1), aI cI 25 sc), ((md 2), aI cI 4 ln), ((md 3), aI cZ 4 cb), ((md 4), aI cZ 3 th), ((md 5), aI cI 3 pl), ((md 6), aI cI 3 lo), ((md 7), aI cI 3 pr), ((md 8), aI cI 30 la)] := hD
  rw [hnn, hdd] at hP hD
  refine lv_aload_n hx hb d_M_reckon_122 rfl (lv_at hl 6 rfl) ?_
  refine va_get (D := D) (ci := 5) (v := .long (eL ((nn : Nat) : Int))) (C := R_M) (T := T_M) (N := 23) hx hb htb in_M hown hK hP 0 rfl rfl 12 (by decide) (htb _ tb_600) (fun _ h9 => h9) rfl d_M_reckon_123 ?_
  refine lv_aload_n hx hb d_M_reckon_126 rfl (lv_at hl 6 rfl) ?_
  refine va_get (D := D) (ci := 5) (v := .long (eL ((dd : Nat) : Int))) (C := R_M) (T := T_M) (N := 23) hx hb htb in_M hown hK hP 0 rfl rfl 13 (by decide) (htb _ tb_601) (fun _ h9 => h9) rfl d_M_reckon_127 ?_
  refine eh_cRS (As := [.long (eL ((nn : Nat) : Int)), .long (eL ((dd : Nat) : Int))]) (rest := []) (v := .long (eL ((Nat.gcd nn dd : Nat) : Int))) hx hb hml hown htb hN (r_M_divisor l D nn dd (by omega) (by omega)) 2 ⟨tb_704, tb_705, tb_7, kin_M_divisor⟩ dv_M_divisor ⟨by rw [hR1]; decide, by rw [hR2]; decide⟩ hK hP [] rfl [] rfl rfl rfl hl.1 (Nat.le_of_ble_eq_true rfl) d_M_reckon_130 ⟨Nat.zero_le _, Nat.zero_le _⟩ ?_
  refine lv_lstore hx hb d_M_reckon_133 hl (by decide) rfl (fun ls hl => ?_)
  have hl : lv_has ls 13 [(11, .long (eL ((Nat.gcd nn dd : Nat) : Int))), (9, .long (eL (eh_ap y2 y3))), (7, .long (eL (eh_ap y1 y2))), (6, .int (eI y3)), (5, .int (eI y2)), (4, .int (eI y1)), (3, .int (eI (-1))), (0, .ref (md 0)), (1, .int (eI ((k : Nat) : Int))), (2, .int (eI 0))] := hl
  have hgp : 0 < Nat.gcd nn dd := Nat.gcd_pos_of_pos_right _ (by omega)
  have hgle : Nat.gcd nn dd ≤ dd := Nat.gcd_le_right _ (by omega)
  refine lv_aload_n hx hb d_M_reckon_135 rfl (lv_at hl 7 rfl) ?_
  refine lv_aload_n hx hb d_M_reckon_136 rfl (lv_at hl 7 rfl) ?_
  refine va_get (D := D) (ci := 5) (v := .long (eL ((nn : Nat) : Int))) (C := R_M) (T := T_M) (N := 23) hx hb htb in_M hown hK hP 0 rfl rfl 12 (by decide) (htb _ tb_600) (fun _ h9 => h9) rfl d_M_reckon_137 ?_
  refine lv_lload hx hb d_M_reckon_140 (lv_at hl 0 rfl) ?_
  refine we_ldiv hx hb (by constructor <;> omega) (by constructor <;> omega) (by omega) (by omega) d_M_reckon_142 ?_
  refine va_put (D := D) (ci := 5) (v := .long (eL (((nn : Nat) : Int) / ((Nat.gcd nn dd : Nat) : Int)))) (ty := .long) (C := R_M) (T := T_M) (N := 23) hx hb htb in_M t_M t_M_ok n_M hown hK hP hD hS 0 rfl rfl 12 (by decide) (htb _ tb_600) (fun _ h9 => h9) rfl (by decide +kernel) rfl rfl (Nat.le_of_ble_eq_true rfl) d_M_reckon_143 (fun H locs hP hD hS => ?_)
  have hP : va_P D classes [((md 0), .inr (5, [.int (eI co), .int (eI ((n : Nat) : Int)), .ref (md 1), .ref (md 2), .ref (md 3), .int (eI sh), .int (eI ra), .ref (md 4), .ref (md 5), .ref (md 6), .ref (md 7), .ref (md 8), .long (eL (((nn : Nat) : Int) / ((Nat.gcd nn dd : Nat) : Int))), .long (eL ((dd : Nat) : Int)), .ref (md 9), .ref (md 10), .ref (md 11), .ref (md 12), .ref (md 13), .ref (md 14), .ref (md 15), .int (eI kn), .int (eI fo)])), ((md 1), aI cI 25 sc), ((md 2), aI cI 4 ln), ((md 3), aI cZ 4 cb), ((md 4), aI cZ 3 th), ((md 5), aI cI 3 pl), ((md 6), aI cI 3 lo), ((md 7), aI cI 3 pr), ((md 8), aI cI 30 la)] H := hP
  have hD : va_D A [((md 0), .inr (5, [.int (eI co), .int (eI ((n : Nat) : Int)), .ref (md 1), .ref (md 2), .ref (md 3), .int (eI sh), .int (eI ra), .ref (md 4), .ref (md 5), .ref (md 6), .ref (md 7), .ref (md 8), .long (eL (((nn : Nat) : Int) / ((Nat.gcd nn dd : Nat) : Int))), .long (eL ((dd : Nat) : Int)), .ref (md 9), .ref (md 10), .ref (md 11), .ref (md 12), .ref (md 13), .ref (md 14), .ref (md 15), .int (eI kn), .int (eI fo)])), ((md 1), aI cI 25 sc), ((md 2), aI cI 4 ln), ((md 3), aI cZ 4 cb), ((md 4), aI cZ 3 th), ((md 5), aI cI 3 pl), ((md 6), aI cI 3 lo), ((md 7), aI cI 3 pr), ((md 8), aI cI 30 la)] := hD
  refine lv_aload_n hx hb d_M_reckon_146 rfl (lv_at hl 7 rfl) ?_
  refine lv_aload_n hx hb d_M_reckon_147 rfl (lv_at hl 7 rfl) ?_
  refine va_get (D := D) (ci := 5) (v := .long (eL ((dd : Nat) : Int))) (C := R_M) (T := T_M) (N := 23) hx hb htb in_M hown hK hP 0 rfl rfl 13 (by decide) (htb _ tb_601) (fun _ h9 => h9) rfl d_M_reckon_148 ?_
  refine lv_lload hx hb d_M_reckon_151 (lv_at hl 0 rfl) ?_
  refine we_ldiv hx hb (by constructor <;> omega) (by constructor <;> omega) (by omega) (by omega) d_M_reckon_153 ?_
  refine va_put (D := D) (ci := 5) (v := .long (eL (((dd : Nat) : Int) / ((Nat.gcd nn dd : Nat) : Int)))) (ty := .long) (C := R_M) (T := T_M) (N := 23) hx hb htb in_M t_M t_M_ok n_M hown hK hP hD hS 0 rfl rfl 13 (by decide) (htb _ tb_601) (fun _ h9 => h9) rfl (by decide +kernel) rfl rfl (Nat.le_of_ble_eq_true rfl) d_M_reckon_154 (fun H locs hP hD hS => ?_)
  have hP : va_P D classes [((md 0), .inr (5, [.int (eI co), .int (eI ((n : Nat) : Int)), .ref (md 1), .ref (md 2), .ref (md 3), .int (eI sh), .int (eI ra), .ref (md 4), .ref (md 5), .ref (md 6), .ref (md 7), .ref (md 8), .long (eL (((nn : Nat) : Int) / ((Nat.gcd nn dd : Nat) : Int))), .long (eL (((dd : Nat) : Int) / ((Nat.gcd nn dd : Nat) : Int))), .ref (md 9), .ref (md 10), .ref (md 11), .ref (md 12), .ref (md 13), .ref (md 14), .ref (md 15), .int (eI kn), .int (eI fo)])), ((md 1), aI cI 25 sc), ((md 2), aI cI 4 ln), ((md 3), aI cZ 4 cb), ((md 4), aI cZ 3 th), ((md 5), aI cI 3 pl), ((md 6), aI cI 3 lo), ((md 7), aI cI 3 pr), ((md 8), aI cI 30 la)] H := hP
  have hD : va_D A [((md 0), .inr (5, [.int (eI co), .int (eI ((n : Nat) : Int)), .ref (md 1), .ref (md 2), .ref (md 3), .int (eI sh), .int (eI ra), .ref (md 4), .ref (md 5), .ref (md 6), .ref (md 7), .ref (md 8), .long (eL (((nn : Nat) : Int) / ((Nat.gcd nn dd : Nat) : Int))), .long (eL (((dd : Nat) : Int) / ((Nat.gcd nn dd : Nat) : Int))), .ref (md 9), .ref (md 10), .ref (md 11), .ref (md 12), .ref (md 13), .ref (md 14), .ref (md 15), .int (eI kn), .int (eI fo)])), ((md 1), aI cI 25 sc), ((md 2), aI cI 4 ln), ((md 3), aI cZ 4 cb), ((md 4), aI cZ 3 th), ((md 5), aI cI 3 pl), ((md 6), aI cI 3 lo), ((md 7), aI cI 3 pr), ((md 8), aI cI 30 la)] := hD
  have i1 : (((nn : Nat) : Int) / ((Nat.gcd nn dd : Nat) : Int)) = ((fu k : Nat) : Int) := by rw [← e1]; rfl
  have i2 : (((dd : Nat) : Int) / ((Nat.gcd nn dd : Nat) : Int)) = ((fl k : Nat) : Int) := by rw [← e2]; rfl
  rw [i1, i2] at hP hD
  subst hQ
  exact W.vret hx hb hrt (fun t9 ht hW => ⟨⟨(), rfl, trivial, by rw [ht]; exact hP, hD⟩, hS.F ht⟩) hS.2.2 d_M_reckon_157
abbrev c_M_litresAt : ByteArray := prog_7_method_8_code
def y_M_litresAt : MethodName := ⟨"EarthHaulsModel", "litresAt", "(IZ)I"⟩
abbrev k_M_litresAt : Cond := .code y_M_litresAt c_M_litresAt 13 (some .int)
theorem kin_M_litresAt : k_M_litresAt ∈ ew_t := tb_718
theorem dv_M_litresAt : eh_dV y_M_litresAt "EarthHaulsModel" 2 := ⟨rfl, by decide, by decide, by decide +kernel⟩
theorem d_M_litresAt_0 : decode c_M_litresAt 0 = .ok (.aload_n 0, 1) := by decide +kernel
theorem d_M_litresAt_1 : decode c_M_litresAt 1 = .ok (.iload_n 1, 1) := by decide +kernel
theorem d_M_litresAt_2 : decode c_M_litresAt 2 = .ok (.iload_n 2, 1) := by decide +kernel
theorem d_M_litresAt_3 : decode c_M_litresAt 3 = .ok (.invokevirtual 89, 3) := by decide +kernel
theorem d_M_litresAt_6 : decode c_M_litresAt 6 = .ok (.aload_n 0, 1) := by decide +kernel
theorem d_M_litresAt_7 : decode c_M_litresAt 7 = .ok (.getfield 75, 3) := by decide +kernel
theorem d_M_litresAt_10 : decode c_M_litresAt 10 = .ok (.lstore_n 3, 1) := by decide +kernel
theorem d_M_litresAt_11 : decode c_M_litresAt 11 = .ok (.aload_n 0, 1) := by decide +kernel
theorem d_M_litresAt_12 : decode c_M_litresAt 12 = .ok (.getfield 79, 3) := by decide +kernel
theorem d_M_litresAt_15 : decode c_M_litresAt 15 = .ok (.lstore 5, 2) := by decide +kernel
theorem d_M_litresAt_17 : decode c_M_litresAt 17 = .ok (.aload_n 0, 1) := by decide +kernel
theorem d_M_litresAt_18 : decode c_M_litresAt 18 = .ok (.iload_n 1, 1) := by decide +kernel
theorem d_M_litresAt_19 : decode c_M_litresAt 19 = .ok (.iconst 1, 1) := by decide +kernel
theorem d_M_litresAt_20 : decode c_M_litresAt 20 = .ok (.iadd, 1) := by decide +kernel
theorem d_M_litresAt_21 : decode c_M_litresAt 21 = .ok (.iload_n 2, 1) := by decide +kernel
theorem d_M_litresAt_22 : decode c_M_litresAt 22 = .ok (.invokevirtual 89, 3) := by decide +kernel
theorem d_M_litresAt_25 : decode c_M_litresAt 25 = .ok (.lload_n 3, 1) := by decide +kernel
theorem d_M_litresAt_26 : decode c_M_litresAt 26 = .ok (.aload_n 0, 1) := by decide +kernel
theorem d_M_litresAt_27 : decode c_M_litresAt 27 = .ok (.getfield 79, 3) := by decide +kernel
theorem d_M_litresAt_30 : decode c_M_litresAt 30 = .ok (.lmul, 1) := by decide +kernel
theorem d_M_litresAt_31 : decode c_M_litresAt 31 = .ok (.aload_n 0, 1) := by decide +kernel
theorem d_M_litresAt_32 : decode c_M_litresAt 32 = .ok (.getfield 75, 3) := by decide +kernel
theorem d_M_litresAt_35 : decode c_M_litresAt 35 = .ok (.lload 5, 2) := by decide +kernel
theorem d_M_litresAt_37 : decode c_M_litresAt 37 = .ok (.lmul, 1) := by decide +kernel
theorem d_M_litresAt_38 : decode c_M_litresAt 38 = .ok (.ladd, 1) := by decide +kernel
theorem d_M_litresAt_39 : decode c_M_litresAt 39 = .ok (.aload_n 0, 1) := by decide +kernel
theorem d_M_litresAt_40 : decode c_M_litresAt 40 = .ok (.getfield 13, 3) := by decide +kernel
theorem d_M_litresAt_43 : decode c_M_litresAt 43 = .ok (.iload_n 1, 1) := by decide +kernel
theorem d_M_litresAt_44 : decode c_M_litresAt 44 = .ok (.iaload, 1) := by decide +kernel
theorem d_M_litresAt_45 : decode c_M_litresAt 45 = .ok (.i2l, 1) := by decide +kernel
theorem d_M_litresAt_46 : decode c_M_litresAt 46 = .ok (.lmul, 1) := by decide +kernel
theorem d_M_litresAt_47 : decode c_M_litresAt 47 = .ok (.ldc2_w 93, 3) := by decide +kernel
theorem d_M_litresAt_50 : decode c_M_litresAt 50 = .ok (.lmul, 1) := by decide +kernel
theorem d_M_litresAt_51 : decode c_M_litresAt 51 = .ok (.lstore 7, 2) := by decide +kernel
theorem d_M_litresAt_53 : decode c_M_litresAt 53 = .ok (.ldc2_w 95, 3) := by decide +kernel
theorem d_M_litresAt_56 : decode c_M_litresAt 56 = .ok (.lload 5, 2) := by decide +kernel
theorem d_M_litresAt_58 : decode c_M_litresAt 58 = .ok (.lmul, 1) := by decide +kernel
theorem d_M_litresAt_59 : decode c_M_litresAt 59 = .ok (.aload_n 0, 1) := by decide +kernel
theorem d_M_litresAt_60 : decode c_M_litresAt 60 = .ok (.getfield 79, 3) := by decide +kernel
theorem d_M_litresAt_63 : decode c_M_litresAt 63 = .ok (.lmul, 1) := by decide +kernel
theorem d_M_litresAt_64 : decode c_M_litresAt 64 = .ok (.lstore 9, 2) := by decide +kernel
theorem d_M_litresAt_66 : decode c_M_litresAt 66 = .ok (.lload 7, 2) := by decide +kernel
theorem d_M_litresAt_68 : decode c_M_litresAt 68 = .ok (.lload 9, 2) := by decide +kernel
theorem d_M_litresAt_70 : decode c_M_litresAt 70 = .ok (.ldiv, 1) := by decide +kernel
theorem d_M_litresAt_71 : decode c_M_litresAt 71 = .ok (.lstore 11, 2) := by decide +kernel
theorem d_M_litresAt_73 : decode c_M_litresAt 73 = .ok (.ldc2_w 95, 3) := by decide +kernel
theorem d_M_litresAt_76 : decode c_M_litresAt 76 = .ok (.lload 7, 2) := by decide +kernel
theorem d_M_litresAt_78 : decode c_M_litresAt 78 = .ok (.lload 9, 2) := by decide +kernel
theorem d_M_litresAt_80 : decode c_M_litresAt 80 = .ok (.lrem, 1) := by decide +kernel
theorem d_M_litresAt_81 : decode c_M_litresAt 81 = .ok (.lmul, 1) := by decide +kernel
theorem d_M_litresAt_82 : decode c_M_litresAt 82 = .ok (.lload 9, 2) := by decide +kernel
theorem d_M_litresAt_84 : decode c_M_litresAt 84 = .ok (.lcmp, 1) := by decide +kernel
theorem d_M_litresAt_85 : decode c_M_litresAt 85 = .ok (.ifCond .lt 10, 3) := by decide +kernel
theorem d_M_litresAt_88 : decode c_M_litresAt 88 = .ok (.lload 11, 2) := by decide +kernel
theorem d_M_litresAt_90 : decode c_M_litresAt 90 = .ok (.lconst 1, 1) := by decide +kernel
theorem d_M_litresAt_91 : decode c_M_litresAt 91 = .ok (.ladd, 1) := by decide +kernel
theorem d_M_litresAt_92 : decode c_M_litresAt 92 = .ok (.goto 5, 3) := by decide +kernel
theorem d_M_litresAt_95 : decode c_M_litresAt 95 = .ok (.lload 11, 2) := by decide +kernel
theorem d_M_litresAt_97 : decode c_M_litresAt 97 = .ok (.l2i, 1) := by decide +kernel
theorem d_M_litresAt_98 : decode c_M_litresAt 98 = .ok (.ireturn, 1) := by decide +kernel
set_option maxHeartbeats 1000000 in
set_option maxRecDepth 100000 in
theorem m_M_litresAt_1 (l : Launch) (D : va_G) (cI cL cZ : ClassId) (md : Nat → Nat) (co : Int) (n : Nat) (sh ra up lw kn fo : Int) (sc ln cb th pl lo pr la : Nat → Int) (cu cl fu fl : Nat → Nat) (ys yl yp : Nat → Int) (k : Nat) (hk : k + 1 < n) (hM : eh_MS n sh ra sc ln cb th pl lo pr la cu cl fu fl ys yl yp) : eh_M (S := Unit) l y_M_litresAt k_M_litresAt 2 61 D classes [(cI, .int), (cL, .long), (cZ, .boolean)] [.ref (md 0), .int (eI ((k : Nat) : Int)), .int (eI 1)] [((md 0), .inr (5, [.int (eI co), .int (eI ((n : Nat) : Int)), .ref (md 1), .ref (md 2), .ref (md 3), .int (eI sh), .int (eI ra), .ref (md 4), .ref (md 5), .ref (md 6), .ref (md 7), .ref (md 8), .long (eL up), .long (eL lw), .ref (md 9), .ref (md 10), .ref (md 11), .ref (md 12), .ref (md 13), .ref (md 14), .ref (md 15), .int (eI kn), .int (eI fo)])), ((md 1), aI cI 25 sc), ((md 2), aI cI 4 ln), ((md 3), aI cZ 4 cb), ((md 4), aI cZ 3 th), ((md 5), aI cI 3 pl), ((md 6), aI cI 3 lo), ((md 7), aI cI 3 pr), ((md 8), aI cI 30 la)] (fun _ => True) (fun _ => some (.int (eI (eh_kut cu cl ln k)))) (fun _ => [((md 0), .inr (5, [.int (eI co), .int (eI ((n : Nat) : Int)), .ref (md 1), .ref (md 2), .ref (md 3), .int (eI sh), .int (eI ra), .ref (md 4), .ref (md 5), .ref (md 6), .ref (md 7), .ref (md 8), .long (eL ((cu (k + 1) : Nat) : Int)), .long (eL ((cl (k + 1) : Nat) : Int)), .ref (md 9), .ref (md 10), .ref (md 11), .ref (md 12), .ref (md 13), .ref (md 14), .ref (md 15), .int (eI kn), .int (eI fo)])), ((md 1), aI cI 25 sc), ((md 2), aI cI 4 ln), ((md 3), aI cZ 4 cb), ((md 4), aI cZ 3 th), ((md 5), aI cI 3 pl), ((md 6), aI cI 3 lo), ((md 7), aI cI 3 pr), ((md 8), aI cI 30 la)]) := by
  intro sz
  refine Met.ofW (cc := c_M_litresAt) (maxL := 13) (ret := (some .int)) (by decide) rfl ?_
  intro p e s m args below meth c s₁ B hml hv
  obtain ⟨hargs, hsz, hP, hK, hD0, hN⟩ := hv
  have hx := B.exec
  have hb := B.bytes
  have hrt := B.returns
  have hts := atoms_spec (ws := k_M_litresAt :: ew_t) B.pre
  have htb : ∀ w ∈ ew_t, w.before args s = true := fun w h => hts w (List.mem_cons_of_mem _ h)
  have hown : s.vm.findClass "EarthHaulsModel" = some m.cls := findClass_of_methodNamed B.named
  have hlocks := B.notSynchronized
  have hE : entryFrame m args 13 = entryFrame m ([.ref (md 0), .int (eI ((k : Nat) : Int)), .int (eI 1)] : List Value).toArray 13 := by rw [hargs]
  rw [hE]
  clear hE hts B hargs
  generalize hRe : (headSpec _ _).room = R
  have hR1 : R.frames = 2 := by rw [← hRe]; rfl
  have hR2 : R.locals = 61 := by rw [← hRe]; rfl
  clear hRe
  generalize hQ : MQ below _ _ s 0 0 _ = Q
  subst hsz
  have hD := hD0.self (sz := s.heap.size)
  generalize hAe : va_A [((md 0), .inr (5, [.int (eI co), .int (eI ((n : Nat) : Int)), .ref (md 1), .ref (md 2), .ref (md 3), .int (eI sh), .int (eI ra), .ref (md 4), .ref (md 5), .ref (md 6), .ref (md 7), .ref (md 8), .long (eL up), .long (eL lw), .ref (md 9), .ref (md 10), .ref (md 11), .ref (md 12), .ref (md 13), .ref (md 14), .ref (md 15), .int (eI kn), .int (eI fo)])), ((md 1), aI cI 25 sc), ((md 2), aI cI 4 ln), ((md 3), aI cZ 4 cb), ((md 4), aI cZ 3 th), ((md 5), aI cI 3 pl), ((md 6), aI cI 3 lo), ((md 7), aI cI 3 pr), ((md 8), aI cI 30 la)] s.heap.size = A at hD hQ
  have hA : ∀ q : Nat, s.heap.size ≤ q → A q := fun q h => by rw [← hAe]; exact Or.inr h
  have hS : va_S A s.heap s.heap [] := va_S.rf
  have hP : va_P D classes [((md 0), .inr (5, [.int (eI co), .int (eI ((n : Nat) : Int)), .ref (md 1), .ref (md 2), .ref (md 3), .int (eI sh), .int (eI ra), .ref (md 4), .ref (md 5), .ref (md 6), .ref (md 7), .ref (md 8), .long (eL up), .long (eL lw), .ref (md 9), .ref (md 10), .ref (md 11), .ref (md 12), .ref (md 13), .ref (md 14), .ref (md 15), .int (eI kn), .int (eI fo)])), ((md 1), aI cI 25 sc), ((md 2), aI cI 4 ln), ((md 3), aI cZ 4 cb), ((md 4), aI cZ 3 th), ((md 5), aI cI 3 pl), ((md 6), aI cI 3 lo), ((md 7), aI cI 3 pr), ((md 8), aI cI 30 la)] s.heap := hP
  have hl := lv_entry ([.ref (md 0), .int (eI ((k : Nat) : Int)), .int (eI 1)]) (n := 13) (Nat.le_of_ble_eq_true rfl)
  rw [lg_entry_eq]
  generalize (lg_sl ([.ref (md 0), .int (eI ((k : Nat) : Int)), .int (eI 1)]) ++ List.replicate (13 - (lg_sl ([.ref (md 0), .int (eI ((k : Nat) : Int)), .int (eI 1)])).length) Slot.unset).toArray = ls at hl ⊢
  have hl : lv_has ls 13 [(0, .ref (md 0)), (1, .int (eI ((k : Nat) : Int))), (2, .int (eI 1))] := hl
  have hn5 := hM.1.1
  have hf1 := (hM.1.2.2.2.2.2.2.1 k (by omega)).1
  have hf2 := (hM.1.2.2.2.2.2.2.1 (k + 1) hk).1
  have hln := hM.1.2.2.2.1 k hk
  obtain ⟨⟨b1, b2⟩, ⟨b3, b4⟩, b5⟩ := eh_lt_b hf1 hf2 (show 0 ≤ ln k ∧ ln k ≤ 100 by omega)
  refine lv_aload_n hx hb d_M_litresAt_0 rfl (lv_at hl 0 rfl) ?_
  refine lv_iload_n hx hb d_M_litresAt_1 rfl (lv_at hl 1 rfl) ?_
  refine lv_iload_n hx hb d_M_litresAt_2 rfl (lv_at hl 2 rfl) ?_
  refine eh_cMV (As := [.int (eI ((k : Nat) : Int)), .int (eI 1)]) (rest := []) (q := (R_M, T_M, 23)) (wr := []) hx hb hml hown htb hN (m_M_reckon_1 l D cI cL cZ md co n sh ra up lw kn fo sc ln cb th pl lo pr la cu cl fu fl ys yl yp k (by omega) hM) 2 ⟨tb_694, tb_696, ts_30, tb_7, kin_M_reckon⟩ dv_M_reckon ⟨by rw [hR1]; decide, by rw [hR2]; decide⟩ hK hP hD hS hA 0 rfl rfl [0, 1, 2, 3, 4, 5, 6, 7, 8] [] rfl rfl (by decide) rfl (by decide) (by decide) [0, 1, 2] rfl rfl rfl hl.1 (Nat.le_of_ble_eq_true rfl) d_M_litresAt_3 ⟨Nat.zero_le _, Nat.zero_le _⟩ (fun u H locs hu hP hD hS => ?_)
  have hP := hP.sub (ws' := [((md 0), .inr (5, [.int (eI co), .int (eI ((n : Nat) : Int)), .ref (md 1), .ref (md 2), .ref (md 3), .int (eI sh), .int (eI ra), .ref (md 4), .ref (md 5), .ref (md 6), .ref (md 7), .ref (md 8), .long (eL ((cu k : Nat) : Int)), .long (eL ((cl k : Nat) : Int)), .ref (md 9), .ref (md 10), .ref (md 11), .ref (md 12), .ref (md 13), .ref (md 14), .ref (md 15), .int (eI kn), .int (eI fo)])), ((md 1), aI cI 25 sc), ((md 2), aI cI 4 ln), ((md 3), aI cZ 4 cb), ((md 4), aI cZ 3 th), ((md 5), aI cI 3 pl), ((md 6), aI cI 3 lo), ((md 7), aI cI 3 pr), ((md 8), aI cI 30 la)]) [0, 1, 2, 3, 4, 5, 6, 7, 8] rfl
  have hD := hD.sub (ws' := [((md 0), .inr (5, [.int (eI co), .int (eI ((n : Nat) : Int)), .ref (md 1), .ref (md 2), .ref (md 3), .int (eI sh), .int (eI ra), .ref (md 4), .ref (md 5), .ref (md 6), .ref (md 7), .ref (md 8), .long (eL ((cu k : Nat) : Int)), .long (eL ((cl k : Nat) : Int)), .ref (md 9), .ref (md 10), .ref (md 11), .ref (md 12), .ref (md 13), .ref (md 14), .ref (md 15), .int (eI kn), .int (eI fo)])), ((md 1), aI cI 25 sc), ((md 2), aI cI 4 ln), ((md 3), aI cZ 4 cb), ((md 4), aI cZ 3 th), ((md 5), aI cI 3 pl), ((md 6), aI cI 3 lo), ((md 7), aI cI 3 pr), ((md 8), aI cI 30 la)]) [0, 1, 2, 3, 4, 5, 6, 7, 8] (by decide) rfl
  refine lv_aload_n hx hb d_M_litresAt_6 rfl (lv_at hl 0 rfl) ?_
  refine va_get (D := D) (ci := 5) (v := .long (eL ((cu k : Nat) : Int))) (C := R_M) (T := T_M) (N := 23) hx hb htb in_M hown hK hP 0 rfl rfl 12 (by decide) (htb _ tb_600) (fun _ h9 => h9) rfl d_M_litresAt_7 ?_
  refine lv_lstore_n hx hb d_M_litresAt_10 rfl hl (by decide) rfl (fun ls hl => ?_)
  have hl : lv_has ls 13 [(3, .long (eL ((cu k : Nat) : Int))), (0, .ref (md 0)), (1, .int (eI ((k : Nat) : Int))), (2, .int (eI 1))] := hl
  refine lv_aload_n hx hb d_M_litresAt_11 rfl (lv_at hl 1 rfl) ?_
  refine va_get (D := D) (ci := 5) (v := .long (eL ((cl k : Nat) : Int))) (C := R_M) (T := T_M) (N := 23) hx hb htb in_M hown hK hP 0 rfl rfl 13 (by decide) (htb _ tb_601) (fun _ h9 => h9) rfl d_M_litresAt_12 ?_
  refine lv_lstore hx hb d_M_litresAt_15 hl (by decide) rfl (fun ls hl => ?_)
  have hl : lv_has ls 13 [(5, .long (eL ((cl k : Nat) : Int))), (3, .long (eL ((cu k : Nat) : Int))), (0, .ref (md 0)), (1, .int (eI ((k : Nat) : Int))), (2, .int (eI 1))] := hl
  refine lv_aload_n hx hb d_M_litresAt_17 rfl (lv_at hl 2 rfl) ?_
  refine lv_iload_n hx hb d_M_litresAt_18 rfl (lv_at hl 3 rfl) ?_
  refine lv_iconst (v := eI 1) hx hb d_M_litresAt_19 rfl ?_
  refine we_iadd hx hb d_M_litresAt_20 ?_
  refine lv_iload_n hx hb d_M_litresAt_21 rfl (lv_at hl 4 rfl) ?_
  refine eh_cMV (As := [.int (eI (((k : Nat) : Int) + 1)), .int (eI 1)]) (rest := []) (q := (R_M, T_M, 23)) (wr := []) hx hb hml hown htb hN (m_M_reckon_1 l D cI cL cZ md co n sh ra ((cu k : Nat) : Int) ((cl k : Nat) : Int) kn fo sc ln cb th pl lo pr la cu cl fu fl ys yl yp (k + 1) (by omega) hM) 2 ⟨tb_694, tb_696, ts_30, tb_7, kin_M_reckon⟩ dv_M_reckon ⟨by rw [hR1]; decide, by rw [hR2]; decide⟩ hK hP hD hS hA 0 rfl rfl [0, 1, 2, 3, 4, 5, 6, 7, 8] [] rfl rfl (by decide) rfl (by decide) (by decide) [0, 1, 2] rfl rfl rfl hl.1 (Nat.le_of_ble_eq_true rfl) d_M_litresAt_22 ⟨Nat.zero_le _, Nat.zero_le _⟩ (fun u H locs hu hP hD hS => ?_)
  have hP := hP.sub (ws' := [((md 0), .inr (5, [.int (eI co), .int (eI ((n : Nat) : Int)), .ref (md 1), .ref (md 2), .ref (md 3), .int (eI sh), .int (eI ra), .ref (md 4), .ref (md 5), .ref (md 6), .ref (md 7), .ref (md 8), .long (eL ((cu (k + 1) : Nat) : Int)), .long (eL ((cl (k + 1) : Nat) : Int)), .ref (md 9), .ref (md 10), .ref (md 11), .ref (md 12), .ref (md 13), .ref (md 14), .ref (md 15), .int (eI kn), .int (eI fo)])), ((md 1), aI cI 25 sc), ((md 2), aI cI 4 ln), ((md 3), aI cZ 4 cb), ((md 4), aI cZ 3 th), ((md 5), aI cI 3 pl), ((md 6), aI cI 3 lo), ((md 7), aI cI 3 pr), ((md 8), aI cI 30 la)]) [0, 1, 2, 3, 4, 5, 6, 7, 8] rfl
  have hD := hD.sub (ws' := [((md 0), .inr (5, [.int (eI co), .int (eI ((n : Nat) : Int)), .ref (md 1), .ref (md 2), .ref (md 3), .int (eI sh), .int (eI ra), .ref (md 4), .ref (md 5), .ref (md 6), .ref (md 7), .ref (md 8), .long (eL ((cu (k + 1) : Nat) : Int)), .long (eL ((cl (k + 1) : Nat) : Int)), .ref (md 9), .ref (md 10), .ref (md 11), .ref (md 12), .ref (md 13), .ref (md 14), .ref (md 15), .int (eI kn), .int (eI fo)])), ((md 1), aI cI 25 sc), ((md 2), aI cI 4 ln), ((md 3), aI cZ 4 cb), ((md 4), aI cZ 3 th), ((md 5), aI cI 3 pl), ((md 6), aI cI 3 lo), ((md 7), aI cI 3 pr), ((md 8), aI cI 30 la)]) [0, 1, 2, 3, 4, 5, 6, 7, 8] (by decide) rfl
  refine lv_lload_n hx hb d_M_litresAt_25 rfl (lv_at hl 1 rfl) ?_
  refine lv_aload_n hx hb d_M_litresAt_26 rfl (lv_at hl 2 rfl) ?_
  refine va_get (D := D) (ci := 5) (v := .long (eL ((cl (k + 1) : Nat) : Int))) (C := R_M) (T := T_M) (N := 23) hx hb htb in_M hown hK hP 0 rfl rfl 13 (by decide) (htb _ tb_601) (fun _ h9 => h9) rfl d_M_litresAt_27 ?_
  refine we_lmul hx hb d_M_litresAt_30 ?_
  refine lv_aload_n hx hb d_M_litresAt_31 rfl (lv_at hl 2 rfl) ?_
  refine va_get (D := D) (ci := 5) (v := .long (eL ((cu (k + 1) : Nat) : Int))) (C := R_M) (T := T_M) (N := 23) hx hb htb in_M hown hK hP 0 rfl rfl 12 (by decide) (htb _ tb_600) (fun _ h9 => h9) rfl d_M_litresAt_32 ?_
  refine lv_lload hx hb d_M_litresAt_35 (lv_at hl 0 rfl) ?_
  refine we_lmul hx hb d_M_litresAt_37 ?_
  refine we_ladd hx hb d_M_litresAt_38 ?_
  refine lv_aload_n hx hb d_M_litresAt_39 rfl (lv_at hl 2 rfl) ?_
  refine va_get (D := D) (ci := 5) (v := .ref (md 2)) (C := R_M) (T := T_M) (N := 23) hx hb htb in_M hown hK hP 0 rfl rfl 3 (by decide) (htb _ tb_591) (fun _ h9 => h9) rfl d_M_litresAt_40 ?_
  refine lv_iload_n hx hb d_M_litresAt_43 rfl (lv_at hl 3 rfl) ?_
  refine we_iald hx hb hK hP 2 0 rfl rfl k rfl (by omega) (by decide) d_M_litresAt_44 ?_
  refine we_i2l hx hb (by constructor <;> omega) d_M_litresAt_45 ?_
  refine we_lmul hx hb d_M_litresAt_46 ?_
  refine we_ldc2 (a := 5) hx hb hown (htb _ tb_719) (by decide) d_M_litresAt_47 ?_
  refine we_lmul hx hb d_M_litresAt_50 ?_
  refine lv_lstore hx hb d_M_litresAt_51 hl (by decide) rfl (fun ls hl => ?_)
  have hl : lv_has ls 13 [(7, .long (eL ((((((cu k : Nat) : Int) * ((cl (k + 1) : Nat) : Int)) + (((cu (k + 1) : Nat) : Int) * ((cl k : Nat) : Int))) * (ln k)) * 5))), (5, .long (eL ((cl k : Nat) : Int))), (3, .long (eL ((cu k : Nat) : Int))), (0, .ref (md 0)), (1, .int (eI ((k : Nat) : Int))), (2, .int (eI 1))] := hl
  refine we_ldc2 (a := 2) hx hb hown (htb _ tb_720) (by decide) d_M_litresAt_53 ?_
  refine lv_lload hx hb d_M_litresAt_56 (lv_at hl 1 rfl) ?_
  refine we_lmul hx hb d_M_litresAt_58 ?_
  refine lv_aload_n hx hb d_M_litresAt_59 rfl (lv_at hl 3 rfl) ?_
  refine va_get (D := D) (ci := 5) (v := .long (eL ((cl (k + 1) : Nat) : Int))) (C := R_M) (T := T_M) (N := 23) hx hb htb in_M hown hK hP 0 rfl rfl 13 (by decide) (htb _ tb_601) (fun _ h9 => h9) rfl d_M_litresAt_60 ?_
  refine we_lmul hx hb d_M_litresAt_63 ?_
  refine lv_lstore hx hb d_M_litresAt_64 hl (by decide) rfl (fun ls hl => ?_)
  have hl : lv_has ls 13 [(9, .long (eL ((2 * ((cl k : Nat) : Int)) * ((cl (k + 1) : Nat) : Int)))), (7, .long (eL ((((((cu k : Nat) : Int) * ((cl (k + 1) : Nat) : Int)) + (((cu (k + 1) : Nat) : Int) * ((cl k : Nat) : Int))) * (ln k)) * 5))), (5, .long (eL ((cl k : Nat) : Int))), (3, .long (eL ((cu k : Nat) : Int))), (0, .ref (md 0)), (1, .int (eI ((k : Nat) : Int))), (2, .int (eI 1))] := hl
  obtain ⟨X9, hX9⟩ : ∃ z, z = ((((((cu k : Nat) : Int) * ((cl (k + 1) : Nat) : Int)) + (((cu (k + 1) : Nat) : Int) * ((cl k : Nat) : Int))) * (ln k)) * 5) := ⟨_, rfl⟩
  obtain ⟨V9, hV9⟩ : ∃ z, z = ((cl k : Nat) : Int) * ((cl (k + 1) : Nat) : Int) := ⟨_, rfl⟩
  rw [← hX9, show ((2 * ((cl k : Nat) : Int)) * ((cl (k + 1) : Nat) : Int)) = 2 * V9 by rw [hV9, Int.mul_assoc]] at hl
  rw [← hX9] at b3 b4
  rw [← hV9] at b1 b2
  have m1 := Int.emod_nonneg X9 (show (2 * V9) ≠ 0 by omega)
  have m2 := Int.emod_lt_of_pos X9 (show 0 < 2 * V9 by omega)
  refine lv_lload hx hb d_M_litresAt_66 (lv_at hl 1 rfl) ?_
  refine lv_lload hx hb d_M_litresAt_68 (lv_at hl 0 rfl) ?_
  refine we_ldiv hx hb (by constructor <;> omega) (by constructor <;> omega) (by omega) (by omega) d_M_litresAt_70 ?_
  refine lv_lstore hx hb d_M_litresAt_71 hl (by decide) rfl (fun ls hl => ?_)
  have hl : lv_has ls 13 [(11, .long (eL (X9 / (2 * V9)))), (9, .long (eL (2 * V9))), (7, .long (eL X9)), (5, .long (eL ((cl k : Nat) : Int))), (3, .long (eL ((cu k : Nat) : Int))), (0, .ref (md 0)), (1, .int (eI ((k : Nat) : Int))), (2, .int (eI 1))] := hl
  refine we_ldc2 (a := 2) hx hb hown (htb _ tb_720) (by decide) d_M_litresAt_73 ?_
  refine lv_lload hx hb d_M_litresAt_76 (lv_at hl 2 rfl) ?_
  refine lv_lload hx hb d_M_litresAt_78 (lv_at hl 1 rfl) ?_
  refine we_lrem hx hb (by constructor <;> omega) (by constructor <;> omega) (by omega) (by omega) d_M_litresAt_80 ?_
  refine we_lmul hx hb d_M_litresAt_81 ?_
  refine lv_lload hx hb d_M_litresAt_82 (lv_at hl 1 rfl) ?_
  refine we_lcmp_lt (pc2 := 85) (tgt := 95) hx hb (by constructor <;> omega) (by constructor <;> omega) d_M_litresAt_84 rfl d_M_litresAt_85 rfl (fun hc84 => ?_) (fun hc84 => ?_)
  ·
    refine lv_lload hx hb d_M_litresAt_95 (lv_at hl 0 rfl) ?_
    refine we_l2i hx hb d_M_litresAt_97 ?_
    have hres : (X9 / (2 * V9)) = (eh_kut cu cl ln k) := by
      have z := eh_half (X := X9) (V := V9) b3 b1
      rw [if_pos (by omega)] at z
      rw [z]
      show _ = eh_lt _ _ _ _ _
      unfold eh_lt
      rw [← hX9, ← hV9]
    rw [hres]
    subst hQ
    exact W.iret hx hb hrt (fun t9 ht hW => ⟨⟨(), rfl, trivial, by rw [ht]; exact hP, hD⟩, hS.F ht⟩) hS.2.2 d_M_litresAt_98
  ·
    refine lv_lload hx hb d_M_litresAt_88 (lv_at hl 0 rfl) ?_
    refine lv_lconst (v := eL 1) hx hb d_M_litresAt_90 (by decide) ?_
    refine we_ladd hx hb d_M_litresAt_91 ?_
    refine lv_goto (tgt := 97) hx hb d_M_litresAt_92 rfl ?_
    refine we_l2i hx hb d_M_litresAt_97 ?_
    have hres : ((X9 / (2 * V9)) + 1) = (eh_kut cu cl ln k) := by
      have z := eh_half (X := X9) (V := V9) b3 b1
      rw [if_neg (by omega)] at z
      rw [z]
      show _ = eh_lt _ _ _ _ _
      unfold eh_lt
      rw [← hX9, ← hV9]
    rw [hres]
    subst hQ
    exact W.iret hx hb hrt (fun t9 ht hW => ⟨⟨(), rfl, trivial, by rw [ht]; exact hP, hD⟩, hS.F ht⟩) hS.2.2 d_M_litresAt_98
set_option maxHeartbeats 1000000 in
set_option maxRecDepth 100000 in
theorem m_M_litresAt_0 (l : Launch) (D : va_G) (cI cL cZ : ClassId) (md : Nat → Nat) (co : Int) (n : Nat) (sh ra up lw kn fo : Int) (sc ln cb th pl lo pr la : Nat → Int) (cu cl fu fl : Nat → Nat) (ys yl yp : Nat → Int) (k : Nat) (hk : k + 1 < n) (hM : eh_MS n sh ra sc ln cb th pl lo pr la cu cl fu fl ys yl yp) : eh_M (S := Unit) l y_M_litresAt k_M_litresAt 2 61 D classes [(cI, .int), (cL, .long), (cZ, .boolean)] [.ref (md 0), .int (eI ((k : Nat) : Int)), .int (eI 0)] [((md 0), .inr (5, [.int (eI co), .int (eI ((n : Nat) : Int)), .ref (md 1), .ref (md 2), .ref (md 3), .int (eI sh), .int (eI ra), .ref (md 4), .ref (md 5), .ref (md 6), .ref (md 7), .ref (md 8), .long (eL up), .long (eL lw), .ref (md 9), .ref (md 10), .ref (md 11), .ref (md 12), .ref (md 13), .ref (md 14), .ref (md 15), .int (eI kn), .int (eI fo)])), ((md 1), aI cI 25 sc), ((md 2), aI cI 4 ln), ((md 3), aI cZ 4 cb), ((md 4), aI cZ 3 th), ((md 5), aI cI 3 pl), ((md 6), aI cI 3 lo), ((md 7), aI cI 3 pr), ((md 8), aI cI 30 la)] (fun _ => True) (fun _ => some (.int (eI (eh_kut fu fl ln k)))) (fun _ => [((md 0), .inr (5, [.int (eI co), .int (eI ((n : Nat) : Int)), .ref (md 1), .ref (md 2), .ref (md 3), .int (eI sh), .int (eI ra), .ref (md 4), .ref (md 5), .ref (md 6), .ref (md 7), .ref (md 8), .long (eL ((fu (k + 1) : Nat) : Int)), .long (eL ((fl (k + 1) : Nat) : Int)), .ref (md 9), .ref (md 10), .ref (md 11), .ref (md 12), .ref (md 13), .ref (md 14), .ref (md 15), .int (eI kn), .int (eI fo)])), ((md 1), aI cI 25 sc), ((md 2), aI cI 4 ln), ((md 3), aI cZ 4 cb), ((md 4), aI cZ 3 th), ((md 5), aI cI 3 pl), ((md 6), aI cI 3 lo), ((md 7), aI cI 3 pr), ((md 8), aI cI 30 la)]) := by
  intro sz
  refine Met.ofW (cc := c_M_litresAt) (maxL := 13) (ret := (some .int)) (by decide) rfl ?_
  intro p e s m args below meth c s₁ B hml hv
  obtain ⟨hargs, hsz, hP, hK, hD0, hN⟩ := hv
  have hx := B.exec
  have hb := B.bytes
  have hrt := B.returns
  have hts := atoms_spec (ws := k_M_litresAt :: ew_t) B.pre
  have htb : ∀ w ∈ ew_t, w.before args s = true := fun w h => hts w (List.mem_cons_of_mem _ h)
  have hown : s.vm.findClass "EarthHaulsModel" = some m.cls := findClass_of_methodNamed B.named
  have hlocks := B.notSynchronized
  have hE : entryFrame m args 13 = entryFrame m ([.ref (md 0), .int (eI ((k : Nat) : Int)), .int (eI 0)] : List Value).toArray 13 := by rw [hargs]
  rw [hE]
  clear hE hts B hargs
  generalize hRe : (headSpec _ _).room = R
  have hR1 : R.frames = 2 := by rw [← hRe]; rfl
  have hR2 : R.locals = 61 := by rw [← hRe]; rfl
  clear hRe
  generalize hQ : MQ below _ _ s 0 0 _ = Q
  subst hsz
  have hD := hD0.self (sz := s.heap.size)
  generalize hAe : va_A [((md 0), .inr (5, [.int (eI co), .int (eI ((n : Nat) : Int)), .ref (md 1), .ref (md 2), .ref (md 3), .int (eI sh), .int (eI ra), .ref (md 4), .ref (md 5), .ref (md 6), .ref (md 7), .ref (md 8), .long (eL up), .long (eL lw), .ref (md 9), .ref (md 10), .ref (md 11), .ref (md 12), .ref (md 13), .ref (md 14), .ref (md 15), .int (eI kn), .int (eI fo)])), ((md 1), aI cI 25 sc), ((md 2), aI cI 4 ln), ((md 3), aI cZ 4 cb), ((md 4), aI cZ 3 th), ((md 5), aI cI 3 pl), ((md 6), aI cI 3 lo), ((md 7), aI cI 3 pr), ((md 8), aI cI 30 la)] s.heap.size = A at hD hQ
  have hA : ∀ q : Nat, s.heap.size ≤ q → A q := fun q h => by rw [← hAe]; exact Or.inr h
  have hS : va_S A s.heap s.heap [] := va_S.rf
  have hP : va_P D classes [((md 0), .inr (5, [.int (eI co), .int (eI ((n : Nat) : Int)), .ref (md 1), .ref (md 2), .ref (md 3), .int (eI sh), .int (eI ra), .ref (md 4), .ref (md 5), .ref (md 6), .ref (md 7), .ref (md 8), .long (eL up), .long (eL lw), .ref (md 9), .ref (md 10), .ref (md 11), .ref (md 12), .ref (md 13), .ref (md 14), .ref (md 15), .int (eI kn), .int (eI fo)])), ((md 1), aI cI 25 sc), ((md 2), aI cI 4 ln), ((md 3), aI cZ 4 cb), ((md 4), aI cZ 3 th), ((md 5), aI cI 3 pl), ((md 6), aI cI 3 lo), ((md 7), aI cI 3 pr), ((md 8), aI cI 30 la)] s.heap := hP
  have hl := lv_entry ([.ref (md 0), .int (eI ((k : Nat) : Int)), .int (eI 0)]) (n := 13) (Nat.le_of_ble_eq_true rfl)
  rw [lg_entry_eq]
  generalize (lg_sl ([.ref (md 0), .int (eI ((k : Nat) : Int)), .int (eI 0)]) ++ List.replicate (13 - (lg_sl ([.ref (md 0), .int (eI ((k : Nat) : Int)), .int (eI 0)])).length) Slot.unset).toArray = ls at hl ⊢
  have hl : lv_has ls 13 [(0, .ref (md 0)), (1, .int (eI ((k : Nat) : Int))), (2, .int (eI 0))] := hl
  have hn5 := hM.1.1
  have hf1 := (hM.1.2.2.2.2.2.2.1 k (by omega)).2
  have hf2 := (hM.1.2.2.2.2.2.2.1 (k + 1) hk).2
  have hln := hM.1.2.2.2.1 k hk
  obtain ⟨⟨b1, b2⟩, ⟨b3, b4⟩, b5⟩ := eh_lt_b hf1 hf2 (show 0 ≤ ln k ∧ ln k ≤ 100 by omega)
  refine lv_aload_n hx hb d_M_litresAt_0 rfl (lv_at hl 0 rfl) ?_
  refine lv_iload_n hx hb d_M_litresAt_1 rfl (lv_at hl 1 rfl) ?_
  refine lv_iload_n hx hb d_M_litresAt_2 rfl (lv_at hl 2 rfl) ?_
  refine eh_cMV (As := [.int (eI ((k : Nat) : Int)), .int (eI 0)]) (rest := []) (q := (R_M, T_M, 23)) (wr := []) hx hb hml hown htb hN (m_M_reckon_0 l D cI cL cZ md co n sh ra up lw kn fo sc ln cb th pl lo pr la cu cl fu fl ys yl yp k (by omega) hM) 2 ⟨tb_694, tb_696, ts_30, tb_7, kin_M_reckon⟩ dv_M_reckon ⟨by rw [hR1]; decide, by rw [hR2]; decide⟩ hK hP hD hS hA 0 rfl rfl [0, 1, 2, 3, 4, 5, 6, 7, 8] [] rfl rfl (by decide) rfl (by decide) (by decide) [0, 1, 2] rfl rfl rfl hl.1 (Nat.le_of_ble_eq_true rfl) d_M_litresAt_3 ⟨Nat.zero_le _, Nat.zero_le _⟩ (fun u H locs hu hP hD hS => ?_)
  have hP := hP.sub (ws' := [((md 0), .inr (5, [.int (eI co), .int (eI ((n : Nat) : Int)), .ref (md 1), .ref (md 2), .ref (md 3), .int (eI sh), .int (eI ra), .ref (md 4), .ref (md 5), .ref (md 6), .ref (md 7), .ref (md 8), .long (eL ((fu k : Nat) : Int)), .long (eL ((fl k : Nat) : Int)), .ref (md 9), .ref (md 10), .ref (md 11), .ref (md 12), .ref (md 13), .ref (md 14), .ref (md 15), .int (eI kn), .int (eI fo)])), ((md 1), aI cI 25 sc), ((md 2), aI cI 4 ln), ((md 3), aI cZ 4 cb), ((md 4), aI cZ 3 th), ((md 5), aI cI 3 pl), ((md 6), aI cI 3 lo), ((md 7), aI cI 3 pr), ((md 8), aI cI 30 la)]) [0, 1, 2, 3, 4, 5, 6, 7, 8] rfl
  have hD := hD.sub (ws' := [((md 0), .inr (5, [.int (eI co), .int (eI ((n : Nat) : Int)), .ref (md 1), .ref (md 2), .ref (md 3), .int (eI sh), .int (eI ra), .ref (md 4), .ref (md 5), .ref (md 6), .ref (md 7), .ref (md 8), .long (eL ((fu k : Nat) : Int)), .long (eL ((fl k : Nat) : Int)), .ref (md 9), .ref (md 10), .ref (md 11), .ref (md 12), .ref (md 13), .ref (md 14), .ref (md 15), .int (eI kn), .int (eI fo)])), ((md 1), aI cI 25 sc), ((md 2), aI cI 4 ln), ((md 3), aI cZ 4 cb), ((md 4), aI cZ 3 th), ((md 5), aI cI 3 pl), ((md 6), aI cI 3 lo), ((md 7), aI cI 3 pr), ((md 8), aI cI 30 la)]) [0, 1, 2, 3, 4, 5, 6, 7, 8] (by decide) rfl
  refine lv_aload_n hx hb d_M_litresAt_6 rfl (lv_at hl 0 rfl) ?_
  refine va_get (D := D) (ci := 5) (v := .long (eL ((fu k : Nat) : Int))) (C := R_M) (T := T_M) (N := 23) hx hb htb in_M hown hK hP 0 rfl rfl 12 (by decide) (htb _ tb_600) (fun _ h9 => h9) rfl d_M_litresAt_7 ?_
  refine lv_lstore_n hx hb d_M_litresAt_10 rfl hl (by decide) rfl (fun ls hl => ?_)
  have hl : lv_has ls 13 [(3, .long (eL ((fu k : Nat) : Int))), (0, .ref (md 0)), (1, .int (eI ((k : Nat) : Int))), (2, .int (eI 0))] := hl
  refine lv_aload_n hx hb d_M_litresAt_11 rfl (lv_at hl 1 rfl) ?_
  refine va_get (D := D) (ci := 5) (v := .long (eL ((fl k : Nat) : Int))) (C := R_M) (T := T_M) (N := 23) hx hb htb in_M hown hK hP 0 rfl rfl 13 (by decide) (htb _ tb_601) (fun _ h9 => h9) rfl d_M_litresAt_12 ?_
  refine lv_lstore hx hb d_M_litresAt_15 hl (by decide) rfl (fun ls hl => ?_)
  have hl : lv_has ls 13 [(5, .long (eL ((fl k : Nat) : Int))), (3, .long (eL ((fu k : Nat) : Int))), (0, .ref (md 0)), (1, .int (eI ((k : Nat) : Int))), (2, .int (eI 0))] := hl
  refine lv_aload_n hx hb d_M_litresAt_17 rfl (lv_at hl 2 rfl) ?_
  refine lv_iload_n hx hb d_M_litresAt_18 rfl (lv_at hl 3 rfl) ?_
  refine lv_iconst (v := eI 1) hx hb d_M_litresAt_19 rfl ?_
  refine we_iadd hx hb d_M_litresAt_20 ?_
  refine lv_iload_n hx hb d_M_litresAt_21 rfl (lv_at hl 4 rfl) ?_
  refine eh_cMV (As := [.int (eI (((k : Nat) : Int) + 1)), .int (eI 0)]) (rest := []) (q := (R_M, T_M, 23)) (wr := []) hx hb hml hown htb hN (m_M_reckon_0 l D cI cL cZ md co n sh ra ((fu k : Nat) : Int) ((fl k : Nat) : Int) kn fo sc ln cb th pl lo pr la cu cl fu fl ys yl yp (k + 1) (by omega) hM) 2 ⟨tb_694, tb_696, ts_30, tb_7, kin_M_reckon⟩ dv_M_reckon ⟨by rw [hR1]; decide, by rw [hR2]; decide⟩ hK hP hD hS hA 0 rfl rfl [0, 1, 2, 3, 4, 5, 6, 7, 8] [] rfl rfl (by decide) rfl (by decide) (by decide) [0, 1, 2] rfl rfl rfl hl.1 (Nat.le_of_ble_eq_true rfl) d_M_litresAt_22 ⟨Nat.zero_le _, Nat.zero_le _⟩ (fun u H locs hu hP hD hS => ?_)
  have hP := hP.sub (ws' := [((md 0), .inr (5, [.int (eI co), .int (eI ((n : Nat) : Int)), .ref (md 1), .ref (md 2), .ref (md 3), .int (eI sh), .int (eI ra), .ref (md 4), .ref (md 5), .ref (md 6), .ref (md 7), .ref (md 8), .long (eL ((fu (k + 1) : Nat) : Int)), .long (eL ((fl (k + 1) : Nat) : Int)), .ref (md 9), .ref (md 10), .ref (md 11), .ref (md 12), .ref (md 13), .ref (md 14), .ref (md 15), .int (eI kn), .int (eI fo)])), ((md 1), aI cI 25 sc), ((md 2), aI cI 4 ln), ((md 3), aI cZ 4 cb), ((md 4), aI cZ 3 th), ((md 5), aI cI 3 pl), ((md 6), aI cI 3 lo), ((md 7), aI cI 3 pr), ((md 8), aI cI 30 la)]) [0, 1, 2, 3, 4, 5, 6, 7, 8] rfl
  have hD := hD.sub (ws' := [((md 0), .inr (5, [.int (eI co), .int (eI ((n : Nat) : Int)), .ref (md 1), .ref (md 2), .ref (md 3), .int (eI sh), .int (eI ra), .ref (md 4), .ref (md 5), .ref (md 6), .ref (md 7), .ref (md 8), .long (eL ((fu (k + 1) : Nat) : Int)), .long (eL ((fl (k + 1) : Nat) : Int)), .ref (md 9), .ref (md 10), .ref (md 11), .ref (md 12), .ref (md 13), .ref (md 14), .ref (md 15), .int (eI kn), .int (eI fo)])), ((md 1), aI cI 25 sc), ((md 2), aI cI 4 ln), ((md 3), aI cZ 4 cb), ((md 4), aI cZ 3 th), ((md 5), aI cI 3 pl), ((md 6), aI cI 3 lo), ((md 7), aI cI 3 pr), ((md 8), aI cI 30 la)]) [0, 1, 2, 3, 4, 5, 6, 7, 8] (by decide) rfl
  refine lv_lload_n hx hb d_M_litresAt_25 rfl (lv_at hl 1 rfl) ?_
  refine lv_aload_n hx hb d_M_litresAt_26 rfl (lv_at hl 2 rfl) ?_
  refine va_get (D := D) (ci := 5) (v := .long (eL ((fl (k + 1) : Nat) : Int))) (C := R_M) (T := T_M) (N := 23) hx hb htb in_M hown hK hP 0 rfl rfl 13 (by decide) (htb _ tb_601) (fun _ h9 => h9) rfl d_M_litresAt_27 ?_
  refine we_lmul hx hb d_M_litresAt_30 ?_
  refine lv_aload_n hx hb d_M_litresAt_31 rfl (lv_at hl 2 rfl) ?_
  refine va_get (D := D) (ci := 5) (v := .long (eL ((fu (k + 1) : Nat) : Int))) (C := R_M) (T := T_M) (N := 23) hx hb htb in_M hown hK hP 0 rfl rfl 12 (by decide) (htb _ tb_600) (fun _ h9 => h9) rfl d_M_litresAt_32 ?_
  refine lv_lload hx hb d_M_litresAt_35 (lv_at hl 0 rfl) ?_
  refine we_lmul hx hb d_M_litresAt_37 ?_
  refine we_ladd hx hb d_M_litresAt_38 ?_
  refine lv_aload_n hx hb d_M_litresAt_39 rfl (lv_at hl 2 rfl) ?_
  refine va_get (D := D) (ci := 5) (v := .ref (md 2)) (C := R_M) (T := T_M) (N := 23) hx hb htb in_M hown hK hP 0 rfl rfl 3 (by decide) (htb _ tb_591) (fun _ h9 => h9) rfl d_M_litresAt_40 ?_
  refine lv_iload_n hx hb d_M_litresAt_43 rfl (lv_at hl 3 rfl) ?_
  refine we_iald hx hb hK hP 2 0 rfl rfl k rfl (by omega) (by decide) d_M_litresAt_44 ?_
  refine we_i2l hx hb (by constructor <;> omega) d_M_litresAt_45 ?_
  refine we_lmul hx hb d_M_litresAt_46 ?_
  refine we_ldc2 (a := 5) hx hb hown (htb _ tb_719) (by decide) d_M_litresAt_47 ?_
  refine we_lmul hx hb d_M_litresAt_50 ?_
  refine lv_lstore hx hb d_M_litresAt_51 hl (by decide) rfl (fun ls hl => ?_)
  have hl : lv_has ls 13 [(7, .long (eL ((((((fu k : Nat) : Int) * ((fl (k + 1) : Nat) : Int)) + (((fu (k + 1) : Nat) : Int) * ((fl k : Nat) : Int))) * (ln k)) * 5))), (5, .long (eL ((fl k : Nat) : Int))), (3, .long (eL ((fu k : Nat) : Int))), (0, .ref (md 0)), (1, .int (eI ((k : Nat) : Int))), (2, .int (eI 0))] := hl
  refine we_ldc2 (a := 2) hx hb hown (htb _ tb_720) (by decide) d_M_litresAt_53 ?_
  refine lv_lload hx hb d_M_litresAt_56 (lv_at hl 1 rfl) ?_
  refine we_lmul hx hb d_M_litresAt_58 ?_
  refine lv_aload_n hx hb d_M_litresAt_59 rfl (lv_at hl 3 rfl) ?_
  refine va_get (D := D) (ci := 5) (v := .long (eL ((fl (k + 1) : Nat) : Int))) (C := R_M) (T := T_M) (N := 23) hx hb htb in_M hown hK hP 0 rfl rfl 13 (by decide) (htb _ tb_601) (fun _ h9 => h9) rfl d_M_litresAt_60 ?_
  refine we_lmul hx hb d_M_litresAt_63 ?_
  refine lv_lstore hx hb d_M_litresAt_64 hl (by decide) rfl (fun ls hl => ?_)
  have hl : lv_has ls 13 [(9, .long (eL ((2 * ((fl k : Nat) : Int)) * ((fl (k + 1) : Nat) : Int)))), (7, .long (eL ((((((fu k : Nat) : Int) * ((fl (k + 1) : Nat) : Int)) + (((fu (k + 1) : Nat) : Int) * ((fl k : Nat) : Int))) * (ln k)) * 5))), (5, .long (eL ((fl k : Nat) : Int))), (3, .long (eL ((fu k : Nat) : Int))), (0, .ref (md 0)), (1, .int (eI ((k : Nat) : Int))), (2, .int (eI 0))] := hl
  obtain ⟨X9, hX9⟩ : ∃ z, z = ((((((fu k : Nat) : Int) * ((fl (k + 1) : Nat) : Int)) + (((fu (k + 1) : Nat) : Int) * ((fl k : Nat) : Int))) * (ln k)) * 5) := ⟨_, rfl⟩
  obtain ⟨V9, hV9⟩ : ∃ z, z = ((fl k : Nat) : Int) * ((fl (k + 1) : Nat) : Int) := ⟨_, rfl⟩
  rw [← hX9, show ((2 * ((fl k : Nat) : Int)) * ((fl (k + 1) : Nat) : Int)) = 2 * V9 by rw [hV9, Int.mul_assoc]] at hl
  rw [← hX9] at b3 b4
  rw [← hV9] at b1 b2
  have m1 := Int.emod_nonneg X9 (show (2 * V9) ≠ 0 by omega)
  have m2 := Int.emod_lt_of_pos X9 (show 0 < 2 * V9 by omega)
  refine lv_lload hx hb d_M_litresAt_66 (lv_at hl 1 rfl) ?_
  refine lv_lload hx hb d_M_litresAt_68 (lv_at hl 0 rfl) ?_
  refine we_ldiv hx hb (by constructor <;> omega) (by constructor <;> omega) (by omega) (by omega) d_M_litresAt_70 ?_
  refine lv_lstore hx hb d_M_litresAt_71 hl (by decide) rfl (fun ls hl => ?_)
  have hl : lv_has ls 13 [(11, .long (eL (X9 / (2 * V9)))), (9, .long (eL (2 * V9))), (7, .long (eL X9)), (5, .long (eL ((fl k : Nat) : Int))), (3, .long (eL ((fu k : Nat) : Int))), (0, .ref (md 0)), (1, .int (eI ((k : Nat) : Int))), (2, .int (eI 0))] := hl
  refine we_ldc2 (a := 2) hx hb hown (htb _ tb_720) (by decide) d_M_litresAt_73 ?_
  refine lv_lload hx hb d_M_litresAt_76 (lv_at hl 2 rfl) ?_
  refine lv_lload hx hb d_M_litresAt_78 (lv_at hl 1 rfl) ?_
  refine we_lrem hx hb (by constructor <;> omega) (by constructor <;> omega) (by omega) (by omega) d_M_litresAt_80 ?_
  refine we_lmul hx hb d_M_litresAt_81 ?_
  refine lv_lload hx hb d_M_litresAt_82 (lv_at hl 1 rfl) ?_
  refine we_lcmp_lt (pc2 := 85) (tgt := 95) hx hb (by constructor <;> omega) (by constructor <;> omega) d_M_litresAt_84 rfl d_M_litresAt_85 rfl (fun hc84 => ?_) (fun hc84 => ?_)
  ·
    refine lv_lload hx hb d_M_litresAt_95 (lv_at hl 0 rfl) ?_
    refine we_l2i hx hb d_M_litresAt_97 ?_
    have hres : (X9 / (2 * V9)) = (eh_kut fu fl ln k) := by
      have z := eh_half (X := X9) (V := V9) b3 b1
      rw [if_pos (by omega)] at z
      rw [z]
      show _ = eh_lt _ _ _ _ _
      unfold eh_lt
      rw [← hX9, ← hV9]
    rw [hres]
    subst hQ
    exact W.iret hx hb hrt (fun t9 ht hW => ⟨⟨(), rfl, trivial, by rw [ht]; exact hP, hD⟩, hS.F ht⟩) hS.2.2 d_M_litresAt_98
  ·
    refine lv_lload hx hb d_M_litresAt_88 (lv_at hl 0 rfl) ?_
    refine lv_lconst (v := eL 1) hx hb d_M_litresAt_90 (by decide) ?_
    refine we_ladd hx hb d_M_litresAt_91 ?_
    refine lv_goto (tgt := 97) hx hb d_M_litresAt_92 rfl ?_
    refine we_l2i hx hb d_M_litresAt_97 ?_
    have hres : ((X9 / (2 * V9)) + 1) = (eh_kut fu fl ln k) := by
      have z := eh_half (X := X9) (V := V9) b3 b1
      rw [if_neg (by omega)] at z
      rw [z]
      show _ = eh_lt _ _ _ _ _
      unfold eh_lt
      rw [← hX9, ← hV9]
    rw [hres]
    subst hQ
    exact W.iret hx hb hrt (fun t9 ht hW => ⟨⟨(), rfl, trivial, by rw [ht]; exact hP, hD⟩, hS.F ht⟩) hS.2.2 d_M_litresAt_98
