abbrev c_F_commonDivisor : ByteArray := prog_2_method_4_code
def y_F_commonDivisor : MethodName := ⟨"EarthHauls$Fraction", "commonDivisor", "(JJ)J"⟩
abbrev k_F_commonDivisor : Cond := .code y_F_commonDivisor c_F_commonDivisor 11 (some .long)
theorem kin_F_commonDivisor : k_F_commonDivisor ∈ ew_t := tb_437
theorem dv_F_commonDivisor : eh_dS y_F_commonDivisor 2 := ⟨by decide, by decide, by decide +kernel⟩
theorem d_F_commonDivisor_0 : decode c_F_commonDivisor 0 = .ok (.lload_n 0, 1) := by decide +kernel
theorem d_F_commonDivisor_1 : decode c_F_commonDivisor 1 = .ok (.lstore 4, 2) := by decide +kernel
theorem d_F_commonDivisor_3 : decode c_F_commonDivisor 3 = .ok (.lload_n 2, 1) := by decide +kernel
theorem d_F_commonDivisor_4 : decode c_F_commonDivisor 4 = .ok (.lstore 6, 2) := by decide +kernel
theorem d_F_commonDivisor_6 : decode c_F_commonDivisor 6 = .ok (.iconst 0, 1) := by decide +kernel
theorem d_F_commonDivisor_7 : decode c_F_commonDivisor 7 = .ok (.istore 8, 2) := by decide +kernel
theorem d_F_commonDivisor_9 : decode c_F_commonDivisor 9 = .ok (.iload 8, 2) := by decide +kernel
theorem d_F_commonDivisor_11 : decode c_F_commonDivisor 11 = .ok (.sipush 130, 3) := by decide +kernel
theorem d_F_commonDivisor_14 : decode c_F_commonDivisor 14 = .ok (.if_icmp .ge 31, 3) := by decide +kernel
theorem d_F_commonDivisor_17 : decode c_F_commonDivisor 17 = .ok (.lload 6, 2) := by decide +kernel
theorem d_F_commonDivisor_19 : decode c_F_commonDivisor 19 = .ok (.lconst 0, 1) := by decide +kernel
theorem d_F_commonDivisor_20 : decode c_F_commonDivisor 20 = .ok (.lcmp, 1) := by decide +kernel
theorem d_F_commonDivisor_21 : decode c_F_commonDivisor 21 = .ok (.ifCond .eq 24, 3) := by decide +kernel
theorem d_F_commonDivisor_24 : decode c_F_commonDivisor 24 = .ok (.lload 4, 2) := by decide +kernel
theorem d_F_commonDivisor_26 : decode c_F_commonDivisor 26 = .ok (.lload 6, 2) := by decide +kernel
theorem d_F_commonDivisor_28 : decode c_F_commonDivisor 28 = .ok (.lrem, 1) := by decide +kernel
theorem d_F_commonDivisor_29 : decode c_F_commonDivisor 29 = .ok (.lstore 9, 2) := by decide +kernel
theorem d_F_commonDivisor_31 : decode c_F_commonDivisor 31 = .ok (.lload 6, 2) := by decide +kernel
theorem d_F_commonDivisor_33 : decode c_F_commonDivisor 33 = .ok (.lstore 4, 2) := by decide +kernel
theorem d_F_commonDivisor_35 : decode c_F_commonDivisor 35 = .ok (.lload 9, 2) := by decide +kernel
theorem d_F_commonDivisor_37 : decode c_F_commonDivisor 37 = .ok (.lstore 6, 2) := by decide +kernel
theorem d_F_commonDivisor_39 : decode c_F_commonDivisor 39 = .ok (.iinc 8 1, 3) := by decide +kernel
theorem d_F_commonDivisor_42 : decode c_F_commonDivisor 42 = .ok (.goto (-33), 3) := by decide +kernel
theorem d_F_commonDivisor_45 : decode c_F_commonDivisor 45 = .ok (.lload 4, 2) := by decide +kernel
theorem d_F_commonDivisor_47 : decode c_F_commonDivisor 47 = .ok (.lreturn, 1) := by decide +kernel
set_option maxHeartbeats 4000000 in
set_option maxRecDepth 100000 in
theorem r_F_commonDivisor (l : Launch) (D : va_G) (a b : Nat) (ha62 : a < 4611686018427387904) (hb62 : b < 4611686018427387904) : eh_R l y_F_commonDivisor k_F_commonDivisor 0 0 D classes [] [.long (eL (a : Int)), .long (eL (b : Int))] [] (.long (eL ((Nat.gcd a b : Nat) : Int))) := by
  refine Met.ofW (cc := c_F_commonDivisor) (maxL := 11) (ret := (some .long)) (by decide) rfl ?_
  intro p e s m args below meth c s₁ B hml hv
  obtain ⟨hargs, hP, hK, hN⟩ := hv
  have hx := B.exec
  have hb := B.bytes
  have hrt := B.returns
  have hts := atoms_spec (ws := k_F_commonDivisor :: ew_t) B.pre
  have htb : ∀ w ∈ ew_t, w.before args s = true := fun w h => hts w (List.mem_cons_of_mem _ h)
  have hown : s.vm.findClass "EarthHauls$Fraction" = some m.cls := findClass_of_methodNamed B.named
  have hlocks := B.notSynchronized
  have hE : entryFrame m args 11 = entryFrame m ([.long (eL (a : Int)), .long (eL (b : Int))] : List Value).toArray 11 := by rw [hargs]
  rw [hE]
  clear hE hts B hargs
  generalize hRe : (headSpec _ _).room = R
  have hR1 : R.frames = 0 := by rw [← hRe]; rfl
  have hR2 : R.locals = 0 := by rw [← hRe]; rfl
  clear hRe
  generalize hQ : MQ below _ _ s 0 0 _ = Q
  have hP : va_P D classes [] s.heap := hP
  have hl := lv_entry ([.long (eL (a : Int)), .long (eL (b : Int))]) (n := 11) (Nat.le_of_ble_eq_true rfl)
  rw [lg_entry_eq]
  generalize (lg_sl ([.long (eL (a : Int)), .long (eL (b : Int))]) ++ List.replicate (11 - (lg_sl ([.long (eL (a : Int)), .long (eL (b : Int))])).length) Slot.unset).toArray = ls at hl ⊢
  have hl : lv_has ls 11 [(0, .long (eL (a : Int))), (2, .long (eL (b : Int)))] := hl
  refine lv_lload_n hx hb d_F_commonDivisor_0 rfl (lv_at hl 0 rfl) ?_
  refine lv_lstore hx hb d_F_commonDivisor_1 hl (by decide) rfl (fun ls hl => ?_)
  have hl : lv_has ls 11 [(4, .long (eL (a : Int))), (0, .long (eL (a : Int))), (2, .long (eL (b : Int)))] := hl
  refine lv_lload_n hx hb d_F_commonDivisor_3 rfl (lv_at hl 2 rfl) ?_
  refine lv_lstore hx hb d_F_commonDivisor_4 hl (by decide) rfl (fun ls hl => ?_)
  have hl : lv_has ls 11 [(6, .long (eL (b : Int))), (4, .long (eL (a : Int))), (0, .long (eL (a : Int))), (2, .long (eL (b : Int)))] := hl
  refine lv_iconst (v := eI 0) hx hb d_F_commonDivisor_6 rfl ?_
  refine lv_istore hx hb d_F_commonDivisor_7 hl (by decide) rfl (fun ls hl => ?_)
  have hl : lv_has ls 11 [(8, .int (eI 0)), (6, .long (eL (b : Int))), (4, .long (eL (a : Int))), (0, .long (eL (a : Int))), (2, .long (eL (b : Int)))] := hl
  have loop : ∀ (q i aa bb : Nat) (ls : Array Slot), 125 - i = q → aa < 4611686018427387904 → bb < 4611686018427387904 → eh_eu (Nat.gcd a b) i aa bb → lv_has ls 11 [(8, .int (eI ((i : Nat) : Int))), (6, .long (eL ((bb : Nat) : Int))), (4, .long (eL ((aa : Nat) : Int))), (2, .long (eL (b : Int))), (0, .long (eL (a : Int)))] → W p l e R s m args below meth c s.heap [] 0 0 Q (F0 m 9 ls []) := by
    intro q
    induction q with
    | zero =>
      intro i aa bb ls hq haa hbb heu hl
      have hi := heu.2.2.2.2
      have hb0 : bb = 0 := by
        apply Classical.byContradiction
        intro z
        have := eh_eu_lt heu (by omega)
        omega
      refine lv_iload hx hb d_F_commonDivisor_9 (lv_at hl 0 rfl) ?_
      refine lv_sipush (v := eI 130) hx hb d_F_commonDivisor_11 (by decide) ?_
      refine we_icmp_ge (tgt := 45) hx hb (by constructor <;> omega) (by constructor <;> omega) d_F_commonDivisor_14 rfl (fun hc14 => absurd hc14 (by omega)) (fun hc14 => ?_)
      refine lv_lload hx hb d_F_commonDivisor_17 (lv_at hl 1 rfl) ?_
      refine lv_lconst (v := eL 0) hx hb d_F_commonDivisor_19 (by decide) ?_
      refine we_lcmp_eq (pc2 := 21) (tgt := 45) hx hb (by constructor <;> omega) (by constructor <;> omega) d_F_commonDivisor_20 rfl d_F_commonDivisor_21 rfl (fun hc20 => ?_) (fun hc20 => absurd hc20 (by omega))
      refine lv_lload hx hb d_F_commonDivisor_45 (lv_at hl 2 rfl) ?_
      have hres : ((aa : Nat) : Int) = ((Nat.gcd a b : Nat) : Int) := by rw [← heu.1, hb0, Nat.gcd_zero_right]
      rw [hres]
      subst hQ
      exact W.lret hx hb hrt (fun t9 ht hW => ⟨rfl, ht⟩) (fun q h => by cases h) d_F_commonDivisor_47
    | succ q ih =>
      intro i aa bb ls hq haa hbb heu hl
      have hi := heu.2.2.2.2
      refine lv_iload hx hb d_F_commonDivisor_9 (lv_at hl 0 rfl) ?_
      refine lv_sipush (v := eI 130) hx hb d_F_commonDivisor_11 (by decide) ?_
      refine we_icmp_ge (tgt := 45) hx hb (by constructor <;> omega) (by constructor <;> omega) d_F_commonDivisor_14 rfl (fun hc14 => absurd hc14 (by omega)) (fun hc14 => ?_)
      refine lv_lload hx hb d_F_commonDivisor_17 (lv_at hl 1 rfl) ?_
      refine lv_lconst (v := eL 0) hx hb d_F_commonDivisor_19 (by decide) ?_
      refine we_lcmp_eq (pc2 := 21) (tgt := 45) hx hb (by constructor <;> omega) (by constructor <;> omega) d_F_commonDivisor_20 rfl d_F_commonDivisor_21 rfl (fun hc20 => ?_) (fun hc20 => ?_)
      ·
        refine lv_lload hx hb d_F_commonDivisor_45 (lv_at hl 2 rfl) ?_
        have hb0 : bb = 0 := by omega
        have hres : ((aa : Nat) : Int) = ((Nat.gcd a b : Nat) : Int) := by rw [← heu.1, hb0, Nat.gcd_zero_right]
        rw [hres]
        subst hQ
        exact W.lret hx hb hrt (fun t9 ht hW => ⟨rfl, ht⟩) (fun q h => by cases h) d_F_commonDivisor_47
      ·
        refine lv_lload hx hb d_F_commonDivisor_24 (lv_at hl 2 rfl) ?_
        refine lv_lload hx hb d_F_commonDivisor_26 (lv_at hl 1 rfl) ?_
        refine we_lrem hx hb (by constructor <;> omega) (by constructor <;> omega) (by omega) (by omega) d_F_commonDivisor_28 ?_
        refine lv_lstore hx hb d_F_commonDivisor_29 hl (by decide) rfl (fun ls hl => ?_)
        have hl : lv_has ls 11 [(9, .long (eL (((aa : Nat) : Int) % ((bb : Nat) : Int)))), (8, .int (eI ((i : Nat) : Int))), (6, .long (eL ((bb : Nat) : Int))), (4, .long (eL ((aa : Nat) : Int))), (2, .long (eL (b : Int))), (0, .long (eL (a : Int)))] := hl
        refine lv_lload hx hb d_F_commonDivisor_31 (lv_at hl 2 rfl) ?_
        refine lv_lstore hx hb d_F_commonDivisor_33 hl (by decide) rfl (fun ls hl => ?_)
        have hl : lv_has ls 11 [(4, .long (eL ((bb : Nat) : Int))), (9, .long (eL (((aa : Nat) : Int) % ((bb : Nat) : Int)))), (8, .int (eI ((i : Nat) : Int))), (6, .long (eL ((bb : Nat) : Int))), (2, .long (eL (b : Int))), (0, .long (eL (a : Int)))] := hl
        refine lv_lload hx hb d_F_commonDivisor_35 (lv_at hl 1 rfl) ?_
        refine lv_lstore hx hb d_F_commonDivisor_37 hl (by decide) rfl (fun ls hl => ?_)
        have hl : lv_has ls 11 [(6, .long (eL (((aa : Nat) : Int) % ((bb : Nat) : Int)))), (4, .long (eL ((bb : Nat) : Int))), (9, .long (eL (((aa : Nat) : Int) % ((bb : Nat) : Int)))), (8, .int (eI ((i : Nat) : Int))), (2, .long (eL (b : Int))), (0, .long (eL (a : Int)))] := hl
        refine lv_iinc (v := eI (((i : Nat) : Int) + 1)) hx hb d_F_commonDivisor_39 hl (k := 3) rfl (eI_add _ _) (by decide) rfl (fun ls hl => ?_)
        have hl : lv_has ls 11 [(8, .int (eI (((i : Nat) : Int) + 1))), (6, .long (eL (((aa : Nat) : Int) % ((bb : Nat) : Int)))), (4, .long (eL ((bb : Nat) : Int))), (9, .long (eL (((aa : Nat) : Int) % ((bb : Nat) : Int)))), (2, .long (eL (b : Int))), (0, .long (eL (a : Int)))] := hl
        refine lv_goto (tgt := 9) hx hb d_F_commonDivisor_42 rfl ?_
        have hbp : 0 < bb := by omega
        have hmlt := Nat.mod_lt aa hbp
        exact ih (i + 1) bb (aa % bb) ls (by omega) hbb (by omega) (eh_eu_s heu hbp) (lv_sub hl [0, 1, 2, 4, 5] rfl)
  exact loop 125 0 a b ls (by omega) ha62 hb62 (eh_eu_0 ha62 hb62) (lv_sub hl [0, 1, 2, 4, 3] rfl)
abbrev c_F_setToZero : ByteArray := prog_2_method_2_code
def y_F_setToZero : MethodName := ⟨"EarthHauls$Fraction", "setToZero", "()V"⟩
abbrev k_F_setToZero : Cond := .code y_F_setToZero c_F_setToZero 1 none
theorem kin_F_setToZero : k_F_setToZero ∈ ew_t := tb_425
theorem dv_F_setToZero : eh_dV y_F_setToZero "EarthHauls$Fraction" 0 := ⟨rfl, by decide, by decide, by decide +kernel⟩
theorem d_F_setToZero_0 : decode c_F_setToZero 0 = .ok (.aload_n 0, 1) := by decide +kernel
theorem d_F_setToZero_1 : decode c_F_setToZero 1 = .ok (.lconst 0, 1) := by decide +kernel
theorem d_F_setToZero_2 : decode c_F_setToZero 2 = .ok (.putfield 7, 3) := by decide +kernel
theorem d_F_setToZero_5 : decode c_F_setToZero 5 = .ok (.aload_n 0, 1) := by decide +kernel
theorem d_F_setToZero_6 : decode c_F_setToZero 6 = .ok (.lconst 1, 1) := by decide +kernel
theorem d_F_setToZero_7 : decode c_F_setToZero 7 = .ok (.putfield 13, 3) := by decide +kernel
theorem d_F_setToZero_10 : decode c_F_setToZero 10 = .ok (.return_, 1) := by decide +kernel
set_option maxHeartbeats 4000000 in
set_option maxRecDepth 100000 in
theorem m_F_setToZero (l : Launch) (D : va_G) (f0 : Nat) (u v : Int) : eh_M (S := Unit) l y_F_setToZero k_F_setToZero 0 0 D classes [] [.ref f0] [(f0, .inr (0, [.long (eL u), .long (eL v)]))] (fun _ => True) (fun _ => none) (fun _ => [(f0, .inr (0, [.long (eL 0), .long (eL 1)]))]) := by
  intro sz
  refine Met.ofW (cc := c_F_setToZero) (maxL := 1) (ret := none) (by decide) rfl ?_
  intro p e s m args below meth c s₁ B hml hv
  obtain ⟨hargs, hsz, hP, hK, hD0, hN⟩ := hv
  have hx := B.exec
  have hb := B.bytes
  have hrt := B.returns
  have hts := atoms_spec (ws := k_F_setToZero :: ew_t) B.pre
  have htb : ∀ w ∈ ew_t, w.before args s = true := fun w h => hts w (List.mem_cons_of_mem _ h)
  have hown : s.vm.findClass "EarthHauls$Fraction" = some m.cls := findClass_of_methodNamed B.named
  have hlocks := B.notSynchronized
  have hE : entryFrame m args 1 = entryFrame m ([.ref f0] : List Value).toArray 1 := by rw [hargs]
  rw [hE]
  clear hE hts B hargs
  generalize hRe : (headSpec _ _).room = R
  have hR1 : R.frames = 0 := by rw [← hRe]; rfl
  have hR2 : R.locals = 0 := by rw [← hRe]; rfl
  clear hRe
  generalize hQ : MQ below _ _ s 0 0 _ = Q
  subst hsz
  have hD := hD0.self (sz := s.heap.size)
  generalize hAe : va_A [(f0, .inr (0, [.long (eL u), .long (eL v)]))] s.heap.size = A at hD hQ
  have hA : ∀ q : Nat, s.heap.size ≤ q → A q := fun q h => by rw [← hAe]; exact Or.inr h
  have hS : va_S A s.heap s.heap [] := va_S.rf
  have hP : va_P D classes [(f0, .inr (0, [.long (eL u), .long (eL v)]))] s.heap := hP
  have hl := lv_entry ([.ref f0]) (n := 1) (Nat.le_of_ble_eq_true rfl)
  rw [lg_entry_eq]
  generalize (lg_sl ([.ref f0]) ++ List.replicate (1 - (lg_sl ([.ref f0])).length) Slot.unset).toArray = ls at hl ⊢
  have hl : lv_has ls 1 [(0, .ref f0)] := hl
  refine lv_aload_n hx hb d_F_setToZero_0 rfl (lv_at hl 0 rfl) ?_
  refine lv_lconst (v := eL 0) hx hb d_F_setToZero_1 (by decide) ?_
  refine va_put (D := D) (ci := 0) (v := .long (eL 0)) (ty := .long) (C := R_F) (T := T_F) (N := 2) hx hb htb in_F t_F t_F_ok n_F hown hK hP hD hS 0 rfl rfl 0 (by decide) (htb _ tb_72) (fun _ h9 => h9) rfl (by decide +kernel) rfl rfl (Nat.le_of_ble_eq_true rfl) d_F_setToZero_2 (fun H locs hP hD hS => ?_)
  have hP : va_P D classes [(f0, .inr (0, [.long (eL 0), .long (eL v)]))] H := hP
  have hD : va_D A [(f0, .inr (0, [.long (eL 0), .long (eL v)]))] := hD
  refine lv_aload_n hx hb d_F_setToZero_5 rfl (lv_at hl 0 rfl) ?_
  refine lv_lconst (v := eL 1) hx hb d_F_setToZero_6 (by decide) ?_
  refine va_put (D := D) (ci := 0) (v := .long (eL 1)) (ty := .long) (C := R_F) (T := T_F) (N := 2) hx hb htb in_F t_F t_F_ok n_F hown hK hP hD hS 0 rfl rfl 1 (by decide) (htb _ tb_74) (fun _ h9 => h9) rfl (by decide +kernel) rfl rfl (Nat.le_of_ble_eq_true rfl) d_F_setToZero_7 (fun H locs hP hD hS => ?_)
  have hP : va_P D classes [(f0, .inr (0, [.long (eL 0), .long (eL 1)]))] H := hP
  have hD : va_D A [(f0, .inr (0, [.long (eL 0), .long (eL 1)]))] := hD
  subst hQ
  exact W.vret hx hb hrt (fun t9 ht hW => ⟨⟨(), rfl, trivial, by rw [ht]; exact hP, hD⟩, hS.F ht⟩) hS.2.2 d_F_setToZero_10
abbrev c_F_add : ByteArray := prog_2_method_3_code
def y_F_add : MethodName := ⟨"EarthHauls$Fraction", "add", "(JJ)V"⟩
abbrev k_F_add : Cond := .code y_F_add c_F_add 11 none
theorem kin_F_add : k_F_add ∈ ew_t := tb_434
theorem dv_F_add : eh_dV y_F_add "EarthHauls$Fraction" 2 := ⟨rfl, by decide, by decide, by decide +kernel⟩
theorem d_F_add_0 : decode c_F_add 0 = .ok (.aload_n 0, 1) := by decide +kernel
theorem d_F_add_1 : decode c_F_add 1 = .ok (.getfield 7, 3) := by decide +kernel
theorem d_F_add_4 : decode c_F_add 4 = .ok (.lload_n 3, 1) := by decide +kernel
theorem d_F_add_5 : decode c_F_add 5 = .ok (.lmul, 1) := by decide +kernel
theorem d_F_add_6 : decode c_F_add 6 = .ok (.lload_n 1, 1) := by decide +kernel
theorem d_F_add_7 : decode c_F_add 7 = .ok (.aload_n 0, 1) := by decide +kernel
theorem d_F_add_8 : decode c_F_add 8 = .ok (.getfield 13, 3) := by decide +kernel
theorem d_F_add_11 : decode c_F_add 11 = .ok (.lmul, 1) := by decide +kernel
theorem d_F_add_12 : decode c_F_add 12 = .ok (.ladd, 1) := by decide +kernel
theorem d_F_add_13 : decode c_F_add 13 = .ok (.lstore 5, 2) := by decide +kernel
theorem d_F_add_15 : decode c_F_add 15 = .ok (.aload_n 0, 1) := by decide +kernel
theorem d_F_add_16 : decode c_F_add 16 = .ok (.getfield 13, 3) := by decide +kernel
theorem d_F_add_19 : decode c_F_add 19 = .ok (.lload_n 3, 1) := by decide +kernel
theorem d_F_add_20 : decode c_F_add 20 = .ok (.lmul, 1) := by decide +kernel
theorem d_F_add_21 : decode c_F_add 21 = .ok (.lstore 7, 2) := by decide +kernel
theorem d_F_add_23 : decode c_F_add 23 = .ok (.lload 5, 2) := by decide +kernel
theorem d_F_add_25 : decode c_F_add 25 = .ok (.lload 7, 2) := by decide +kernel
theorem d_F_add_27 : decode c_F_add 27 = .ok (.invokestatic 16, 3) := by decide +kernel
theorem d_F_add_30 : decode c_F_add 30 = .ok (.lstore 9, 2) := by decide +kernel
theorem d_F_add_32 : decode c_F_add 32 = .ok (.lload 9, 2) := by decide +kernel
theorem d_F_add_34 : decode c_F_add 34 = .ok (.lconst 0, 1) := by decide +kernel
theorem d_F_add_35 : decode c_F_add 35 = .ok (.lcmp, 1) := by decide +kernel
theorem d_F_add_36 : decode c_F_add 36 = .ok (.ifCond .le 21, 3) := by decide +kernel
theorem d_F_add_39 : decode c_F_add 39 = .ok (.aload_n 0, 1) := by decide +kernel
theorem d_F_add_40 : decode c_F_add 40 = .ok (.lload 5, 2) := by decide +kernel
theorem d_F_add_42 : decode c_F_add 42 = .ok (.lload 9, 2) := by decide +kernel
theorem d_F_add_44 : decode c_F_add 44 = .ok (.ldiv, 1) := by decide +kernel
theorem d_F_add_45 : decode c_F_add 45 = .ok (.putfield 7, 3) := by decide +kernel
theorem d_F_add_48 : decode c_F_add 48 = .ok (.aload_n 0, 1) := by decide +kernel
theorem d_F_add_49 : decode c_F_add 49 = .ok (.lload 7, 2) := by decide +kernel
theorem d_F_add_51 : decode c_F_add 51 = .ok (.lload 9, 2) := by decide +kernel
theorem d_F_add_53 : decode c_F_add 53 = .ok (.ldiv, 1) := by decide +kernel
theorem d_F_add_54 : decode c_F_add 54 = .ok (.putfield 13, 3) := by decide +kernel
theorem d_F_add_57 : decode c_F_add 57 = .ok (.return_, 1) := by decide +kernel
set_option maxHeartbeats 4000000 in
set_option maxRecDepth 100000 in
theorem m_F_add (l : Launch) (D : va_G) (f0 u v n d : Nat) (hv : 0 < v) (hd : 0 < d) (h1 : u * d + n * v < 4611686018427387904) (h2 : v * d < 4611686018427387904) : eh_M (S := Unit) l y_F_add k_F_add 1 30 D classes [] [.ref f0, .long (eL (n : Int)), .long (eL (d : Int))] [(f0, .inr (0, [.long (eL (u : Int)), .long (eL (v : Int))]))] (fun _ => True) (fun _ => none) (fun _ => [(f0, .inr (0, [.long (eL (((u * d + n * v) / Nat.gcd (u * d + n * v) (v * d) : Nat) : Int)), .long (eL ((v * d / Nat.gcd (u * d + n * v) (v * d) : Nat) : Int))]))]) := by
  intro sz
  refine Met.ofW (cc := c_F_add) (maxL := 11) (ret := none) (by decide) rfl ?_
  intro p e s m args below meth c s₁ B hml hv
  obtain ⟨hargs, hsz, hP, hK, hD0, hN⟩ := hv
  have hx := B.exec
  have hb := B.bytes
  have hrt := B.returns
  have hts := atoms_spec (ws := k_F_add :: ew_t) B.pre
  have htb : ∀ w ∈ ew_t, w.before args s = true := fun w h => hts w (List.mem_cons_of_mem _ h)
  have hown : s.vm.findClass "EarthHauls$Fraction" = some m.cls := findClass_of_methodNamed B.named
  have hlocks := B.notSynchronized
  have hE : entryFrame m args 11 = entryFrame m ([.ref f0, .long (eL (n : Int)), .long (eL (d : Int))] : List Value).toArray 11 := by rw [hargs]
  rw [hE]
  clear hE hts B hargs
  generalize hRe : (headSpec _ _).room = R
  have hR1 : R.frames = 1 := by rw [← hRe]; rfl
  have hR2 : R.locals = 30 := by rw [← hRe]; rfl
  clear hRe
  generalize hQ : MQ below _ _ s 0 0 _ = Q
  subst hsz
  have hD := hD0.self (sz := s.heap.size)
  generalize hAe : va_A [(f0, .inr (0, [.long (eL (u : Int)), .long (eL (v : Int))]))] s.heap.size = A at hD hQ
  have hA : ∀ q : Nat, s.heap.size ≤ q → A q := fun q h => by rw [← hAe]; exact Or.inr h
  have hS : va_S A s.heap s.heap [] := va_S.rf
  have hP : va_P D classes [(f0, .inr (0, [.long (eL (u : Int)), .long (eL (v : Int))]))] s.heap := hP
  have hl := lv_entry ([.ref f0, .long (eL (n : Int)), .long (eL (d : Int))]) (n := 11) (Nat.le_of_ble_eq_true rfl)
  rw [lg_entry_eq]
  generalize (lg_sl ([.ref f0, .long (eL (n : Int)), .long (eL (d : Int))]) ++ List.replicate (11 - (lg_sl ([.ref f0, .long (eL (n : Int)), .long (eL (d : Int))])).length) Slot.unset).toArray = ls at hl ⊢
  have hl : lv_has ls 11 [(0, .ref f0), (1, .long (eL (n : Int))), (3, .long (eL (d : Int)))] := hl
  refine lv_aload_n hx hb d_F_add_0 rfl (lv_at hl 0 rfl) ?_
  refine va_get (D := D) (ci := 0) (v := .long (eL (u : Int))) (C := R_F) (T := T_F) (N := 2) hx hb htb in_F hown hK hP 0 rfl rfl 0 (by decide) (htb _ tb_72) (fun _ h9 => h9) rfl d_F_add_1 ?_
  refine lv_lload_n hx hb d_F_add_4 rfl (lv_at hl 2 rfl) ?_
  refine we_lmul hx hb d_F_add_5 ?_
  refine lv_lload_n hx hb d_F_add_6 rfl (lv_at hl 1 rfl) ?_
  refine lv_aload_n hx hb d_F_add_7 rfl (lv_at hl 0 rfl) ?_
  refine va_get (D := D) (ci := 0) (v := .long (eL (v : Int))) (C := R_F) (T := T_F) (N := 2) hx hb htb in_F hown hK hP 0 rfl rfl 1 (by decide) (htb _ tb_74) (fun _ h9 => h9) rfl d_F_add_8 ?_
  refine we_lmul hx hb d_F_add_11 ?_
  refine we_ladd hx hb d_F_add_12 ?_
  refine lv_lstore hx hb d_F_add_13 hl (by decide) rfl (fun ls hl => ?_)
  have hl : lv_has ls 11 [(5, .long (eL (((u : Int) * (d : Int)) + ((n : Int) * (v : Int))))), (0, .ref f0), (1, .long (eL (n : Int))), (3, .long (eL (d : Int)))] := hl
  have hl : lv_has ls 11 [(5, .long (eL ((u * d + n * v : Nat) : Int))), (0, .ref f0), (1, .long (eL (n : Int))), (3, .long (eL (d : Int)))] := hl
  refine lv_aload_n hx hb d_F_add_15 rfl (lv_at hl 1 rfl) ?_
  refine va_get (D := D) (ci := 0) (v := .long (eL (v : Int))) (C := R_F) (T := T_F) (N := 2) hx hb htb in_F hown hK hP 0 rfl rfl 1 (by decide) (htb _ tb_74) (fun _ h9 => h9) rfl d_F_add_16 ?_
  refine lv_lload_n hx hb d_F_add_19 rfl (lv_at hl 3 rfl) ?_
  refine we_lmul hx hb d_F_add_20 ?_
  refine lv_lstore hx hb d_F_add_21 hl (by decide) rfl (fun ls hl => ?_)
  have hl : lv_has ls 11 [(7, .long (eL ((v : Int) * (d : Int)))), (5, .long (eL ((u * d + n * v : Nat) : Int))), (0, .ref f0), (1, .long (eL (n : Int))), (3, .long (eL (d : Int)))] := hl
  have hl : lv_has ls 11 [(7, .long (eL ((v * d : Nat) : Int))), (5, .long (eL ((u * d + n * v : Nat) : Int))), (0, .ref f0), (1, .long (eL (n : Int))), (3, .long (eL (d : Int)))] := hl
  refine lv_lload hx hb d_F_add_23 (lv_at hl 1 rfl) ?_
  refine lv_lload hx hb d_F_add_25 (lv_at hl 0 rfl) ?_
  refine eh_cRS (As := [.long (eL ((u * d + n * v : Nat) : Int)), .long (eL ((v * d : Nat) : Int))]) (rest := []) (v := .long (eL ((Nat.gcd (u * d + n * v) (v * d) : Nat) : Int))) hx hb hml hown htb hN (r_F_commonDivisor l D (u * d + n * v) (v * d) h1 h2) 2 ⟨tb_435, tb_436, tb_4, kin_F_commonDivisor⟩ dv_F_commonDivisor ⟨by rw [hR1]; decide, by rw [hR2]; decide⟩ hK hP [] rfl [] rfl rfl rfl hl.1 (Nat.le_of_ble_eq_true rfl) d_F_add_27 ⟨Nat.zero_le _, Nat.zero_le _⟩ ?_
  refine lv_lstore hx hb d_F_add_30 hl (by decide) rfl (fun ls hl => ?_)
  have hl : lv_has ls 11 [(9, .long (eL ((Nat.gcd (u * d + n * v) (v * d) : Nat) : Int))), (7, .long (eL ((v * d : Nat) : Int))), (5, .long (eL ((u * d + n * v : Nat) : Int))), (0, .ref f0), (1, .long (eL (n : Int))), (3, .long (eL (d : Int)))] := hl
  have hgp : 0 < Nat.gcd (u * d + n * v) (v * d) := Nat.gcd_pos_of_pos_right _ (Nat.mul_pos hv hd)
  have hgle : Nat.gcd (u * d + n * v) (v * d) ≤ v * d := Nat.gcd_le_right _ (Nat.mul_pos hv hd)
  generalize hg9 : Nat.gcd (u * d + n * v) (v * d) = G at hgp hgle hl ⊢
  generalize hX9 : u * d + n * v = X at h1 hl hg9 ⊢
  generalize hY9 : v * d = Y at h2 hgle hl hg9 ⊢
  refine lv_lload hx hb d_F_add_32 (lv_at hl 0 rfl) ?_
  refine lv_lconst (v := eL 0) hx hb d_F_add_34 (by decide) ?_
  refine we_lcmp_le (pc2 := 36) (tgt := 57) hx hb (by constructor <;> omega) (by constructor <;> omega) d_F_add_35 rfl d_F_add_36 rfl (fun hc35 => absurd hc35 (by omega)) (fun hc35 => ?_)
  refine lv_aload_n hx hb d_F_add_39 rfl (lv_at hl 3 rfl) ?_
  refine lv_lload hx hb d_F_add_40 (lv_at hl 2 rfl) ?_
  refine lv_lload hx hb d_F_add_42 (lv_at hl 0 rfl) ?_
  refine we_ldiv hx hb (by constructor <;> omega) (by constructor <;> omega) (by omega) (by omega) d_F_add_44 ?_
  refine va_put (D := D) (ci := 0) (v := .long (eL (((X : Nat) : Int) / ((G : Nat) : Int)))) (ty := .long) (C := R_F) (T := T_F) (N := 2) hx hb htb in_F t_F t_F_ok n_F hown hK hP hD hS 0 rfl rfl 0 (by decide) (htb _ tb_72) (fun _ h9 => h9) rfl (by decide +kernel) rfl rfl (Nat.le_of_ble_eq_true rfl) d_F_add_45 (fun H locs hP hD hS => ?_)
  have hP : va_P D classes [(f0, .inr (0, [.long (eL (((X : Nat) : Int) / ((G : Nat) : Int))), .long (eL (v : Int))]))] H := hP
  have hD : va_D A [(f0, .inr (0, [.long (eL (((X : Nat) : Int) / ((G : Nat) : Int))), .long (eL (v : Int))]))] := hD
  refine lv_aload_n hx hb d_F_add_48 rfl (lv_at hl 3 rfl) ?_
  refine lv_lload hx hb d_F_add_49 (lv_at hl 1 rfl) ?_
  refine lv_lload hx hb d_F_add_51 (lv_at hl 0 rfl) ?_
  refine we_ldiv hx hb (by constructor <;> omega) (by constructor <;> omega) (by omega) (by omega) d_F_add_53 ?_
  refine va_put (D := D) (ci := 0) (v := .long (eL (((Y : Nat) : Int) / ((G : Nat) : Int)))) (ty := .long) (C := R_F) (T := T_F) (N := 2) hx hb htb in_F t_F t_F_ok n_F hown hK hP hD hS 0 rfl rfl 1 (by decide) (htb _ tb_74) (fun _ h9 => h9) rfl (by decide +kernel) rfl rfl (Nat.le_of_ble_eq_true rfl) d_F_add_54 (fun H locs hP hD hS => ?_)
  have hP : va_P D classes [(f0, .inr (0, [.long (eL (((X : Nat) : Int) / ((G : Nat) : Int))), .long (eL (((Y : Nat) : Int) / ((G : Nat) : Int)))]))] H := hP
  have hD : va_D A [(f0, .inr (0, [.long (eL (((X : Nat) : Int) / ((G : Nat) : Int))), .long (eL (((Y : Nat) : Int) / ((G : Nat) : Int)))]))] := hD
  have e1 : (((X : Nat) : Int) / ((G : Nat) : Int)) = ((X / G : Nat) : Int) := rfl
  have e2 : (((Y : Nat) : Int) / ((G : Nat) : Int)) = ((Y / G : Nat) : Int) := rfl
  rw [e1, e2] at hP hD
  subst hg9
  subst hX9
  subst hY9
  subst hQ
  exact W.vret hx hb hrt (fun t9 ht hW => ⟨⟨(), rfl, trivial, by rw [ht]; exact hP, hD⟩, hS.F ht⟩) hS.2.2 d_F_add_57
abbrev c_S_addHigher : ByteArray := prog_4_method_3_code
def y_S_addHigher : MethodName := ⟨"EarthHauls$Section", "addHigher", "(LEarthHauls$Fraction;III)V"⟩
abbrev k_S_addHigher : Cond := .code y_S_addHigher c_S_addHigher 6 none
theorem kin_S_addHigher : k_S_addHigher ∈ ew_t := tb_428
theorem dv_S_addHigher : eh_dS y_S_addHigher 4 := ⟨by decide, by decide, by decide +kernel⟩
theorem d_S_addHigher_0 : decode c_S_addHigher 0 = .ok (.iload_n 1, 1) := by decide +kernel
theorem d_S_addHigher_1 : decode c_S_addHigher 1 = .ok (.iload_n 2, 1) := by decide +kernel
theorem d_S_addHigher_2 : decode c_S_addHigher 2 = .ok (.invokestatic 26, 3) := by decide +kernel
theorem d_S_addHigher_5 : decode c_S_addHigher 5 = .ok (.istore 4, 2) := by decide +kernel
theorem d_S_addHigher_7 : decode c_S_addHigher 7 = .ok (.iload_n 1, 1) := by decide +kernel
theorem d_S_addHigher_8 : decode c_S_addHigher 8 = .ok (.iload_n 2, 1) := by decide +kernel
theorem d_S_addHigher_9 : decode c_S_addHigher 9 = .ok (.invokestatic 32, 3) := by decide +kernel
theorem d_S_addHigher_12 : decode c_S_addHigher 12 = .ok (.istore 5, 2) := by decide +kernel
theorem d_S_addHigher_14 : decode c_S_addHigher 14 = .ok (.iload 4, 2) := by decide +kernel
theorem d_S_addHigher_16 : decode c_S_addHigher 16 = .ok (.ifCond .le 25, 3) := by decide +kernel
theorem d_S_addHigher_19 : decode c_S_addHigher 19 = .ok (.iload 5, 2) := by decide +kernel
theorem d_S_addHigher_21 : decode c_S_addHigher 21 = .ok (.ifCond .lt 20, 3) := by decide +kernel
theorem d_S_addHigher_24 : decode c_S_addHigher 24 = .ok (.aload_n 0, 1) := by decide +kernel
theorem d_S_addHigher_25 : decode c_S_addHigher 25 = .ok (.iload 4, 2) := by decide +kernel
theorem d_S_addHigher_27 : decode c_S_addHigher 27 = .ok (.iload 5, 2) := by decide +kernel
theorem d_S_addHigher_29 : decode c_S_addHigher 29 = .ok (.iadd, 1) := by decide +kernel
theorem d_S_addHigher_30 : decode c_S_addHigher 30 = .ok (.i2l, 1) := by decide +kernel
theorem d_S_addHigher_31 : decode c_S_addHigher 31 = .ok (.iload_n 3, 1) := by decide +kernel
theorem d_S_addHigher_32 : decode c_S_addHigher 32 = .ok (.i2l, 1) := by decide +kernel
theorem d_S_addHigher_33 : decode c_S_addHigher 33 = .ok (.lmul, 1) := by decide +kernel
theorem d_S_addHigher_34 : decode c_S_addHigher 34 = .ok (.lconst 1, 1) := by decide +kernel
theorem d_S_addHigher_35 : decode c_S_addHigher 35 = .ok (.invokevirtual 35, 3) := by decide +kernel
theorem d_S_addHigher_38 : decode c_S_addHigher 38 = .ok (.goto 28, 3) := by decide +kernel
theorem d_S_addHigher_41 : decode c_S_addHigher 41 = .ok (.iload 4, 2) := by decide +kernel
theorem d_S_addHigher_43 : decode c_S_addHigher 43 = .ok (.ifCond .le 23, 3) := by decide +kernel
theorem d_S_addHigher_46 : decode c_S_addHigher 46 = .ok (.aload_n 0, 1) := by decide +kernel
theorem d_S_addHigher_47 : decode c_S_addHigher 47 = .ok (.iload 4, 2) := by decide +kernel
theorem d_S_addHigher_49 : decode c_S_addHigher 49 = .ok (.i2l, 1) := by decide +kernel
theorem d_S_addHigher_50 : decode c_S_addHigher 50 = .ok (.iload 4, 2) := by decide +kernel
theorem d_S_addHigher_52 : decode c_S_addHigher 52 = .ok (.i2l, 1) := by decide +kernel
theorem d_S_addHigher_53 : decode c_S_addHigher 53 = .ok (.lmul, 1) := by decide +kernel
theorem d_S_addHigher_54 : decode c_S_addHigher 54 = .ok (.iload_n 3, 1) := by decide +kernel
theorem d_S_addHigher_55 : decode c_S_addHigher 55 = .ok (.i2l, 1) := by decide +kernel
theorem d_S_addHigher_56 : decode c_S_addHigher 56 = .ok (.lmul, 1) := by decide +kernel
theorem d_S_addHigher_57 : decode c_S_addHigher 57 = .ok (.iload 4, 2) := by decide +kernel
theorem d_S_addHigher_59 : decode c_S_addHigher 59 = .ok (.iload 5, 2) := by decide +kernel
theorem d_S_addHigher_61 : decode c_S_addHigher 61 = .ok (.isub, 1) := by decide +kernel
theorem d_S_addHigher_62 : decode c_S_addHigher 62 = .ok (.i2l, 1) := by decide +kernel
theorem d_S_addHigher_63 : decode c_S_addHigher 63 = .ok (.invokevirtual 35, 3) := by decide +kernel
theorem d_S_addHigher_66 : decode c_S_addHigher 66 = .ok (.return_, 1) := by decide +kernel
set_option maxHeartbeats 4000000 in
set_option maxRecDepth 100000 in
theorem m_S_addHigher (l : Launch) (D : va_G) (f0 ua v : Nat) (y z w : Int) (hy : -100 ≤ y ∧ y ≤ 100) (hz : -100 ≤ z ∧ z ≤ 100) (hw : 1 ≤ w ∧ w ≤ 50) (hv : 0 < v) (hgc : Nat.gcd ua v = 1) (hu6 : ua ≤ 1000000) (hv6 : v ≤ 1000) : eh_M (S := Nat × Nat) l y_S_addHigher k_S_addHigher 2 60 D classes [] [.ref f0, .int (eI y), .int (eI z), .int (eI w)] [(f0, .inr (0, [.long (eL (ua : Int)), .long (eL (v : Int))]))] (fun q : Nat × Nat => eh_fr q.1 q.2 ((ua : Int) * eh_hd2 y z + eh_hn y z w * v) (v * eh_hd2 y z) ∧ (q.1 : Int) ≤ (ua : Int) * eh_hd2 y z + eh_hn y z w * v ∧ (q.2 : Int) ≤ v * eh_hd2 y z) (fun _ => none) (fun q => [(f0, .inr (0, [.long (eL ((q.1 : Nat) : Int)), .long (eL ((q.2 : Nat) : Int))]))]) := by
  intro sz
  refine Met.ofW (cc := c_S_addHigher) (maxL := 6) (ret := none) (by decide) rfl ?_
  intro p e s m args below meth c s₁ B hml hv
  obtain ⟨hargs, hsz, hP, hK, hD0, hN⟩ := hv
  have hx := B.exec
  have hb := B.bytes
  have hrt := B.returns
  have hts := atoms_spec (ws := k_S_addHigher :: ew_t) B.pre
  have htb : ∀ w ∈ ew_t, w.before args s = true := fun w h => hts w (List.mem_cons_of_mem _ h)
  have hown : s.vm.findClass "EarthHauls$Section" = some m.cls := findClass_of_methodNamed B.named
  have hlocks := B.notSynchronized
  have hE : entryFrame m args 6 = entryFrame m ([.ref f0, .int (eI y), .int (eI z), .int (eI w)] : List Value).toArray 6 := by rw [hargs]
  rw [hE]
  clear hE hts B hargs
  generalize hRe : (headSpec _ _).room = R
  have hR1 : R.frames = 2 := by rw [← hRe]; rfl
  have hR2 : R.locals = 60 := by rw [← hRe]; rfl
  clear hRe
  generalize hQ : MQ below _ _ s 0 0 _ = Q
  subst hsz
  have hD := hD0.self (sz := s.heap.size)
  generalize hAe : va_A [(f0, .inr (0, [.long (eL (ua : Int)), .long (eL (v : Int))]))] s.heap.size = A at hD hQ
  have hA : ∀ q : Nat, s.heap.size ≤ q → A q := fun q h => by rw [← hAe]; exact Or.inr h
  have hS : va_S A s.heap s.heap [] := va_S.rf
  have hP : va_P D classes [(f0, .inr (0, [.long (eL (ua : Int)), .long (eL (v : Int))]))] s.heap := hP
  have hl := lv_entry ([.ref f0, .int (eI y), .int (eI z), .int (eI w)]) (n := 6) (Nat.le_of_ble_eq_true rfl)
  rw [lg_entry_eq]
  generalize (lg_sl ([.ref f0, .int (eI y), .int (eI z), .int (eI w)]) ++ List.replicate (6 - (lg_sl ([.ref f0, .int (eI y), .int (eI z), .int (eI w)])).length) Slot.unset).toArray = ls at hl ⊢
  have hl : lv_has ls 6 [(0, .ref f0), (1, .int (eI y)), (2, .int (eI z)), (3, .int (eI w))] := hl
  refine lv_iload_n hx hb d_S_addHigher_0 rfl (lv_at hl 1 rfl) ?_
  refine lv_iload_n hx hb d_S_addHigher_1 rfl (lv_at hl 2 rfl) ?_
  refine we_max hx hb hml hl.1 hown (htb _ tb_429) (htb _ tb_235) (htb _ tb_13) (htb _ tb_236) (by rw [hR1]; decide) (by rw [hR2]; decide) (Nat.zero_le _) (Nat.zero_le _) (by constructor <;> omega) (by constructor <;> omega) d_S_addHigher_2 ?_
  refine lv_istore hx hb d_S_addHigher_5 hl (by decide) rfl (fun ls hl => ?_)
  have hl : lv_has ls 6 [(4, .int (eI (max y z))), (0, .ref f0), (1, .int (eI y)), (2, .int (eI z)), (3, .int (eI w))] := hl
  refine lv_iload_n hx hb d_S_addHigher_7 rfl (lv_at hl 2 rfl) ?_
  refine lv_iload_n hx hb d_S_addHigher_8 rfl (lv_at hl 3 rfl) ?_
  refine we_min hx hb hml hl.1 hown (htb _ tb_430) (htb _ tb_232) (htb _ tb_13) (htb _ tb_233) (by rw [hR1]; decide) (by rw [hR2]; decide) (Nat.zero_le _) (Nat.zero_le _) (by constructor <;> omega) (by constructor <;> omega) d_S_addHigher_9 ?_
  refine lv_istore hx hb d_S_addHigher_12 hl (by decide) rfl (fun ls hl => ?_)
  have hl : lv_has ls 6 [(5, .int (eI (min y z))), (4, .int (eI (max y z))), (0, .ref f0), (1, .int (eI y)), (2, .int (eI z)), (3, .int (eI w))] := hl
  refine lv_iload hx hb d_S_addHigher_14 (lv_at hl 1 rfl) ?_
  refine we_if_le (tgt := 41) hx hb (by constructor <;> omega) d_S_addHigher_16 rfl (fun hc16 => ?_) (fun hc16 => ?_)
  ·
    refine lv_iload hx hb d_S_addHigher_41 (lv_at hl 1 rfl) ?_
    refine we_if_le (tgt := 66) hx hb (by constructor <;> omega) d_S_addHigher_43 rfl (fun hc43 => ?_) (fun hc43 => ?_)
    ·
      have hcnd : ¬ (0 < max y z ∧ 0 ≤ min y z) := by omega
      have hcn2 : ¬ 0 < max y z := by omega
      have en : eh_hn y z w = 0 := by unfold eh_hn; rw [if_neg hcnd, if_neg hcn2]
      have ed : eh_hd2 y z = 1 := by unfold eh_hd2; rw [if_neg hcnd, if_neg hcn2]
      subst hQ
      exact W.vret hx hb hrt (fun t9 ht hW => ⟨⟨(ua, v), rfl, ⟨⟨hv, hgc, by rw [en, ed]; simp⟩, by rw [en, ed]; simp, by rw [ed]; simp⟩, by rw [ht]; exact hP, hD⟩, hS.F ht⟩) hS.2.2 d_S_addHigher_66
    ·
      refine lv_aload_n hx hb d_S_addHigher_46 rfl (lv_at hl 2 rfl) ?_
      refine lv_iload hx hb d_S_addHigher_47 (lv_at hl 1 rfl) ?_
      refine we_i2l hx hb (by constructor <;> omega) d_S_addHigher_49 ?_
      refine lv_iload hx hb d_S_addHigher_50 (lv_at hl 1 rfl) ?_
      refine we_i2l hx hb (by constructor <;> omega) d_S_addHigher_52 ?_
      refine we_lmul hx hb d_S_addHigher_53 ?_
      refine lv_iload_n hx hb d_S_addHigher_54 rfl (lv_at hl 5 rfl) ?_
      refine we_i2l hx hb (by constructor <;> omega) d_S_addHigher_55 ?_
      refine we_lmul hx hb d_S_addHigher_56 ?_
      refine lv_iload hx hb d_S_addHigher_57 (lv_at hl 1 rfl) ?_
      refine lv_iload hx hb d_S_addHigher_59 (lv_at hl 0 rfl) ?_
      refine we_isub hx hb d_S_addHigher_61 ?_
      refine we_i2l hx hb (by constructor <;> omega) d_S_addHigher_62 ?_
      have hcnd : ¬ (0 < max y z ∧ 0 ≤ min y z) := by omega
      have hcn2 : 0 < max y z := by omega
      have hhb := eh_h_b hy hz hw
      have en : eh_hn y z w = max y z * max y z * w := by unfold eh_hn; rw [if_neg hcnd, if_pos hcn2]
      have ed : eh_hd2 y z = max y z - min y z := by unfold eh_hd2; rw [if_neg hcnd, if_pos hcn2]
      obtain ⟨nn, hnn⟩ : ∃ nn : Nat, max y z * max y z * w = (nn : Int) := Int.eq_ofNat_of_zero_le (by omega)
      obtain ⟨dd, hdd⟩ : ∃ dd : Nat, max y z - min y z = (dd : Int) := Int.eq_ofNat_of_zero_le (by omega)
      rw [hnn, hdd]
      have hb1 : ua * dd + nn * v < 4611686018427387904 := by
        have z1 : ua * dd ≤ 1000000 * 200 := Nat.mul_le_mul hu6 (by omega)
        have z2 : nn * v ≤ 500000 * 1000 := Nat.mul_le_mul (by omega) hv6
        omega
      have hb2 : v * dd < 4611686018427387904 := by
        have z1 : v * dd ≤ 1000 * 200 := Nat.mul_le_mul hv6 (by omega)
        omega
      refine eh_cMV (As := [.long (eL ((nn : Nat) : Int)), .long (eL ((dd : Nat) : Int))]) (rest := []) (q := (R_F, T_F, 2)) (wr := []) hx hb hml hown htb hN (m_F_add l D f0 ua v nn dd hv (by omega) hb1 hb2) 2 ⟨tb_431, tb_432, tb_433, tb_4, kin_F_add⟩ dv_F_add ⟨by rw [hR1]; decide, by rw [hR2]; decide⟩ hK hP hD hS hA 0 rfl rfl [0] [] rfl rfl (by decide) rfl (by decide) (by decide) [] rfl rfl rfl hl.1 (Nat.le_of_ble_eq_true rfl) d_S_addHigher_63 ⟨Nat.zero_le _, Nat.zero_le _⟩ (fun u H locs hu hP hD hS => ?_)
      have hP := hP.sub (ws' := [(f0, .inr (0, [.long (eL (((ua * dd + nn * v) / Nat.gcd (ua * dd + nn * v) (v * dd) : Nat) : Int)), .long (eL ((v * dd / Nat.gcd (ua * dd + nn * v) (v * dd) : Nat) : Int))]))]) [0] rfl
      have hD := hD.sub (ws' := [(f0, .inr (0, [.long (eL (((ua * dd + nn * v) / Nat.gcd (ua * dd + nn * v) (v * dd) : Nat) : Int)), .long (eL ((v * dd / Nat.gcd (ua * dd + nn * v) (v * dd) : Nat) : Int))]))]) [0] (by decide) rfl
      obtain ⟨fr1, fr2, fr3⟩ := eh_fr_div (n := ua * dd + nn * v) (d := v * dd) (Nat.mul_pos hv (by omega))
      have i1 : ((ua * dd + nn * v : Nat) : Int) = (ua : Int) * eh_hd2 y z + eh_hn y z w * v := by rw [en, ed, hnn, hdd]; rfl
      have i2 : ((v * dd : Nat) : Int) = v * eh_hd2 y z := by rw [ed, hdd]; rfl
      rw [i1, i2] at fr1
      subst hQ
      exact W.vret hx hb hrt (fun t9 ht hW => ⟨⟨((ua * dd + nn * v) / Nat.gcd (ua * dd + nn * v) (v * dd), v * dd / Nat.gcd (ua * dd + nn * v) (v * dd)), rfl, ⟨fr1, by rw [← i1]; exact Int.ofNat_le.mpr fr2, by rw [← i2]; exact Int.ofNat_le.mpr fr3⟩, by rw [ht]; exact hP, hD⟩, hS.F ht⟩) hS.2.2 d_S_addHigher_66
  ·
    refine lv_iload hx hb d_S_addHigher_19 (lv_at hl 0 rfl) ?_
    refine we_if_lt (tgt := 41) hx hb (by constructor <;> omega) d_S_addHigher_21 rfl (fun hc21 => ?_) (fun hc21 => ?_)
    ·
      refine lv_iload hx hb d_S_addHigher_41 (lv_at hl 1 rfl) ?_
      refine we_if_le (tgt := 66) hx hb (by constructor <;> omega) d_S_addHigher_43 rfl (fun hc43 => ?_) (fun hc43 => ?_)
      ·
        have hcnd : ¬ (0 < max y z ∧ 0 ≤ min y z) := by omega
        have hcn2 : ¬ 0 < max y z := by omega
        have en : eh_hn y z w = 0 := by unfold eh_hn; rw [if_neg hcnd, if_neg hcn2]
        have ed : eh_hd2 y z = 1 := by unfold eh_hd2; rw [if_neg hcnd, if_neg hcn2]
        subst hQ
        exact W.vret hx hb hrt (fun t9 ht hW => ⟨⟨(ua, v), rfl, ⟨⟨hv, hgc, by rw [en, ed]; simp⟩, by rw [en, ed]; simp, by rw [ed]; simp⟩, by rw [ht]; exact hP, hD⟩, hS.F ht⟩) hS.2.2 d_S_addHigher_66
      ·
        refine lv_aload_n hx hb d_S_addHigher_46 rfl (lv_at hl 2 rfl) ?_
        refine lv_iload hx hb d_S_addHigher_47 (lv_at hl 1 rfl) ?_
        refine we_i2l hx hb (by constructor <;> omega) d_S_addHigher_49 ?_
        refine lv_iload hx hb d_S_addHigher_50 (lv_at hl 1 rfl) ?_
        refine we_i2l hx hb (by constructor <;> omega) d_S_addHigher_52 ?_
        refine we_lmul hx hb d_S_addHigher_53 ?_
        refine lv_iload_n hx hb d_S_addHigher_54 rfl (lv_at hl 5 rfl) ?_
        refine we_i2l hx hb (by constructor <;> omega) d_S_addHigher_55 ?_
        refine we_lmul hx hb d_S_addHigher_56 ?_
        refine lv_iload hx hb d_S_addHigher_57 (lv_at hl 1 rfl) ?_
        refine lv_iload hx hb d_S_addHigher_59 (lv_at hl 0 rfl) ?_
        refine we_isub hx hb d_S_addHigher_61 ?_
        refine we_i2l hx hb (by constructor <;> omega) d_S_addHigher_62 ?_
        have hcnd : ¬ (0 < max y z ∧ 0 ≤ min y z) := by omega
        have hcn2 : 0 < max y z := by omega
        have hhb := eh_h_b hy hz hw
        have en : eh_hn y z w = max y z * max y z * w := by unfold eh_hn; rw [if_neg hcnd, if_pos hcn2]
        have ed : eh_hd2 y z = max y z - min y z := by unfold eh_hd2; rw [if_neg hcnd, if_pos hcn2]
        obtain ⟨nn, hnn⟩ : ∃ nn : Nat, max y z * max y z * w = (nn : Int) := Int.eq_ofNat_of_zero_le (by omega)
        obtain ⟨dd, hdd⟩ : ∃ dd : Nat, max y z - min y z = (dd : Int) := Int.eq_ofNat_of_zero_le (by omega)
        rw [hnn, hdd]
        have hb1 : ua * dd + nn * v < 4611686018427387904 := by
          have z1 : ua * dd ≤ 1000000 * 200 := Nat.mul_le_mul hu6 (by omega)
          have z2 : nn * v ≤ 500000 * 1000 := Nat.mul_le_mul (by omega) hv6
          omega
        have hb2 : v * dd < 4611686018427387904 := by
          have z1 : v * dd ≤ 1000 * 200 := Nat.mul_le_mul hv6 (by omega)
          omega
        refine eh_cMV (As := [.long (eL ((nn : Nat) : Int)), .long (eL ((dd : Nat) : Int))]) (rest := []) (q := (R_F, T_F, 2)) (wr := []) hx hb hml hown htb hN (m_F_add l D f0 ua v nn dd hv (by omega) hb1 hb2) 2 ⟨tb_431, tb_432, tb_433, tb_4, kin_F_add⟩ dv_F_add ⟨by rw [hR1]; decide, by rw [hR2]; decide⟩ hK hP hD hS hA 0 rfl rfl [0] [] rfl rfl (by decide) rfl (by decide) (by decide) [] rfl rfl rfl hl.1 (Nat.le_of_ble_eq_true rfl) d_S_addHigher_63 ⟨Nat.zero_le _, Nat.zero_le _⟩ (fun u H locs hu hP hD hS => ?_)
        have hP := hP.sub (ws' := [(f0, .inr (0, [.long (eL (((ua * dd + nn * v) / Nat.gcd (ua * dd + nn * v) (v * dd) : Nat) : Int)), .long (eL ((v * dd / Nat.gcd (ua * dd + nn * v) (v * dd) : Nat) : Int))]))]) [0] rfl
        have hD := hD.sub (ws' := [(f0, .inr (0, [.long (eL (((ua * dd + nn * v) / Nat.gcd (ua * dd + nn * v) (v * dd) : Nat) : Int)), .long (eL ((v * dd / Nat.gcd (ua * dd + nn * v) (v * dd) : Nat) : Int))]))]) [0] (by decide) rfl
        obtain ⟨fr1, fr2, fr3⟩ := eh_fr_div (n := ua * dd + nn * v) (d := v * dd) (Nat.mul_pos hv (by omega))
        have i1 : ((ua * dd + nn * v : Nat) : Int) = (ua : Int) * eh_hd2 y z + eh_hn y z w * v := by rw [en, ed, hnn, hdd]; rfl
        have i2 : ((v * dd : Nat) : Int) = v * eh_hd2 y z := by rw [ed, hdd]; rfl
        rw [i1, i2] at fr1
        subst hQ
        exact W.vret hx hb hrt (fun t9 ht hW => ⟨⟨((ua * dd + nn * v) / Nat.gcd (ua * dd + nn * v) (v * dd), v * dd / Nat.gcd (ua * dd + nn * v) (v * dd)), rfl, ⟨fr1, by rw [← i1]; exact Int.ofNat_le.mpr fr2, by rw [← i2]; exact Int.ofNat_le.mpr fr3⟩, by rw [ht]; exact hP, hD⟩, hS.F ht⟩) hS.2.2 d_S_addHigher_66
    ·
      refine lv_aload_n hx hb d_S_addHigher_24 rfl (lv_at hl 2 rfl) ?_
      refine lv_iload hx hb d_S_addHigher_25 (lv_at hl 1 rfl) ?_
      refine lv_iload hx hb d_S_addHigher_27 (lv_at hl 0 rfl) ?_
      refine we_iadd hx hb d_S_addHigher_29 ?_
      refine we_i2l hx hb (by constructor <;> omega) d_S_addHigher_30 ?_
      refine lv_iload_n hx hb d_S_addHigher_31 rfl (lv_at hl 5 rfl) ?_
      refine we_i2l hx hb (by constructor <;> omega) d_S_addHigher_32 ?_
      refine we_lmul hx hb d_S_addHigher_33 ?_
      refine lv_lconst (v := eL 1) hx hb d_S_addHigher_34 (by decide) ?_
      have hcnd : 0 < max y z ∧ 0 ≤ min y z := by omega
      have hhb := eh_h_b hy hz hw
      have en : eh_hn y z w = (max y z + min y z) * w := by unfold eh_hn; rw [if_pos hcnd]
      have ed : eh_hd2 y z = 1 := by unfold eh_hd2; rw [if_pos hcnd]
      obtain ⟨nn, hnn⟩ : ∃ nn : Nat, (max y z + min y z) * w = (nn : Int) := Int.eq_ofNat_of_zero_le (by omega)
      rw [hnn]
      have hb1 : ua * 1 + nn * v < 4611686018427387904 := by
        have z1 : ua * 1 ≤ 1000000 * 200 := Nat.mul_le_mul hu6 (by omega)
        have z2 : nn * v ≤ 500000 * 1000 := Nat.mul_le_mul (by omega) hv6
        omega
      have hb2 : v * 1 < 4611686018427387904 := by
        have z1 : v * 1 ≤ 1000 * 200 := Nat.mul_le_mul hv6 (by omega)
        omega
      refine eh_cMV (As := [.long (eL ((nn : Nat) : Int)), .long (eL ((1 : Nat) : Int))]) (rest := []) (q := (R_F, T_F, 2)) (wr := []) hx hb hml hown htb hN (m_F_add l D f0 ua v nn 1 hv (by omega) hb1 hb2) 2 ⟨tb_431, tb_432, tb_433, tb_4, kin_F_add⟩ dv_F_add ⟨by rw [hR1]; decide, by rw [hR2]; decide⟩ hK hP hD hS hA 0 rfl rfl [0] [] rfl rfl (by decide) rfl (by decide) (by decide) [] rfl rfl rfl hl.1 (Nat.le_of_ble_eq_true rfl) d_S_addHigher_35 ⟨Nat.zero_le _, Nat.zero_le _⟩ (fun u H locs hu hP hD hS => ?_)
      have hP := hP.sub (ws' := [(f0, .inr (0, [.long (eL (((ua * 1 + nn * v) / Nat.gcd (ua * 1 + nn * v) (v * 1) : Nat) : Int)), .long (eL ((v * 1 / Nat.gcd (ua * 1 + nn * v) (v * 1) : Nat) : Int))]))]) [0] rfl
      have hD := hD.sub (ws' := [(f0, .inr (0, [.long (eL (((ua * 1 + nn * v) / Nat.gcd (ua * 1 + nn * v) (v * 1) : Nat) : Int)), .long (eL ((v * 1 / Nat.gcd (ua * 1 + nn * v) (v * 1) : Nat) : Int))]))]) [0] (by decide) rfl
      refine lv_goto (tgt := 66) hx hb d_S_addHigher_38 rfl ?_
      obtain ⟨fr1, fr2, fr3⟩ := eh_fr_div (n := ua * 1 + nn * v) (d := v * 1) (Nat.mul_pos hv (by omega))
      have i1 : ((ua * 1 + nn * v : Nat) : Int) = (ua : Int) * eh_hd2 y z + eh_hn y z w * v := by rw [en, ed, hnn]; rfl
      have i2 : ((v * 1 : Nat) : Int) = v * eh_hd2 y z := by rw [ed]; rfl
      rw [i1, i2] at fr1
      subst hQ
      exact W.vret hx hb hrt (fun t9 ht hW => ⟨⟨((ua * 1 + nn * v) / Nat.gcd (ua * 1 + nn * v) (v * 1), v * 1 / Nat.gcd (ua * 1 + nn * v) (v * 1)), rfl, ⟨fr1, by rw [← i1]; exact Int.ofNat_le.mpr fr2, by rw [← i2]; exact Int.ofNat_le.mpr fr3⟩, by rw [ht]; exact hP, hD⟩, hS.F ht⟩) hS.2.2 d_S_addHigher_66
abbrev c_Y_place : ByteArray := prog_5_method_3_code
def y_Y_place : MethodName := ⟨"EarthHauls$Yard", "place", "(III)V"⟩
abbrev k_Y_place : Cond := .code y_Y_place c_Y_place 4 none
theorem kin_Y_place : k_Y_place ∈ ew_t := tb_120
theorem dv_Y_place : eh_dV y_Y_place "EarthHauls$Yard" 3 := ⟨rfl, by decide, by decide, by decide +kernel⟩
theorem d_Y_place_0 : decode c_Y_place 0 = .ok (.aload_n 0, 1) := by decide +kernel
theorem d_Y_place_1 : decode c_Y_place 1 = .ok (.iload_n 1, 1) := by decide +kernel
theorem d_Y_place_2 : decode c_Y_place 2 = .ok (.putfield 9, 3) := by decide +kernel
theorem d_Y_place_5 : decode c_Y_place 5 = .ok (.aload_n 0, 1) := by decide +kernel
theorem d_Y_place_6 : decode c_Y_place 6 = .ok (.iload_n 2, 1) := by decide +kernel
theorem d_Y_place_7 : decode c_Y_place 7 = .ok (.putfield 15, 3) := by decide +kernel
theorem d_Y_place_10 : decode c_Y_place 10 = .ok (.aload_n 0, 1) := by decide +kernel
theorem d_Y_place_11 : decode c_Y_place 11 = .ok (.iload_n 3, 1) := by decide +kernel
theorem d_Y_place_12 : decode c_Y_place 12 = .ok (.putfield 18, 3) := by decide +kernel
theorem d_Y_place_15 : decode c_Y_place 15 = .ok (.return_, 1) := by decide +kernel
set_option maxHeartbeats 4000000 in
set_option maxRecDepth 100000 in
theorem m_Y_place (l : Launch) (D : va_G) (y0 : Nat) (a1 a2 a3 sp li pr : Int) : eh_M (S := Unit) l y_Y_place k_Y_place 0 0 D classes [] [.ref y0, .int (eI sp), .int (eI li), .int (eI pr)] [(y0, .inr (3, [.int (eI a1), .int (eI a2), .int (eI a3)]))] (fun _ => True) (fun _ => none) (fun _ => [(y0, .inr (3, [.int (eI sp), .int (eI li), .int (eI pr)]))]) := by
  intro sz
  refine Met.ofW (cc := c_Y_place) (maxL := 4) (ret := none) (by decide) rfl ?_
  intro p e s m args below meth c s₁ B hml hv
  obtain ⟨hargs, hsz, hP, hK, hD0, hN⟩ := hv
  have hx := B.exec
  have hb := B.bytes
  have hrt := B.returns
  have hts := atoms_spec (ws := k_Y_place :: ew_t) B.pre
  have htb : ∀ w ∈ ew_t, w.before args s = true := fun w h => hts w (List.mem_cons_of_mem _ h)
  have hown : s.vm.findClass "EarthHauls$Yard" = some m.cls := findClass_of_methodNamed B.named
  have hlocks := B.notSynchronized
  have hE : entryFrame m args 4 = entryFrame m ([.ref y0, .int (eI sp), .int (eI li), .int (eI pr)] : List Value).toArray 4 := by rw [hargs]
  rw [hE]
  clear hE hts B hargs
  generalize hRe : (headSpec _ _).room = R
  have hR1 : R.frames = 0 := by rw [← hRe]; rfl
  have hR2 : R.locals = 0 := by rw [← hRe]; rfl
  clear hRe
  generalize hQ : MQ below _ _ s 0 0 _ = Q
  subst hsz
  have hD := hD0.self (sz := s.heap.size)
  generalize hAe : va_A [(y0, .inr (3, [.int (eI a1), .int (eI a2), .int (eI a3)]))] s.heap.size = A at hD hQ
  have hA : ∀ q : Nat, s.heap.size ≤ q → A q := fun q h => by rw [← hAe]; exact Or.inr h
  have hS : va_S A s.heap s.heap [] := va_S.rf
  have hP : va_P D classes [(y0, .inr (3, [.int (eI a1), .int (eI a2), .int (eI a3)]))] s.heap := hP
  have hl := lv_entry ([.ref y0, .int (eI sp), .int (eI li), .int (eI pr)]) (n := 4) (Nat.le_of_ble_eq_true rfl)
  rw [lg_entry_eq]
  generalize (lg_sl ([.ref y0, .int (eI sp), .int (eI li), .int (eI pr)]) ++ List.replicate (4 - (lg_sl ([.ref y0, .int (eI sp), .int (eI li), .int (eI pr)])).length) Slot.unset).toArray = ls at hl ⊢
  have hl : lv_has ls 4 [(0, .ref y0), (1, .int (eI sp)), (2, .int (eI li)), (3, .int (eI pr))] := hl
  refine lv_aload_n hx hb d_Y_place_0 rfl (lv_at hl 0 rfl) ?_
  refine lv_iload_n hx hb d_Y_place_1 rfl (lv_at hl 1 rfl) ?_
  refine va_put (D := D) (ci := 3) (v := .int (eI sp)) (ty := .int) (C := R_Y) (T := T_Y) (N := 3) hx hb htb in_Y t_Y t_Y_ok n_Y hown hK hP hD hS 0 rfl rfl 0 (by decide) (htb _ tb_95) (fun _ h9 => h9) rfl (by decide +kernel) rfl rfl (Nat.le_of_ble_eq_true rfl) d_Y_place_2 (fun H locs hP hD hS => ?_)
  have hP : va_P D classes [(y0, .inr (3, [.int (eI sp), .int (eI a2), .int (eI a3)]))] H := hP
  have hD : va_D A [(y0, .inr (3, [.int (eI sp), .int (eI a2), .int (eI a3)]))] := hD
  refine lv_aload_n hx hb d_Y_place_5 rfl (lv_at hl 0 rfl) ?_
  refine lv_iload_n hx hb d_Y_place_6 rfl (lv_at hl 2 rfl) ?_
  refine va_put (D := D) (ci := 3) (v := .int (eI li)) (ty := .int) (C := R_Y) (T := T_Y) (N := 3) hx hb htb in_Y t_Y t_Y_ok n_Y hown hK hP hD hS 0 rfl rfl 1 (by decide) (htb _ tb_97) (fun _ h9 => h9) rfl (by decide +kernel) rfl rfl (Nat.le_of_ble_eq_true rfl) d_Y_place_7 (fun H locs hP hD hS => ?_)
  have hP : va_P D classes [(y0, .inr (3, [.int (eI sp), .int (eI li), .int (eI a3)]))] H := hP
  have hD : va_D A [(y0, .inr (3, [.int (eI sp), .int (eI li), .int (eI a3)]))] := hD
  refine lv_aload_n hx hb d_Y_place_10 rfl (lv_at hl 0 rfl) ?_
  refine lv_iload_n hx hb d_Y_place_11 rfl (lv_at hl 3 rfl) ?_
  refine va_put (D := D) (ci := 3) (v := .int (eI pr)) (ty := .int) (C := R_Y) (T := T_Y) (N := 3) hx hb htb in_Y t_Y t_Y_ok n_Y hown hK hP hD hS 0 rfl rfl 2 (by decide) (htb _ tb_99) (fun _ h9 => h9) rfl (by decide +kernel) rfl rfl (Nat.le_of_ble_eq_true rfl) d_Y_place_12 (fun H locs hP hD hS => ?_)
  have hP : va_P D classes [(y0, .inr (3, [.int (eI sp), .int (eI li), .int (eI pr)]))] H := hP
  have hD : va_D A [(y0, .inr (3, [.int (eI sp), .int (eI li), .int (eI pr)]))] := hD
  subst hQ
  exact W.vret hx hb hrt (fun t9 ht hW => ⟨⟨(), rfl, trivial, by rw [ht]; exact hP, hD⟩, hS.F ht⟩) hS.2.2 d_Y_place_15
abbrev c_Y_remove : ByteArray := prog_5_method_2_code
def y_Y_remove : MethodName := ⟨"EarthHauls$Yard", "remove", "()V"⟩
abbrev k_Y_remove : Cond := .code y_Y_remove c_Y_remove 1 none
theorem kin_Y_remove : k_Y_remove ∈ ew_t := tb_116
theorem dv_Y_remove : eh_dV y_Y_remove "EarthHauls$Yard" 0 := ⟨rfl, by decide, by decide, by decide +kernel⟩
theorem d_Y_remove_0 : decode c_Y_remove 0 = .ok (.aload_n 0, 1) := by decide +kernel
theorem d_Y_remove_1 : decode c_Y_remove 1 = .ok (.iconst (-1), 1) := by decide +kernel
theorem d_Y_remove_2 : decode c_Y_remove 2 = .ok (.iconst 0, 1) := by decide +kernel
theorem d_Y_remove_3 : decode c_Y_remove 3 = .ok (.iconst 0, 1) := by decide +kernel
theorem d_Y_remove_4 : decode c_Y_remove 4 = .ok (.invokevirtual 21, 3) := by decide +kernel
theorem d_Y_remove_7 : decode c_Y_remove 7 = .ok (.return_, 1) := by decide +kernel
set_option maxHeartbeats 4000000 in
set_option maxRecDepth 100000 in
theorem m_Y_remove (l : Launch) (D : va_G) (y0 : Nat) (a1 a2 a3 : Int) : eh_M (S := Unit) l y_Y_remove k_Y_remove 1 23 D classes [] [.ref y0] [(y0, .inr (3, [.int (eI a1), .int (eI a2), .int (eI a3)]))] (fun _ => True) (fun _ => none) (fun _ => [(y0, .inr (3, [.int (eI (-1)), .int (eI 0), .int (eI 0)]))]) := by
  intro sz
  refine Met.ofW (cc := c_Y_remove) (maxL := 1) (ret := none) (by decide) rfl ?_
  intro p e s m args below meth c s₁ B hml hv
  obtain ⟨hargs, hsz, hP, hK, hD0, hN⟩ := hv
  have hx := B.exec
  have hb := B.bytes
  have hrt := B.returns
  have hts := atoms_spec (ws := k_Y_remove :: ew_t) B.pre
  have htb : ∀ w ∈ ew_t, w.before args s = true := fun w h => hts w (List.mem_cons_of_mem _ h)
  have hown : s.vm.findClass "EarthHauls$Yard" = some m.cls := findClass_of_methodNamed B.named
  have hlocks := B.notSynchronized
  have hE : entryFrame m args 1 = entryFrame m ([.ref y0] : List Value).toArray 1 := by rw [hargs]
  rw [hE]
  clear hE hts B hargs
  generalize hRe : (headSpec _ _).room = R
  have hR1 : R.frames = 1 := by rw [← hRe]; rfl
  have hR2 : R.locals = 23 := by rw [← hRe]; rfl
  clear hRe
  generalize hQ : MQ below _ _ s 0 0 _ = Q
  subst hsz
  have hD := hD0.self (sz := s.heap.size)
  generalize hAe : va_A [(y0, .inr (3, [.int (eI a1), .int (eI a2), .int (eI a3)]))] s.heap.size = A at hD hQ
  have hA : ∀ q : Nat, s.heap.size ≤ q → A q := fun q h => by rw [← hAe]; exact Or.inr h
  have hS : va_S A s.heap s.heap [] := va_S.rf
  have hP : va_P D classes [(y0, .inr (3, [.int (eI a1), .int (eI a2), .int (eI a3)]))] s.heap := hP
  have hl := lv_entry ([.ref y0]) (n := 1) (Nat.le_of_ble_eq_true rfl)
  rw [lg_entry_eq]
  generalize (lg_sl ([.ref y0]) ++ List.replicate (1 - (lg_sl ([.ref y0])).length) Slot.unset).toArray = ls at hl ⊢
  have hl : lv_has ls 1 [(0, .ref y0)] := hl
  refine lv_aload_n hx hb d_Y_remove_0 rfl (lv_at hl 0 rfl) ?_
  refine lv_iconst (v := eI (-1)) hx hb d_Y_remove_1 rfl ?_
  refine lv_iconst (v := eI 0) hx hb d_Y_remove_2 rfl ?_
  refine lv_iconst (v := eI 0) hx hb d_Y_remove_3 rfl ?_
  refine eh_cMV (As := [.int (eI (-1)), .int (eI 0), .int (eI 0)]) (rest := []) (q := (R_Y, T_Y, 3)) (wr := []) hx hb hml hown htb hN (m_Y_place l D y0 a1 a2 a3 (-1) 0 0) 3 ⟨tb_117, tb_118, tb_119, tb_5, kin_Y_place⟩ dv_Y_place ⟨by rw [hR1]; decide, by rw [hR2]; decide⟩ hK hP hD hS hA 0 rfl rfl [0] [] rfl rfl (by decide) rfl (by decide) (by decide) [] rfl rfl rfl hl.1 (Nat.le_of_ble_eq_true rfl) d_Y_remove_4 ⟨Nat.zero_le _, Nat.zero_le _⟩ (fun u H locs hu hP hD hS => ?_)
  have hP := hP.sub (ws' := [(y0, .inr (3, [.int (eI (-1)), .int (eI 0), .int (eI 0)]))]) [0] rfl
  have hD := hD.sub (ws' := [(y0, .inr (3, [.int (eI (-1)), .int (eI 0), .int (eI 0)]))]) [0] (by decide) rfl
  subst hQ
  exact W.vret hx hb hrt (fun t9 ht hW => ⟨⟨(), rfl, trivial, by rw [ht]; exact hP, hD⟩, hS.F ht⟩) hS.2.2 d_Y_remove_7
abbrev c_Y_isThere : ByteArray := prog_5_method_4_code
def y_Y_isThere : MethodName := ⟨"EarthHauls$Yard", "isThere", "()Z"⟩
abbrev k_Y_isThere : Cond := .code y_Y_isThere c_Y_isThere 1 (some .boolean)
theorem kin_Y_isThere : k_Y_isThere ∈ ew_t := tb_577
theorem dv_Y_isThere : eh_dV y_Y_isThere "EarthHauls$Yard" 0 := ⟨rfl, by decide, by decide, by decide +kernel⟩
theorem d_Y_isThere_0 : decode c_Y_isThere 0 = .ok (.aload_n 0, 1) := by decide +kernel
theorem d_Y_isThere_1 : decode c_Y_isThere 1 = .ok (.getfield 9, 3) := by decide +kernel
theorem d_Y_isThere_4 : decode c_Y_isThere 4 = .ok (.iconst (-1), 1) := by decide +kernel
theorem d_Y_isThere_5 : decode c_Y_isThere 5 = .ok (.if_icmp .eq 7, 3) := by decide +kernel
theorem d_Y_isThere_8 : decode c_Y_isThere 8 = .ok (.iconst 1, 1) := by decide +kernel
theorem d_Y_isThere_9 : decode c_Y_isThere 9 = .ok (.goto 4, 3) := by decide +kernel
theorem d_Y_isThere_12 : decode c_Y_isThere 12 = .ok (.iconst 0, 1) := by decide +kernel
theorem d_Y_isThere_13 : decode c_Y_isThere 13 = .ok (.ireturn, 1) := by decide +kernel
set_option maxHeartbeats 4000000 in
set_option maxRecDepth 100000 in
theorem r_Y_isThere (l : Launch) (D : va_G) (y0 : Nat) (a1 a2 a3 : Int) (h1 : eh_i a1) : eh_R l y_Y_isThere k_Y_isThere 0 0 D classes [] [.ref y0] [(y0, .inr (3, [.int (eI a1), .int (eI a2), .int (eI a3)]))] (.int (eI (if a1 = -1 then 0 else 1))) := by
  refine Met.ofW (cc := c_Y_isThere) (maxL := 1) (ret := (some .boolean)) (by decide) rfl ?_
  intro p e s m args below meth c s₁ B hml hv
  obtain ⟨hargs, hP, hK, hN⟩ := hv
  have hx := B.exec
  have hb := B.bytes
  have hrt := B.returns
  have hts := atoms_spec (ws := k_Y_isThere :: ew_t) B.pre
  have htb : ∀ w ∈ ew_t, w.before args s = true := fun w h => hts w (List.mem_cons_of_mem _ h)
  have hown : s.vm.findClass "EarthHauls$Yard" = some m.cls := findClass_of_methodNamed B.named
  have hlocks := B.notSynchronized
  have hE : entryFrame m args 1 = entryFrame m ([.ref y0] : List Value).toArray 1 := by rw [hargs]
  rw [hE]
  clear hE hts B hargs
  generalize hRe : (headSpec _ _).room = R
  have hR1 : R.frames = 0 := by rw [← hRe]; rfl
  have hR2 : R.locals = 0 := by rw [← hRe]; rfl
  clear hRe
  generalize hQ : MQ below _ _ s 0 0 _ = Q
  have hP : va_P D classes [(y0, .inr (3, [.int (eI a1), .int (eI a2), .int (eI a3)]))] s.heap := hP
  have hl := lv_entry ([.ref y0]) (n := 1) (Nat.le_of_ble_eq_true rfl)
  rw [lg_entry_eq]
  generalize (lg_sl ([.ref y0]) ++ List.replicate (1 - (lg_sl ([.ref y0])).length) Slot.unset).toArray = ls at hl ⊢
  have hl : lv_has ls 1 [(0, .ref y0)] := hl
  refine lv_aload_n hx hb d_Y_isThere_0 rfl (lv_at hl 0 rfl) ?_
  refine va_get (D := D) (ci := 3) (v := .int (eI a1)) (C := R_Y) (T := T_Y) (N := 3) hx hb htb in_Y hown hK hP 0 rfl rfl 0 (by decide) (htb _ tb_95) (fun _ h9 => h9) rfl d_Y_isThere_1 ?_
  refine lv_iconst (v := eI (-1)) hx hb d_Y_isThere_4 rfl ?_
  refine we_icmp_eq (tgt := 12) hx hb h1 (by constructor <;> omega) d_Y_isThere_5 rfl (fun hc5 => ?_) (fun hc5 => ?_)
  ·
    refine lv_iconst (v := eI 0) hx hb d_Y_isThere_12 rfl ?_
    have hres : (0 : Int) = (if a1 = -1 then 0 else 1) := by rw [if_pos (by omega)]
    subst hQ
    exact W.zret (v := eI 0) hx hb hrt (by decide) (fun t9 ht hW => ⟨by rw [← hres], ht⟩) (fun q h => by cases h) d_Y_isThere_13
  ·
    refine lv_iconst (v := eI 1) hx hb d_Y_isThere_8 rfl ?_
    refine lv_goto (tgt := 13) hx hb d_Y_isThere_9 rfl ?_
    have hres : (1 : Int) = (if a1 = -1 then 0 else 1) := by rw [if_neg (by omega)]
    subst hQ
    exact W.zret (v := eI 1) hx hb hrt (by decide) (fun t9 ht hW => ⟨by rw [← hres], ht⟩) (fun q h => by cases h) d_Y_isThere_13
