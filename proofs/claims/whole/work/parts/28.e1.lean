abbrev c_E_isHeight : ByteArray := prog_1_method_22_code
def y_E_isHeight : MethodName := ⟨"EarthHauls", "isHeight", "(I)Z"⟩
abbrev k_E_isHeight : Cond := .code y_E_isHeight c_E_isHeight 1 (some .boolean)
theorem kin_E_isHeight : k_E_isHeight ∈ ew_t := tb_336
theorem dv_E_isHeight : eh_dS y_E_isHeight 1 := ⟨by decide, by decide, by decide +kernel⟩
theorem d_E_isHeight_0 : decode c_E_isHeight 0 = .ok (.iload_n 0, 1) := by decide +kernel
theorem d_E_isHeight_1 : decode c_E_isHeight 1 = .ok (.bipush (-100), 2) := by decide +kernel
theorem d_E_isHeight_3 : decode c_E_isHeight 3 = .ok (.if_icmp .lt 13, 3) := by decide +kernel
theorem d_E_isHeight_6 : decode c_E_isHeight 6 = .ok (.iload_n 0, 1) := by decide +kernel
theorem d_E_isHeight_7 : decode c_E_isHeight 7 = .ok (.bipush 100, 2) := by decide +kernel
theorem d_E_isHeight_9 : decode c_E_isHeight 9 = .ok (.if_icmp .gt 7, 3) := by decide +kernel
theorem d_E_isHeight_12 : decode c_E_isHeight 12 = .ok (.iconst 1, 1) := by decide +kernel
theorem d_E_isHeight_13 : decode c_E_isHeight 13 = .ok (.goto 4, 3) := by decide +kernel
theorem d_E_isHeight_16 : decode c_E_isHeight 16 = .ok (.iconst 0, 1) := by decide +kernel
theorem d_E_isHeight_17 : decode c_E_isHeight 17 = .ok (.ireturn, 1) := by decide +kernel
set_option maxHeartbeats 4000000 in
set_option maxRecDepth 100000 in
theorem r_E_isHeight (l : Launch) (D : va_G) (y : Int) (h1 : -2147483648 ≤ y ∧ y < 2147483648) : eh_R l y_E_isHeight k_E_isHeight 0 0 D classes [] [.int (eI y)] [] (.int (eI (if -100 ≤ y ∧ y ≤ 100 then 1 else 0))) := by
  refine Met.ofW (cc := c_E_isHeight) (maxL := 1) (ret := (some .boolean)) (by decide) rfl ?_
  intro p e s m args below meth c s₁ B hml hv
  obtain ⟨hargs, hP, hK, hN⟩ := hv
  have hx := B.exec
  have hb := B.bytes
  have hrt := B.returns
  have hts := atoms_spec (ws := k_E_isHeight :: ew_t) B.pre
  have htb : ∀ w ∈ ew_t, w.before args s = true := fun w h => hts w (List.mem_cons_of_mem _ h)
  have hown : s.vm.findClass "EarthHauls" = some m.cls := findClass_of_methodNamed B.named
  have hlocks := B.notSynchronized
  have hE : entryFrame m args 1 = entryFrame m ([.int (eI y)] : List Value).toArray 1 := by rw [hargs]
  rw [hE]
  clear hE hts B hargs
  generalize hRe : (headSpec _ _).room = R
  have hR1 : R.frames = 0 := by rw [← hRe]; rfl
  have hR2 : R.locals = 0 := by rw [← hRe]; rfl
  clear hRe
  generalize hQ : MQ below _ _ s 0 0 _ = Q
  have hP : va_P D classes [] s.heap := hP
  have hl := lv_entry ([.int (eI y)]) (n := 1) (Nat.le_of_ble_eq_true rfl)
  rw [lg_entry_eq]
  generalize (lg_sl ([.int (eI y)]) ++ List.replicate (1 - (lg_sl ([.int (eI y)])).length) Slot.unset).toArray = ls at hl ⊢
  have hl : lv_has ls 1 [(0, .int (eI y))] := hl
  refine lv_iload_n hx hb d_E_isHeight_0 rfl (lv_at hl 0 rfl) ?_
  refine lv_bipush (v := eI (-100)) hx hb d_E_isHeight_1 (by decide) ?_
  refine we_icmp_lt (tgt := 16) hx hb (by constructor <;> omega) (by constructor <;> omega) d_E_isHeight_3 rfl (fun hc3 => ?_) (fun hc3 => ?_)
  ·
    refine lv_iconst (v := eI 0) hx hb d_E_isHeight_16 rfl ?_
    have hres : (0 : Int) = (if -100 ≤ y ∧ y ≤ 100 then 1 else 0) := by rw [if_neg (by omega)]
    subst hQ
    exact W.zret (v := eI 0) hx hb hrt (by decide) (fun t9 ht hW => ⟨by rw [← hres], ht⟩) (fun q h => by cases h) d_E_isHeight_17
  ·
    refine lv_iload_n hx hb d_E_isHeight_6 rfl (lv_at hl 0 rfl) ?_
    refine lv_bipush (v := eI 100) hx hb d_E_isHeight_7 (by decide) ?_
    refine we_icmp_gt (tgt := 16) hx hb (by constructor <;> omega) (by constructor <;> omega) d_E_isHeight_9 rfl (fun hc9 => ?_) (fun hc9 => ?_)
    ·
      refine lv_iconst (v := eI 0) hx hb d_E_isHeight_16 rfl ?_
      have hres : (0 : Int) = (if -100 ≤ y ∧ y ≤ 100 then 1 else 0) := by rw [if_neg (by omega)]
      subst hQ
      exact W.zret (v := eI 0) hx hb hrt (by decide) (fun t9 ht hW => ⟨by rw [← hres], ht⟩) (fun q h => by cases h) d_E_isHeight_17
    ·
      refine lv_iconst (v := eI 1) hx hb d_E_isHeight_12 rfl ?_
      refine lv_goto (tgt := 17) hx hb d_E_isHeight_13 rfl ?_
      have hres : (1 : Int) = (if -100 ≤ y ∧ y ≤ 100 then 1 else 0) := by rw [if_pos (by omega)]
      subst hQ
      exact W.zret (v := eI 1) hx hb hrt (by decide) (fun t9 ht hW => ⟨by rw [← hres], ht⟩) (fun q h => by cases h) d_E_isHeight_17
abbrev c_E_isWidth : ByteArray := prog_1_method_23_code
def y_E_isWidth : MethodName := ⟨"EarthHauls", "isWidth", "(I)Z"⟩
abbrev k_E_isWidth : Cond := .code y_E_isWidth c_E_isWidth 1 (some .boolean)
theorem kin_E_isWidth : k_E_isWidth ∈ ew_t := tb_339
theorem dv_E_isWidth : eh_dS y_E_isWidth 1 := ⟨by decide, by decide, by decide +kernel⟩
theorem d_E_isWidth_0 : decode c_E_isWidth 0 = .ok (.iload_n 0, 1) := by decide +kernel
theorem d_E_isWidth_1 : decode c_E_isWidth 1 = .ok (.iconst 1, 1) := by decide +kernel
theorem d_E_isWidth_2 : decode c_E_isWidth 2 = .ok (.if_icmp .lt 13, 3) := by decide +kernel
theorem d_E_isWidth_5 : decode c_E_isWidth 5 = .ok (.iload_n 0, 1) := by decide +kernel
theorem d_E_isWidth_6 : decode c_E_isWidth 6 = .ok (.bipush 50, 2) := by decide +kernel
theorem d_E_isWidth_8 : decode c_E_isWidth 8 = .ok (.if_icmp .gt 7, 3) := by decide +kernel
theorem d_E_isWidth_11 : decode c_E_isWidth 11 = .ok (.iconst 1, 1) := by decide +kernel
theorem d_E_isWidth_12 : decode c_E_isWidth 12 = .ok (.goto 4, 3) := by decide +kernel
theorem d_E_isWidth_15 : decode c_E_isWidth 15 = .ok (.iconst 0, 1) := by decide +kernel
theorem d_E_isWidth_16 : decode c_E_isWidth 16 = .ok (.ireturn, 1) := by decide +kernel
set_option maxHeartbeats 4000000 in
set_option maxRecDepth 100000 in
theorem r_E_isWidth (l : Launch) (D : va_G) (y : Int) (h1 : -2147483648 ≤ y ∧ y < 2147483648) : eh_R l y_E_isWidth k_E_isWidth 0 0 D classes [] [.int (eI y)] [] (.int (eI (if 1 ≤ y ∧ y ≤ 50 then 1 else 0))) := by
  refine Met.ofW (cc := c_E_isWidth) (maxL := 1) (ret := (some .boolean)) (by decide) rfl ?_
  intro p e s m args below meth c s₁ B hml hv
  obtain ⟨hargs, hP, hK, hN⟩ := hv
  have hx := B.exec
  have hb := B.bytes
  have hrt := B.returns
  have hts := atoms_spec (ws := k_E_isWidth :: ew_t) B.pre
  have htb : ∀ w ∈ ew_t, w.before args s = true := fun w h => hts w (List.mem_cons_of_mem _ h)
  have hown : s.vm.findClass "EarthHauls" = some m.cls := findClass_of_methodNamed B.named
  have hlocks := B.notSynchronized
  have hE : entryFrame m args 1 = entryFrame m ([.int (eI y)] : List Value).toArray 1 := by rw [hargs]
  rw [hE]
  clear hE hts B hargs
  generalize hRe : (headSpec _ _).room = R
  have hR1 : R.frames = 0 := by rw [← hRe]; rfl
  have hR2 : R.locals = 0 := by rw [← hRe]; rfl
  clear hRe
  generalize hQ : MQ below _ _ s 0 0 _ = Q
  have hP : va_P D classes [] s.heap := hP
  have hl := lv_entry ([.int (eI y)]) (n := 1) (Nat.le_of_ble_eq_true rfl)
  rw [lg_entry_eq]
  generalize (lg_sl ([.int (eI y)]) ++ List.replicate (1 - (lg_sl ([.int (eI y)])).length) Slot.unset).toArray = ls at hl ⊢
  have hl : lv_has ls 1 [(0, .int (eI y))] := hl
  refine lv_iload_n hx hb d_E_isWidth_0 rfl (lv_at hl 0 rfl) ?_
  refine lv_iconst (v := eI 1) hx hb d_E_isWidth_1 rfl ?_
  refine we_icmp_lt (tgt := 15) hx hb (by constructor <;> omega) (by constructor <;> omega) d_E_isWidth_2 rfl (fun hc2 => ?_) (fun hc2 => ?_)
  ·
    refine lv_iconst (v := eI 0) hx hb d_E_isWidth_15 rfl ?_
    have hres : (0 : Int) = (if 1 ≤ y ∧ y ≤ 50 then 1 else 0) := by rw [if_neg (by omega)]
    subst hQ
    exact W.zret (v := eI 0) hx hb hrt (by decide) (fun t9 ht hW => ⟨by rw [← hres], ht⟩) (fun q h => by cases h) d_E_isWidth_16
  ·
    refine lv_iload_n hx hb d_E_isWidth_5 rfl (lv_at hl 0 rfl) ?_
    refine lv_bipush (v := eI 50) hx hb d_E_isWidth_6 (by decide) ?_
    refine we_icmp_gt (tgt := 15) hx hb (by constructor <;> omega) (by constructor <;> omega) d_E_isWidth_8 rfl (fun hc8 => ?_) (fun hc8 => ?_)
    ·
      refine lv_iconst (v := eI 0) hx hb d_E_isWidth_15 rfl ?_
      have hres : (0 : Int) = (if 1 ≤ y ∧ y ≤ 50 then 1 else 0) := by rw [if_neg (by omega)]
      subst hQ
      exact W.zret (v := eI 0) hx hb hrt (by decide) (fun t9 ht hW => ⟨by rw [← hres], ht⟩) (fun q h => by cases h) d_E_isWidth_16
    ·
      refine lv_iconst (v := eI 1) hx hb d_E_isWidth_11 rfl ?_
      refine lv_goto (tgt := 16) hx hb d_E_isWidth_12 rfl ?_
      have hres : (1 : Int) = (if 1 ≤ y ∧ y ≤ 50 then 1 else 0) := by rw [if_pos (by omega)]
      subst hQ
      exact W.zret (v := eI 1) hx hb hrt (by decide) (fun t9 ht hW => ⟨by rw [← hres], ht⟩) (fun q h => by cases h) d_E_isWidth_16
abbrev c_E_isLitres : ByteArray := prog_1_method_24_code
def y_E_isLitres : MethodName := ⟨"EarthHauls", "isLitres", "(I)Z"⟩
abbrev k_E_isLitres : Cond := .code y_E_isLitres c_E_isLitres 1 (some .boolean)
theorem kin_E_isLitres : k_E_isLitres ∈ ew_t := tb_481
theorem dv_E_isLitres : eh_dS y_E_isLitres 1 := ⟨by decide, by decide, by decide +kernel⟩
theorem d_E_isLitres_0 : decode c_E_isLitres 0 = .ok (.iload_n 0, 1) := by decide +kernel
theorem d_E_isLitres_1 : decode c_E_isLitres 1 = .ok (.ifCond .lt 13, 3) := by decide +kernel
theorem d_E_isLitres_4 : decode c_E_isLitres 4 = .ok (.iload_n 0, 1) := by decide +kernel
theorem d_E_isLitres_5 : decode c_E_isLitres 5 = .ok (.ldc 186, 2) := by decide +kernel
theorem d_E_isLitres_7 : decode c_E_isLitres 7 = .ok (.if_icmp .gt 7, 3) := by decide +kernel
theorem d_E_isLitres_10 : decode c_E_isLitres 10 = .ok (.iconst 1, 1) := by decide +kernel
theorem d_E_isLitres_11 : decode c_E_isLitres 11 = .ok (.goto 4, 3) := by decide +kernel
theorem d_E_isLitres_14 : decode c_E_isLitres 14 = .ok (.iconst 0, 1) := by decide +kernel
theorem d_E_isLitres_15 : decode c_E_isLitres 15 = .ok (.ireturn, 1) := by decide +kernel
set_option maxHeartbeats 4000000 in
set_option maxRecDepth 100000 in
theorem r_E_isLitres (l : Launch) (D : va_G) (y : Int) (h1 : -2147483648 ≤ y ∧ y < 2147483648) : eh_R l y_E_isLitres k_E_isLitres 0 0 D classes [] [.int (eI y)] [] (.int (eI (if 0 ≤ y ∧ y ≤ 100000000 then 1 else 0))) := by
  refine Met.ofW (cc := c_E_isLitres) (maxL := 1) (ret := (some .boolean)) (by decide) rfl ?_
  intro p e s m args below meth c s₁ B hml hv
  obtain ⟨hargs, hP, hK, hN⟩ := hv
  have hx := B.exec
  have hb := B.bytes
  have hrt := B.returns
  have hts := atoms_spec (ws := k_E_isLitres :: ew_t) B.pre
  have htb : ∀ w ∈ ew_t, w.before args s = true := fun w h => hts w (List.mem_cons_of_mem _ h)
  have hown : s.vm.findClass "EarthHauls" = some m.cls := findClass_of_methodNamed B.named
  have hlocks := B.notSynchronized
  have hE : entryFrame m args 1 = entryFrame m ([.int (eI y)] : List Value).toArray 1 := by rw [hargs]
  rw [hE]
  clear hE hts B hargs
  generalize hRe : (headSpec _ _).room = R
  have hR1 : R.frames = 0 := by rw [← hRe]; rfl
  have hR2 : R.locals = 0 := by rw [← hRe]; rfl
  clear hRe
  generalize hQ : MQ below _ _ s 0 0 _ = Q
  have hP : va_P D classes [] s.heap := hP
  have hl := lv_entry ([.int (eI y)]) (n := 1) (Nat.le_of_ble_eq_true rfl)
  rw [lg_entry_eq]
  generalize (lg_sl ([.int (eI y)]) ++ List.replicate (1 - (lg_sl ([.int (eI y)])).length) Slot.unset).toArray = ls at hl ⊢
  have hl : lv_has ls 1 [(0, .int (eI y))] := hl
  refine lv_iload_n hx hb d_E_isLitres_0 rfl (lv_at hl 0 rfl) ?_
  refine we_if_lt (tgt := 14) hx hb (by constructor <;> omega) d_E_isLitres_1 rfl (fun hc1 => ?_) (fun hc1 => ?_)
  ·
    refine lv_iconst (v := eI 0) hx hb d_E_isLitres_14 rfl ?_
    have hres : (0 : Int) = (if 0 ≤ y ∧ y ≤ 100000000 then 1 else 0) := by rw [if_neg (by omega)]
    subst hQ
    exact W.zret (v := eI 0) hx hb hrt (by decide) (fun t9 ht hW => ⟨by rw [← hres], ht⟩) (fun q h => by cases h) d_E_isLitres_15
  ·
    refine lv_iload_n hx hb d_E_isLitres_4 rfl (lv_at hl 0 rfl) ?_
    refine we_ldc (a := 100000000) hx hb hown (htb _ tb_482) (by decide) d_E_isLitres_5 ?_
    refine we_icmp_gt (tgt := 14) hx hb (by constructor <;> omega) (by constructor <;> omega) d_E_isLitres_7 rfl (fun hc7 => ?_) (fun hc7 => ?_)
    ·
      refine lv_iconst (v := eI 0) hx hb d_E_isLitres_14 rfl ?_
      have hres : (0 : Int) = (if 0 ≤ y ∧ y ≤ 100000000 then 1 else 0) := by rw [if_neg (by omega)]
      subst hQ
      exact W.zret (v := eI 0) hx hb hrt (by decide) (fun t9 ht hW => ⟨by rw [← hres], ht⟩) (fun q h => by cases h) d_E_isLitres_15
    ·
      refine lv_iconst (v := eI 1) hx hb d_E_isLitres_10 rfl ?_
      refine lv_goto (tgt := 15) hx hb d_E_isLitres_11 rfl ?_
      have hres : (1 : Int) = (if 0 ≤ y ∧ y ≤ 100000000 then 1 else 0) := by rw [if_pos (by omega)]
      subst hQ
      exact W.zret (v := eI 1) hx hb hrt (by decide) (fun t9 ht hW => ⟨by rw [← hres], ht⟩) (fun q h => by cases h) d_E_isLitres_15
abbrev c_E_isPair : ByteArray := prog_1_method_27_code
def y_E_isPair : MethodName := ⟨"EarthHauls", "isPair", "(II)Z"⟩
abbrev k_E_isPair : Cond := .code y_E_isPair c_E_isPair 2 (some .boolean)
theorem kin_E_isPair : k_E_isPair ∈ ew_t := tb_518
theorem dv_E_isPair : eh_dS y_E_isPair 2 := ⟨by decide, by decide, by decide +kernel⟩
theorem d_E_isPair_0 : decode c_E_isPair 0 = .ok (.iload_n 0, 1) := by decide +kernel
theorem d_E_isPair_1 : decode c_E_isPair 1 = .ok (.ifCond .lt 22, 3) := by decide +kernel
theorem d_E_isPair_4 : decode c_E_isPair 4 = .ok (.iload_n 0, 1) := by decide +kernel
theorem d_E_isPair_5 : decode c_E_isPair 5 = .ok (.bipush 6, 2) := by decide +kernel
theorem d_E_isPair_7 : decode c_E_isPair 7 = .ok (.if_icmp .ge 16, 3) := by decide +kernel
theorem d_E_isPair_10 : decode c_E_isPair 10 = .ok (.iload_n 1, 1) := by decide +kernel
theorem d_E_isPair_11 : decode c_E_isPair 11 = .ok (.ifCond .lt 12, 3) := by decide +kernel
theorem d_E_isPair_14 : decode c_E_isPair 14 = .ok (.iload_n 1, 1) := by decide +kernel
theorem d_E_isPair_15 : decode c_E_isPair 15 = .ok (.iconst 5, 1) := by decide +kernel
theorem d_E_isPair_16 : decode c_E_isPair 16 = .ok (.if_icmp .ge 7, 3) := by decide +kernel
theorem d_E_isPair_19 : decode c_E_isPair 19 = .ok (.iconst 1, 1) := by decide +kernel
theorem d_E_isPair_20 : decode c_E_isPair 20 = .ok (.goto 4, 3) := by decide +kernel
theorem d_E_isPair_23 : decode c_E_isPair 23 = .ok (.iconst 0, 1) := by decide +kernel
theorem d_E_isPair_24 : decode c_E_isPair 24 = .ok (.ireturn, 1) := by decide +kernel
set_option maxHeartbeats 4000000 in
set_option maxRecDepth 100000 in
theorem r_E_isPair (l : Launch) (D : va_G) (y z : Int) (h1 : -2147483648 ≤ y ∧ y < 2147483648) (h2 : -2147483648 ≤ z ∧ z < 2147483648) : eh_R l y_E_isPair k_E_isPair 0 0 D classes [] [.int (eI y), .int (eI z)] [] (.int (eI (if (0 ≤ y ∧ y < 6) ∧ 0 ≤ z ∧ z < 5 then 1 else 0))) := by
  refine Met.ofW (cc := c_E_isPair) (maxL := 2) (ret := (some .boolean)) (by decide) rfl ?_
  intro p e s m args below meth c s₁ B hml hv
  obtain ⟨hargs, hP, hK, hN⟩ := hv
  have hx := B.exec
  have hb := B.bytes
  have hrt := B.returns
  have hts := atoms_spec (ws := k_E_isPair :: ew_t) B.pre
  have htb : ∀ w ∈ ew_t, w.before args s = true := fun w h => hts w (List.mem_cons_of_mem _ h)
  have hown : s.vm.findClass "EarthHauls" = some m.cls := findClass_of_methodNamed B.named
  have hlocks := B.notSynchronized
  have hE : entryFrame m args 2 = entryFrame m ([.int (eI y), .int (eI z)] : List Value).toArray 2 := by rw [hargs]
  rw [hE]
  clear hE hts B hargs
  generalize hRe : (headSpec _ _).room = R
  have hR1 : R.frames = 0 := by rw [← hRe]; rfl
  have hR2 : R.locals = 0 := by rw [← hRe]; rfl
  clear hRe
  generalize hQ : MQ below _ _ s 0 0 _ = Q
  have hP : va_P D classes [] s.heap := hP
  have hl := lv_entry ([.int (eI y), .int (eI z)]) (n := 2) (Nat.le_of_ble_eq_true rfl)
  rw [lg_entry_eq]
  generalize (lg_sl ([.int (eI y), .int (eI z)]) ++ List.replicate (2 - (lg_sl ([.int (eI y), .int (eI z)])).length) Slot.unset).toArray = ls at hl ⊢
  have hl : lv_has ls 2 [(0, .int (eI y)), (1, .int (eI z))] := hl
  refine lv_iload_n hx hb d_E_isPair_0 rfl (lv_at hl 0 rfl) ?_
  refine we_if_lt (tgt := 23) hx hb (by constructor <;> omega) d_E_isPair_1 rfl (fun hc1 => ?_) (fun hc1 => ?_)
  ·
    refine lv_iconst (v := eI 0) hx hb d_E_isPair_23 rfl ?_
    have hres : (0 : Int) = (if (0 ≤ y ∧ y < 6) ∧ 0 ≤ z ∧ z < 5 then 1 else 0) := by rw [if_neg (by omega)]
    subst hQ
    exact W.zret (v := eI 0) hx hb hrt (by decide) (fun t9 ht hW => ⟨by rw [← hres], ht⟩) (fun q h => by cases h) d_E_isPair_24
  ·
    refine lv_iload_n hx hb d_E_isPair_4 rfl (lv_at hl 0 rfl) ?_
    refine lv_bipush (v := eI 6) hx hb d_E_isPair_5 (by decide) ?_
    refine we_icmp_ge (tgt := 23) hx hb (by constructor <;> omega) (by constructor <;> omega) d_E_isPair_7 rfl (fun hc7 => ?_) (fun hc7 => ?_)
    ·
      refine lv_iconst (v := eI 0) hx hb d_E_isPair_23 rfl ?_
      have hres : (0 : Int) = (if (0 ≤ y ∧ y < 6) ∧ 0 ≤ z ∧ z < 5 then 1 else 0) := by rw [if_neg (by omega)]
      subst hQ
      exact W.zret (v := eI 0) hx hb hrt (by decide) (fun t9 ht hW => ⟨by rw [← hres], ht⟩) (fun q h => by cases h) d_E_isPair_24
    ·
      refine lv_iload_n hx hb d_E_isPair_10 rfl (lv_at hl 1 rfl) ?_
      refine we_if_lt (tgt := 23) hx hb (by constructor <;> omega) d_E_isPair_11 rfl (fun hc11 => ?_) (fun hc11 => ?_)
      ·
        refine lv_iconst (v := eI 0) hx hb d_E_isPair_23 rfl ?_
        have hres : (0 : Int) = (if (0 ≤ y ∧ y < 6) ∧ 0 ≤ z ∧ z < 5 then 1 else 0) := by rw [if_neg (by omega)]
        subst hQ
        exact W.zret (v := eI 0) hx hb hrt (by decide) (fun t9 ht hW => ⟨by rw [← hres], ht⟩) (fun q h => by cases h) d_E_isPair_24
      ·
        refine lv_iload_n hx hb d_E_isPair_14 rfl (lv_at hl 1 rfl) ?_
        refine lv_iconst (v := eI 5) hx hb d_E_isPair_15 rfl ?_
        refine we_icmp_ge (tgt := 23) hx hb (by constructor <;> omega) (by constructor <;> omega) d_E_isPair_16 rfl (fun hc16 => ?_) (fun hc16 => ?_)
        ·
          refine lv_iconst (v := eI 0) hx hb d_E_isPair_23 rfl ?_
          have hres : (0 : Int) = (if (0 ≤ y ∧ y < 6) ∧ 0 ≤ z ∧ z < 5 then 1 else 0) := by rw [if_neg (by omega)]
          subst hQ
          exact W.zret (v := eI 0) hx hb hrt (by decide) (fun t9 ht hW => ⟨by rw [← hres], ht⟩) (fun q h => by cases h) d_E_isPair_24
        ·
          refine lv_iconst (v := eI 1) hx hb d_E_isPair_19 rfl ?_
          refine lv_goto (tgt := 24) hx hb d_E_isPair_20 rfl ?_
          have hres : (1 : Int) = (if (0 ≤ y ∧ y < 6) ∧ 0 ≤ z ∧ z < 5 then 1 else 0) := by rw [if_pos (by omega)]
          subst hQ
          exact W.zret (v := eI 1) hx hb hrt (by decide) (fun t9 ht hW => ⟨by rw [← hres], ht⟩) (fun q h => by cases h) d_E_isPair_24
abbrev c_E_spans : ByteArray := prog_1_method_29_code
def y_E_spans : MethodName := ⟨"EarthHauls", "spans", "()I"⟩
abbrev k_E_spans : Cond := .code y_E_spans c_E_spans 1 (some .int)
theorem kin_E_spans : k_E_spans ∈ ew_t := tb_222
theorem dv_E_spans : eh_dV y_E_spans "EarthHauls" 0 := ⟨rfl, by decide, by decide, by decide +kernel⟩
theorem d_E_spans_0 : decode c_E_spans 0 = .ok (.aload_n 0, 1) := by decide +kernel
theorem d_E_spans_1 : decode c_E_spans 1 = .ok (.getfield 57, 3) := by decide +kernel
theorem d_E_spans_4 : decode c_E_spans 4 = .ok (.ifCond .le 12, 3) := by decide +kernel
theorem d_E_spans_7 : decode c_E_spans 7 = .ok (.aload_n 0, 1) := by decide +kernel
theorem d_E_spans_8 : decode c_E_spans 8 = .ok (.getfield 57, 3) := by decide +kernel
theorem d_E_spans_11 : decode c_E_spans 11 = .ok (.iconst 1, 1) := by decide +kernel
theorem d_E_spans_12 : decode c_E_spans 12 = .ok (.isub, 1) := by decide +kernel
theorem d_E_spans_13 : decode c_E_spans 13 = .ok (.goto 4, 3) := by decide +kernel
theorem d_E_spans_16 : decode c_E_spans 16 = .ok (.iconst 0, 1) := by decide +kernel
theorem d_E_spans_17 : decode c_E_spans 17 = .ok (.ireturn, 1) := by decide +kernel
set_option maxHeartbeats 4000000 in
set_option maxRecDepth 100000 in
theorem r_E_spans (l : Launch) (D : va_G) (cI cL cZ cS cY : ClassId) (ad : Nat → Nat) (n : Nat) (sh ra plv pco : Int) (ln cb la : Nat → Int) (cu cl fu fl : Nat → Nat) (ys yl yp : Nat → Int) (hE : eh_ES n sh ra ln cb la cu cl fu fl ys yl yp) : eh_R l y_E_spans k_E_spans 0 0 D classes [(cI, .int), (cL, .long), (cZ, .boolean), (cS, .object "EarthHauls$Section"), (cY, .object "EarthHauls$Yard")] [.ref (ad 0)] [((ad 0), .inr (4, [.ref (ad 1), .ref (ad 2), .ref (ad 3), .ref (ad 4), .ref (ad 5), .ref (ad 24), .int (eI ((n : Nat) : Int)), .int (eI sh), .int (eI ra), .int (eI plv), .long (eL pco)])), ((ad 1), .inl (cS, 5, .inr (.inr (.inr (.inr (eh_o5 (ad 6) (ad 7) (ad 8) (ad 9) (ad 10))))))), ((ad 2), aI cI 4 ln), ((ad 3), aI cZ 3 cb), ((ad 4), .inl (cY, 3, .inr (.inr (.inr (.inr (eh_o3 (ad 21) (ad 22) (ad 23))))))), ((ad 5), aI cI 30 la), ((ad 6), .inr (2, [.ref (ad 11), .ref (ad 16)])), ((ad 7), .inr (2, [.ref (ad 12), .ref (ad 17)])), ((ad 8), .inr (2, [.ref (ad 13), .ref (ad 18)])), ((ad 9), .inr (2, [.ref (ad 14), .ref (ad 19)])), ((ad 10), .inr (2, [.ref (ad 15), .ref (ad 20)])), ((ad 11), .inr (0, [.long (eL ((cu 0 : Nat) : Int)), .long (eL ((cl 0 : Nat) : Int))])), ((ad 12), .inr (0, [.long (eL ((cu 1 : Nat) : Int)), .long (eL ((cl 1 : Nat) : Int))])), ((ad 13), .inr (0, [.long (eL ((cu 2 : Nat) : Int)), .long (eL ((cl 2 : Nat) : Int))])), ((ad 14), .inr (0, [.long (eL ((cu 3 : Nat) : Int)), .long (eL ((cl 3 : Nat) : Int))])), ((ad 15), .inr (0, [.long (eL ((cu 4 : Nat) : Int)), .long (eL ((cl 4 : Nat) : Int))])), ((ad 16), .inr (0, [.long (eL ((fu 0 : Nat) : Int)), .long (eL ((fl 0 : Nat) : Int))])), ((ad 17), .inr (0, [.long (eL ((fu 1 : Nat) : Int)), .long (eL ((fl 1 : Nat) : Int))])), ((ad 18), .inr (0, [.long (eL ((fu 2 : Nat) : Int)), .long (eL ((fl 2 : Nat) : Int))])), ((ad 19), .inr (0, [.long (eL ((fu 3 : Nat) : Int)), .long (eL ((fl 3 : Nat) : Int))])), ((ad 20), .inr (0, [.long (eL ((fu 4 : Nat) : Int)), .long (eL ((fl 4 : Nat) : Int))])), ((ad 21), .inr (3, [.int (eI (ys 0)), .int (eI (yl 0)), .int (eI (yp 0))])), ((ad 22), .inr (3, [.int (eI (ys 1)), .int (eI (yl 1)), .int (eI (yp 1))])), ((ad 23), .inr (3, [.int (eI (ys 2)), .int (eI (yl 2)), .int (eI (yp 2))]))] (.int (eI (if 0 < n then (n : Int) - 1 else 0))) := by
  refine Met.ofW (cc := c_E_spans) (maxL := 1) (ret := (some .int)) (by decide) rfl ?_
  intro p e s m args below meth c s₁ B hml hv
  obtain ⟨hargs, hP, hK, hN⟩ := hv
  have hx := B.exec
  have hb := B.bytes
  have hrt := B.returns
  have hts := atoms_spec (ws := k_E_spans :: ew_t) B.pre
  have htb : ∀ w ∈ ew_t, w.before args s = true := fun w h => hts w (List.mem_cons_of_mem _ h)
  have hown : s.vm.findClass "EarthHauls" = some m.cls := findClass_of_methodNamed B.named
  have hlocks := B.notSynchronized
  have hE : entryFrame m args 1 = entryFrame m ([.ref (ad 0)] : List Value).toArray 1 := by rw [hargs]
  rw [hE]
  clear hE hts B hargs
  generalize hRe : (headSpec _ _).room = R
  have hR1 : R.frames = 0 := by rw [← hRe]; rfl
  have hR2 : R.locals = 0 := by rw [← hRe]; rfl
  clear hRe
  generalize hQ : MQ below _ _ s 0 0 _ = Q
  have hP : va_P D classes [((ad 0), .inr (4, [.ref (ad 1), .ref (ad 2), .ref (ad 3), .ref (ad 4), .ref (ad 5), .ref (ad 24), .int (eI ((n : Nat) : Int)), .int (eI sh), .int (eI ra), .int (eI plv), .long (eL pco)])), ((ad 1), .inl (cS, 5, .inr (.inr (.inr (.inr (eh_o5 (ad 6) (ad 7) (ad 8) (ad 9) (ad 10))))))), ((ad 2), aI cI 4 ln), ((ad 3), aI cZ 3 cb), ((ad 4), .inl (cY, 3, .inr (.inr (.inr (.inr (eh_o3 (ad 21) (ad 22) (ad 23))))))), ((ad 5), aI cI 30 la), ((ad 6), .inr (2, [.ref (ad 11), .ref (ad 16)])), ((ad 7), .inr (2, [.ref (ad 12), .ref (ad 17)])), ((ad 8), .inr (2, [.ref (ad 13), .ref (ad 18)])), ((ad 9), .inr (2, [.ref (ad 14), .ref (ad 19)])), ((ad 10), .inr (2, [.ref (ad 15), .ref (ad 20)])), ((ad 11), .inr (0, [.long (eL ((cu 0 : Nat) : Int)), .long (eL ((cl 0 : Nat) : Int))])), ((ad 12), .inr (0, [.long (eL ((cu 1 : Nat) : Int)), .long (eL ((cl 1 : Nat) : Int))])), ((ad 13), .inr (0, [.long (eL ((cu 2 : Nat) : Int)), .long (eL ((cl 2 : Nat) : Int))])), ((ad 14), .inr (0, [.long (eL ((cu 3 : Nat) : Int)), .long (eL ((cl 3 : Nat) : Int))])), ((ad 15), .inr (0, [.long (eL ((cu 4 : Nat) : Int)), .long (eL ((cl 4 : Nat) : Int))])), ((ad 16), .inr (0, [.long (eL ((fu 0 : Nat) : Int)), .long (eL ((fl 0 : Nat) : Int))])), ((ad 17), .inr (0, [.long (eL ((fu 1 : Nat) : Int)), .long (eL ((fl 1 : Nat) : Int))])), ((ad 18), .inr (0, [.long (eL ((fu 2 : Nat) : Int)), .long (eL ((fl 2 : Nat) : Int))])), ((ad 19), .inr (0, [.long (eL ((fu 3 : Nat) : Int)), .long (eL ((fl 3 : Nat) : Int))])), ((ad 20), .inr (0, [.long (eL ((fu 4 : Nat) : Int)), .long (eL ((fl 4 : Nat) : Int))])), ((ad 21), .inr (3, [.int (eI (ys 0)), .int (eI (yl 0)), .int (eI (yp 0))])), ((ad 22), .inr (3, [.int (eI (ys 1)), .int (eI (yl 1)), .int (eI (yp 1))])), ((ad 23), .inr (3, [.int (eI (ys 2)), .int (eI (yl 2)), .int (eI (yp 2))]))] s.heap := hP
  have hl := lv_entry ([.ref (ad 0)]) (n := 1) (Nat.le_of_ble_eq_true rfl)
  rw [lg_entry_eq]
  generalize (lg_sl ([.ref (ad 0)]) ++ List.replicate (1 - (lg_sl ([.ref (ad 0)])).length) Slot.unset).toArray = ls at hl ⊢
  have hl : lv_has ls 1 [(0, .ref (ad 0))] := hl
  have hn5 := hE.1
  refine lv_aload_n hx hb d_E_spans_0 rfl (lv_at hl 0 rfl) ?_
  refine va_get (D := D) (ci := 4) (v := .int (eI ((n : Nat) : Int))) (C := R_E) (T := T_E) (N := 11) hx hb htb in_E hown hK hP 0 rfl rfl 6 (by decide) (htb _ tb_130) (fun _ h9 => h9) rfl d_E_spans_1 ?_
  refine we_if_le (tgt := 16) hx hb (by constructor <;> omega) d_E_spans_4 rfl (fun hc4 => ?_) (fun hc4 => ?_)
  ·
    refine lv_iconst (v := eI 0) hx hb d_E_spans_16 rfl ?_
    have hres : 0 = (if 0 < n then (n : Int) - 1 else 0) := by rw [if_neg (by omega)]
    rw [hres]
    subst hQ
    exact W.iret hx hb hrt (fun t9 ht hW => ⟨rfl, ht⟩) (fun q h => by cases h) d_E_spans_17
  ·
    refine lv_aload_n hx hb d_E_spans_7 rfl (lv_at hl 0 rfl) ?_
    refine va_get (D := D) (ci := 4) (v := .int (eI ((n : Nat) : Int))) (C := R_E) (T := T_E) (N := 11) hx hb htb in_E hown hK hP 0 rfl rfl 6 (by decide) (htb _ tb_130) (fun _ h9 => h9) rfl d_E_spans_8 ?_
    refine lv_iconst (v := eI 1) hx hb d_E_spans_11 rfl ?_
    refine we_isub hx hb d_E_spans_12 ?_
    refine lv_goto (tgt := 17) hx hb d_E_spans_13 rfl ?_
    have hres : (((n : Nat) : Int) - 1) = (if 0 < n then (n : Int) - 1 else 0) := by rw [if_pos (by omega)]
    rw [hres]
    subst hQ
    exact W.iret hx hb hrt (fun t9 ht hW => ⟨rfl, ht⟩) (fun q h => by cases h) d_E_spans_17
abbrev c_E_borders : ByteArray := prog_1_method_30_code
def y_E_borders : MethodName := ⟨"EarthHauls", "borders", "()I"⟩
abbrev k_E_borders : Cond := .code y_E_borders c_E_borders 1 (some .int)
theorem kin_E_borders : k_E_borders ∈ ew_t := tb_456
theorem dv_E_borders : eh_dV y_E_borders "EarthHauls" 0 := ⟨rfl, by decide, by decide, by decide +kernel⟩
theorem d_E_borders_0 : decode c_E_borders 0 = .ok (.aload_n 0, 1) := by decide +kernel
theorem d_E_borders_1 : decode c_E_borders 1 = .ok (.invokevirtual 187, 3) := by decide +kernel
theorem d_E_borders_4 : decode c_E_borders 4 = .ok (.ifCond .le 12, 3) := by decide +kernel
theorem d_E_borders_7 : decode c_E_borders 7 = .ok (.aload_n 0, 1) := by decide +kernel
theorem d_E_borders_8 : decode c_E_borders 8 = .ok (.invokevirtual 187, 3) := by decide +kernel
theorem d_E_borders_11 : decode c_E_borders 11 = .ok (.iconst 1, 1) := by decide +kernel
theorem d_E_borders_12 : decode c_E_borders 12 = .ok (.isub, 1) := by decide +kernel
theorem d_E_borders_13 : decode c_E_borders 13 = .ok (.goto 4, 3) := by decide +kernel
theorem d_E_borders_16 : decode c_E_borders 16 = .ok (.iconst 0, 1) := by decide +kernel
theorem d_E_borders_17 : decode c_E_borders 17 = .ok (.ireturn, 1) := by decide +kernel
set_option maxHeartbeats 4000000 in
set_option maxRecDepth 100000 in
theorem r_E_borders (l : Launch) (D : va_G) (cI cL cZ cS cY : ClassId) (ad : Nat → Nat) (n : Nat) (sh ra plv pco : Int) (ln cb la : Nat → Int) (cu cl fu fl : Nat → Nat) (ys yl yp : Nat → Int) (hE : eh_ES n sh ra ln cb la cu cl fu fl ys yl yp) : eh_R l y_E_borders k_E_borders 1 20 D classes [(cI, .int), (cL, .long), (cZ, .boolean), (cS, .object "EarthHauls$Section"), (cY, .object "EarthHauls$Yard")] [.ref (ad 0)] [((ad 0), .inr (4, [.ref (ad 1), .ref (ad 2), .ref (ad 3), .ref (ad 4), .ref (ad 5), .ref (ad 24), .int (eI ((n : Nat) : Int)), .int (eI sh), .int (eI ra), .int (eI plv), .long (eL pco)])), ((ad 1), .inl (cS, 5, .inr (.inr (.inr (.inr (eh_o5 (ad 6) (ad 7) (ad 8) (ad 9) (ad 10))))))), ((ad 2), aI cI 4 ln), ((ad 3), aI cZ 3 cb), ((ad 4), .inl (cY, 3, .inr (.inr (.inr (.inr (eh_o3 (ad 21) (ad 22) (ad 23))))))), ((ad 5), aI cI 30 la), ((ad 6), .inr (2, [.ref (ad 11), .ref (ad 16)])), ((ad 7), .inr (2, [.ref (ad 12), .ref (ad 17)])), ((ad 8), .inr (2, [.ref (ad 13), .ref (ad 18)])), ((ad 9), .inr (2, [.ref (ad 14), .ref (ad 19)])), ((ad 10), .inr (2, [.ref (ad 15), .ref (ad 20)])), ((ad 11), .inr (0, [.long (eL ((cu 0 : Nat) : Int)), .long (eL ((cl 0 : Nat) : Int))])), ((ad 12), .inr (0, [.long (eL ((cu 1 : Nat) : Int)), .long (eL ((cl 1 : Nat) : Int))])), ((ad 13), .inr (0, [.long (eL ((cu 2 : Nat) : Int)), .long (eL ((cl 2 : Nat) : Int))])), ((ad 14), .inr (0, [.long (eL ((cu 3 : Nat) : Int)), .long (eL ((cl 3 : Nat) : Int))])), ((ad 15), .inr (0, [.long (eL ((cu 4 : Nat) : Int)), .long (eL ((cl 4 : Nat) : Int))])), ((ad 16), .inr (0, [.long (eL ((fu 0 : Nat) : Int)), .long (eL ((fl 0 : Nat) : Int))])), ((ad 17), .inr (0, [.long (eL ((fu 1 : Nat) : Int)), .long (eL ((fl 1 : Nat) : Int))])), ((ad 18), .inr (0, [.long (eL ((fu 2 : Nat) : Int)), .long (eL ((fl 2 : Nat) : Int))])), ((ad 19), .inr (0, [.long (eL ((fu 3 : Nat) : Int)), .long (eL ((fl 3 : Nat) : Int))])), ((ad 20), .inr (0, [.long (eL ((fu 4 : Nat) : Int)), .long (eL ((fl 4 : Nat) : Int))])), ((ad 21), .inr (3, [.int (eI (ys 0)), .int (eI (yl 0)), .int (eI (yp 0))])), ((ad 22), .inr (3, [.int (eI (ys 1)), .int (eI (yl 1)), .int (eI (yp 1))])), ((ad 23), .inr (3, [.int (eI (ys 2)), .int (eI (yl 2)), .int (eI (yp 2))]))] (.int (eI (if 2 < n then (n : Int) - 2 else 0))) := by
  refine Met.ofW (cc := c_E_borders) (maxL := 1) (ret := (some .int)) (by decide) rfl ?_
  intro p e s m args below meth c s₁ B hml hv
  obtain ⟨hargs, hP, hK, hN⟩ := hv
  have hx := B.exec
  have hb := B.bytes
  have hrt := B.returns
  have hts := atoms_spec (ws := k_E_borders :: ew_t) B.pre
  have htb : ∀ w ∈ ew_t, w.before args s = true := fun w h => hts w (List.mem_cons_of_mem _ h)
  have hown : s.vm.findClass "EarthHauls" = some m.cls := findClass_of_methodNamed B.named
  have hlocks := B.notSynchronized
  have hE : entryFrame m args 1 = entryFrame m ([.ref (ad 0)] : List Value).toArray 1 := by rw [hargs]
  rw [hE]
  clear hE hts B hargs
  generalize hRe : (headSpec _ _).room = R
  have hR1 : R.frames = 1 := by rw [← hRe]; rfl
  have hR2 : R.locals = 20 := by rw [← hRe]; rfl
  clear hRe
  generalize hQ : MQ below _ _ s 0 0 _ = Q
  have hP : va_P D classes [((ad 0), .inr (4, [.ref (ad 1), .ref (ad 2), .ref (ad 3), .ref (ad 4), .ref (ad 5), .ref (ad 24), .int (eI ((n : Nat) : Int)), .int (eI sh), .int (eI ra), .int (eI plv), .long (eL pco)])), ((ad 1), .inl (cS, 5, .inr (.inr (.inr (.inr (eh_o5 (ad 6) (ad 7) (ad 8) (ad 9) (ad 10))))))), ((ad 2), aI cI 4 ln), ((ad 3), aI cZ 3 cb), ((ad 4), .inl (cY, 3, .inr (.inr (.inr (.inr (eh_o3 (ad 21) (ad 22) (ad 23))))))), ((ad 5), aI cI 30 la), ((ad 6), .inr (2, [.ref (ad 11), .ref (ad 16)])), ((ad 7), .inr (2, [.ref (ad 12), .ref (ad 17)])), ((ad 8), .inr (2, [.ref (ad 13), .ref (ad 18)])), ((ad 9), .inr (2, [.ref (ad 14), .ref (ad 19)])), ((ad 10), .inr (2, [.ref (ad 15), .ref (ad 20)])), ((ad 11), .inr (0, [.long (eL ((cu 0 : Nat) : Int)), .long (eL ((cl 0 : Nat) : Int))])), ((ad 12), .inr (0, [.long (eL ((cu 1 : Nat) : Int)), .long (eL ((cl 1 : Nat) : Int))])), ((ad 13), .inr (0, [.long (eL ((cu 2 : Nat) : Int)), .long (eL ((cl 2 : Nat) : Int))])), ((ad 14), .inr (0, [.long (eL ((cu 3 : Nat) : Int)), .long (eL ((cl 3 : Nat) : Int))])), ((ad 15), .inr (0, [.long (eL ((cu 4 : Nat) : Int)), .long (eL ((cl 4 : Nat) : Int))])), ((ad 16), .inr (0, [.long (eL ((fu 0 : Nat) : Int)), .long (eL ((fl 0 : Nat) : Int))])), ((ad 17), .inr (0, [.long (eL ((fu 1 : Nat) : Int)), .long (eL ((fl 1 : Nat) : Int))])), ((ad 18), .inr (0, [.long (eL ((fu 2 : Nat) : Int)), .long (eL ((fl 2 : Nat) : Int))])), ((ad 19), .inr (0, [.long (eL ((fu 3 : Nat) : Int)), .long (eL ((fl 3 : Nat) : Int))])), ((ad 20), .inr (0, [.long (eL ((fu 4 : Nat) : Int)), .long (eL ((fl 4 : Nat) : Int))])), ((ad 21), .inr (3, [.int (eI (ys 0)), .int (eI (yl 0)), .int (eI (yp 0))])), ((ad 22), .inr (3, [.int (eI (ys 1)), .int (eI (yl 1)), .int (eI (yp 1))])), ((ad 23), .inr (3, [.int (eI (ys 2)), .int (eI (yl 2)), .int (eI (yp 2))]))] s.heap := hP
  have hl := lv_entry ([.ref (ad 0)]) (n := 1) (Nat.le_of_ble_eq_true rfl)
  rw [lg_entry_eq]
  generalize (lg_sl ([.ref (ad 0)]) ++ List.replicate (1 - (lg_sl ([.ref (ad 0)])).length) Slot.unset).toArray = ls at hl ⊢
  have hl : lv_has ls 1 [(0, .ref (ad 0))] := hl
  have hn5 := hE.1
  refine lv_aload_n hx hb d_E_borders_0 rfl (lv_at hl 0 rfl) ?_
  refine eh_cRV (As := []) (rest := []) (v := .int (eI (if 0 < n then (n : Int) - 1 else 0))) (q := (R_E, T_E, 11)) hx hb hml hown htb hN (r_E_spans l D cI cL cZ cS cY ad n sh ra plv pco ln cb la cu cl fu fl ys yl yp hE) 0 ⟨tb_219, tb_221, ts_10, tb_1, kin_E_spans⟩ dv_E_spans ⟨by rw [hR1]; decide, by rw [hR2]; decide⟩ hK hP 0 rfl rfl [0, 1, 2, 3, 4, 5, 6, 7, 8, 9, 10, 11, 12, 13, 14, 15, 16, 17, 18, 19, 20, 21, 22, 23] rfl [0, 1, 2, 3, 4] rfl rfl rfl hl.1 (Nat.le_of_ble_eq_true rfl) d_E_borders_1 ⟨Nat.zero_le _, Nat.zero_le _⟩ ?_
  have hspb : 0 ≤ (if 0 < n then (n : Int) - 1 else 0) ∧ (if 0 < n then (n : Int) - 1 else 0) ≤ 4 := by split <;> omega
  refine we_if_le (tgt := 16) hx hb (by constructor <;> omega) d_E_borders_4 rfl (fun hc4 => ?_) (fun hc4 => ?_)
  ·
    refine lv_iconst (v := eI 0) hx hb d_E_borders_16 rfl ?_
    have hres : 0 = (if 2 < n then (n : Int) - 2 else 0) := by by_cases h9 : 0 < n <;> by_cases h8 : 2 < n <;> simp only [h9, h8, if_true, if_false] at hc4 ⊢ <;> omega
    rw [hres]
    subst hQ
    exact W.iret hx hb hrt (fun t9 ht hW => ⟨rfl, ht⟩) (fun q h => by cases h) d_E_borders_17
  ·
    refine lv_aload_n hx hb d_E_borders_7 rfl (lv_at hl 0 rfl) ?_
    refine eh_cRV (As := []) (rest := []) (v := .int (eI (if 0 < n then (n : Int) - 1 else 0))) (q := (R_E, T_E, 11)) hx hb hml hown htb hN (r_E_spans l D cI cL cZ cS cY ad n sh ra plv pco ln cb la cu cl fu fl ys yl yp hE) 0 ⟨tb_219, tb_221, ts_10, tb_1, kin_E_spans⟩ dv_E_spans ⟨by rw [hR1]; decide, by rw [hR2]; decide⟩ hK hP 0 rfl rfl [0, 1, 2, 3, 4, 5, 6, 7, 8, 9, 10, 11, 12, 13, 14, 15, 16, 17, 18, 19, 20, 21, 22, 23] rfl [0, 1, 2, 3, 4] rfl rfl rfl hl.1 (Nat.le_of_ble_eq_true rfl) d_E_borders_8 ⟨Nat.zero_le _, Nat.zero_le _⟩ ?_
    refine lv_iconst (v := eI 1) hx hb d_E_borders_11 rfl ?_
    refine we_isub hx hb d_E_borders_12 ?_
    refine lv_goto (tgt := 17) hx hb d_E_borders_13 rfl ?_
    have hres : ((if 0 < n then (n : Int) - 1 else 0) - 1) = (if 2 < n then (n : Int) - 2 else 0) := by by_cases h9 : 0 < n <;> by_cases h8 : 2 < n <;> simp only [h9, h8, if_true, if_false] at hc4 ⊢ <;> omega
    rw [hres]
    subst hQ
    exact W.iret hx hb hrt (fun t9 ht hW => ⟨rfl, ht⟩) (fun q h => by cases h) d_E_borders_17
abbrev c_E_isSpan : ByteArray := prog_1_method_26_code
def y_E_isSpan : MethodName := ⟨"EarthHauls", "isSpan", "(I)Z"⟩
abbrev k_E_isSpan : Cond := .code y_E_isSpan c_E_isSpan 2 (some .boolean)
theorem kin_E_isSpan : k_E_isSpan ∈ ew_t := tb_218
theorem dv_E_isSpan : eh_dV y_E_isSpan "EarthHauls" 1 := ⟨rfl, by decide, by decide, by decide +kernel⟩
theorem d_E_isSpan_0 : decode c_E_isSpan 0 = .ok (.iload_n 1, 1) := by decide +kernel
theorem d_E_isSpan_1 : decode c_E_isSpan 1 = .ok (.ifCond .lt 15, 3) := by decide +kernel
theorem d_E_isSpan_4 : decode c_E_isSpan 4 = .ok (.iload_n 1, 1) := by decide +kernel
theorem d_E_isSpan_5 : decode c_E_isSpan 5 = .ok (.aload_n 0, 1) := by decide +kernel
theorem d_E_isSpan_6 : decode c_E_isSpan 6 = .ok (.invokevirtual 187, 3) := by decide +kernel
theorem d_E_isSpan_9 : decode c_E_isSpan 9 = .ok (.if_icmp .ge 7, 3) := by decide +kernel
theorem d_E_isSpan_12 : decode c_E_isSpan 12 = .ok (.iconst 1, 1) := by decide +kernel
theorem d_E_isSpan_13 : decode c_E_isSpan 13 = .ok (.goto 4, 3) := by decide +kernel
theorem d_E_isSpan_16 : decode c_E_isSpan 16 = .ok (.iconst 0, 1) := by decide +kernel
theorem d_E_isSpan_17 : decode c_E_isSpan 17 = .ok (.ireturn, 1) := by decide +kernel
set_option maxHeartbeats 4000000 in
set_option maxRecDepth 100000 in
theorem r_E_isSpan (l : Launch) (D : va_G) (cI cL cZ cS cY : ClassId) (ad : Nat → Nat) (n : Nat) (sh ra plv pco : Int) (ln cb la : Nat → Int) (cu cl fu fl : Nat → Nat) (ys yl yp : Nat → Int) (y : Int) (h1 : -2147483648 ≤ y ∧ y < 2147483648) (hE : eh_ES n sh ra ln cb la cu cl fu fl ys yl yp) : eh_R l y_E_isSpan k_E_isSpan 1 20 D classes [(cI, .int), (cL, .long), (cZ, .boolean), (cS, .object "EarthHauls$Section"), (cY, .object "EarthHauls$Yard")] [.ref (ad 0), .int (eI y)] [((ad 0), .inr (4, [.ref (ad 1), .ref (ad 2), .ref (ad 3), .ref (ad 4), .ref (ad 5), .ref (ad 24), .int (eI ((n : Nat) : Int)), .int (eI sh), .int (eI ra), .int (eI plv), .long (eL pco)])), ((ad 1), .inl (cS, 5, .inr (.inr (.inr (.inr (eh_o5 (ad 6) (ad 7) (ad 8) (ad 9) (ad 10))))))), ((ad 2), aI cI 4 ln), ((ad 3), aI cZ 3 cb), ((ad 4), .inl (cY, 3, .inr (.inr (.inr (.inr (eh_o3 (ad 21) (ad 22) (ad 23))))))), ((ad 5), aI cI 30 la), ((ad 6), .inr (2, [.ref (ad 11), .ref (ad 16)])), ((ad 7), .inr (2, [.ref (ad 12), .ref (ad 17)])), ((ad 8), .inr (2, [.ref (ad 13), .ref (ad 18)])), ((ad 9), .inr (2, [.ref (ad 14), .ref (ad 19)])), ((ad 10), .inr (2, [.ref (ad 15), .ref (ad 20)])), ((ad 11), .inr (0, [.long (eL ((cu 0 : Nat) : Int)), .long (eL ((cl 0 : Nat) : Int))])), ((ad 12), .inr (0, [.long (eL ((cu 1 : Nat) : Int)), .long (eL ((cl 1 : Nat) : Int))])), ((ad 13), .inr (0, [.long (eL ((cu 2 : Nat) : Int)), .long (eL ((cl 2 : Nat) : Int))])), ((ad 14), .inr (0, [.long (eL ((cu 3 : Nat) : Int)), .long (eL ((cl 3 : Nat) : Int))])), ((ad 15), .inr (0, [.long (eL ((cu 4 : Nat) : Int)), .long (eL ((cl 4 : Nat) : Int))])), ((ad 16), .inr (0, [.long (eL ((fu 0 : Nat) : Int)), .long (eL ((fl 0 : Nat) : Int))])), ((ad 17), .inr (0, [.long (eL ((fu 1 : Nat) : Int)), .long (eL ((fl 1 : Nat) : Int))])), ((ad 18), .inr (0, [.long (eL ((fu 2 : Nat) : Int)), .long (eL ((fl 2 : Nat) : Int))])), ((ad 19), .inr (0, [.long (eL ((fu 3 : Nat) : Int)), .long (eL ((fl 3 : Nat) : Int))])), ((ad 20), .inr (0, [.long (eL ((fu 4 : Nat) : Int)), .long (eL ((fl 4 : Nat) : Int))])), ((ad 21), .inr (3, [.int (eI (ys 0)), .int (eI (yl 0)), .int (eI (yp 0))])), ((ad 22), .inr (3, [.int (eI (ys 1)), .int (eI (yl 1)), .int (eI (yp 1))])), ((ad 23), .inr (3, [.int (eI (ys 2)), .int (eI (yl 2)), .int (eI (yp 2))]))] (.int (eI (if 0 ≤ y ∧ y + 1 < n then 1 else 0))) := by
  refine Met.ofW (cc := c_E_isSpan) (maxL := 2) (ret := (some .boolean)) (by decide) rfl ?_
  intro p e s m args below meth c s₁ B hml hv
  obtain ⟨hargs, hP, hK, hN⟩ := hv
  have hx := B.exec
  have hb := B.bytes
  have hrt := B.returns
  have hts := atoms_spec (ws := k_E_isSpan :: ew_t) B.pre
  have htb : ∀ w ∈ ew_t, w.before args s = true := fun w h => hts w (List.mem_cons_of_mem _ h)
  have hown : s.vm.findClass "EarthHauls" = some m.cls := findClass_of_methodNamed B.named
  have hlocks := B.notSynchronized
  have hE : entryFrame m args 2 = entryFrame m ([.ref (ad 0), .int (eI y)] : List Value).toArray 2 := by rw [hargs]
  rw [hE]
  clear hE hts B hargs
  generalize hRe : (headSpec _ _).room = R
  have hR1 : R.frames = 1 := by rw [← hRe]; rfl
  have hR2 : R.locals = 20 := by rw [← hRe]; rfl
  clear hRe
  generalize hQ : MQ below _ _ s 0 0 _ = Q
  have hP : va_P D classes [((ad 0), .inr (4, [.ref (ad 1), .ref (ad 2), .ref (ad 3), .ref (ad 4), .ref (ad 5), .ref (ad 24), .int (eI ((n : Nat) : Int)), .int (eI sh), .int (eI ra), .int (eI plv), .long (eL pco)])), ((ad 1), .inl (cS, 5, .inr (.inr (.inr (.inr (eh_o5 (ad 6) (ad 7) (ad 8) (ad 9) (ad 10))))))), ((ad 2), aI cI 4 ln), ((ad 3), aI cZ 3 cb), ((ad 4), .inl (cY, 3, .inr (.inr (.inr (.inr (eh_o3 (ad 21) (ad 22) (ad 23))))))), ((ad 5), aI cI 30 la), ((ad 6), .inr (2, [.ref (ad 11), .ref (ad 16)])), ((ad 7), .inr (2, [.ref (ad 12), .ref (ad 17)])), ((ad 8), .inr (2, [.ref (ad 13), .ref (ad 18)])), ((ad 9), .inr (2, [.ref (ad 14), .ref (ad 19)])), ((ad 10), .inr (2, [.ref (ad 15), .ref (ad 20)])), ((ad 11), .inr (0, [.long (eL ((cu 0 : Nat) : Int)), .long (eL ((cl 0 : Nat) : Int))])), ((ad 12), .inr (0, [.long (eL ((cu 1 : Nat) : Int)), .long (eL ((cl 1 : Nat) : Int))])), ((ad 13), .inr (0, [.long (eL ((cu 2 : Nat) : Int)), .long (eL ((cl 2 : Nat) : Int))])), ((ad 14), .inr (0, [.long (eL ((cu 3 : Nat) : Int)), .long (eL ((cl 3 : Nat) : Int))])), ((ad 15), .inr (0, [.long (eL ((cu 4 : Nat) : Int)), .long (eL ((cl 4 : Nat) : Int))])), ((ad 16), .inr (0, [.long (eL ((fu 0 : Nat) : Int)), .long (eL ((fl 0 : Nat) : Int))])), ((ad 17), .inr (0, [.long (eL ((fu 1 : Nat) : Int)), .long (eL ((fl 1 : Nat) : Int))])), ((ad 18), .inr (0, [.long (eL ((fu 2 : Nat) : Int)), .long (eL ((fl 2 : Nat) : Int))])), ((ad 19), .inr (0, [.long (eL ((fu 3 : Nat) : Int)), .long (eL ((fl 3 : Nat) : Int))])), ((ad 20), .inr (0, [.long (eL ((fu 4 : Nat) : Int)), .long (eL ((fl 4 : Nat) : Int))])), ((ad 21), .inr (3, [.int (eI (ys 0)), .int (eI (yl 0)), .int (eI (yp 0))])), ((ad 22), .inr (3, [.int (eI (ys 1)), .int (eI (yl 1)), .int (eI (yp 1))])), ((ad 23), .inr (3, [.int (eI (ys 2)), .int (eI (yl 2)), .int (eI (yp 2))]))] s.heap := hP
  have hl := lv_entry ([.ref (ad 0), .int (eI y)]) (n := 2) (Nat.le_of_ble_eq_true rfl)
  rw [lg_entry_eq]
  generalize (lg_sl ([.ref (ad 0), .int (eI y)]) ++ List.replicate (2 - (lg_sl ([.ref (ad 0), .int (eI y)])).length) Slot.unset).toArray = ls at hl ⊢
  have hl : lv_has ls 2 [(0, .ref (ad 0)), (1, .int (eI y))] := hl
  have hn5 := hE.1
  refine lv_iload_n hx hb d_E_isSpan_0 rfl (lv_at hl 1 rfl) ?_
  refine we_if_lt (tgt := 16) hx hb (by constructor <;> omega) d_E_isSpan_1 rfl (fun hc1 => ?_) (fun hc1 => ?_)
  ·
    refine lv_iconst (v := eI 0) hx hb d_E_isSpan_16 rfl ?_
    have hres : (0 : Int) = (if 0 ≤ y ∧ y + 1 < n then 1 else 0) := by rw [if_neg (by first | omega | (split at hc9 <;> omega))]
    subst hQ
    exact W.zret (v := eI 0) hx hb hrt (by decide) (fun t9 ht hW => ⟨by rw [← hres], ht⟩) (fun q h => by cases h) d_E_isSpan_17
  ·
    refine lv_iload_n hx hb d_E_isSpan_4 rfl (lv_at hl 1 rfl) ?_
    refine lv_aload_n hx hb d_E_isSpan_5 rfl (lv_at hl 0 rfl) ?_
    refine eh_cRV (As := []) (rest := [.int (eI y)]) (v := .int (eI (if 0 < n then (n : Int) - 1 else 0))) (q := (R_E, T_E, 11)) hx hb hml hown htb hN (r_E_spans l D cI cL cZ cS cY ad n sh ra plv pco ln cb la cu cl fu fl ys yl yp hE) 0 ⟨tb_219, tb_221, ts_10, tb_1, kin_E_spans⟩ dv_E_spans ⟨by rw [hR1]; decide, by rw [hR2]; decide⟩ hK hP 0 rfl rfl [0, 1, 2, 3, 4, 5, 6, 7, 8, 9, 10, 11, 12, 13, 14, 15, 16, 17, 18, 19, 20, 21, 22, 23] rfl [0, 1, 2, 3, 4] rfl rfl rfl hl.1 (Nat.le_of_ble_eq_true rfl) d_E_isSpan_6 ⟨Nat.zero_le _, Nat.zero_le _⟩ ?_
    have hspb : 0 ≤ (if 0 < n then (n : Int) - 1 else 0) ∧ (if 0 < n then (n : Int) - 1 else 0) ≤ 4 := by split <;> omega
    refine we_icmp_ge (tgt := 16) hx hb (by constructor <;> omega) (by constructor <;> omega) d_E_isSpan_9 rfl (fun hc9 => ?_) (fun hc9 => ?_)
    ·
      refine lv_iconst (v := eI 0) hx hb d_E_isSpan_16 rfl ?_
      have hres : (0 : Int) = (if 0 ≤ y ∧ y + 1 < n then 1 else 0) := by rw [if_neg (by first | omega | (split at hc9 <;> omega))]
      subst hQ
      exact W.zret (v := eI 0) hx hb hrt (by decide) (fun t9 ht hW => ⟨by rw [← hres], ht⟩) (fun q h => by cases h) d_E_isSpan_17
    ·
      refine lv_iconst (v := eI 1) hx hb d_E_isSpan_12 rfl ?_
      refine lv_goto (tgt := 17) hx hb d_E_isSpan_13 rfl ?_
      have hres : (1 : Int) = (if 0 ≤ y ∧ y + 1 < n then 1 else 0) := by rw [if_pos (by split at hc9 <;> omega)]
      subst hQ
      exact W.zret (v := eI 1) hx hb hrt (by decide) (fun t9 ht hW => ⟨by rw [← hres], ht⟩) (fun q h => by cases h) d_E_isSpan_17
abbrev c_E_isStation : ByteArray := prog_1_method_25_code
def y_E_isStation : MethodName := ⟨"EarthHauls", "isStation", "(I)Z"⟩
abbrev k_E_isStation : Cond := .code y_E_isStation c_E_isStation 2 (some .boolean)
theorem kin_E_isStation : k_E_isStation ∈ ew_t := tb_494
theorem dv_E_isStation : eh_dV y_E_isStation "EarthHauls" 1 := ⟨rfl, by decide, by decide, by decide +kernel⟩
theorem d_E_isStation_0 : decode c_E_isStation 0 = .ok (.iload_n 1, 1) := by decide +kernel
theorem d_E_isStation_1 : decode c_E_isStation 1 = .ok (.ifCond .lt 15, 3) := by decide +kernel
theorem d_E_isStation_4 : decode c_E_isStation 4 = .ok (.iload_n 1, 1) := by decide +kernel
theorem d_E_isStation_5 : decode c_E_isStation 5 = .ok (.aload_n 0, 1) := by decide +kernel
theorem d_E_isStation_6 : decode c_E_isStation 6 = .ok (.getfield 57, 3) := by decide +kernel
theorem d_E_isStation_9 : decode c_E_isStation 9 = .ok (.if_icmp .ge 7, 3) := by decide +kernel
theorem d_E_isStation_12 : decode c_E_isStation 12 = .ok (.iconst 1, 1) := by decide +kernel
theorem d_E_isStation_13 : decode c_E_isStation 13 = .ok (.goto 4, 3) := by decide +kernel
theorem d_E_isStation_16 : decode c_E_isStation 16 = .ok (.iconst 0, 1) := by decide +kernel
theorem d_E_isStation_17 : decode c_E_isStation 17 = .ok (.ireturn, 1) := by decide +kernel
set_option maxHeartbeats 4000000 in
set_option maxRecDepth 100000 in
theorem r_E_isStation (l : Launch) (D : va_G) (cI cL cZ cS cY : ClassId) (ad : Nat → Nat) (n : Nat) (sh ra plv pco : Int) (ln cb la : Nat → Int) (cu cl fu fl : Nat → Nat) (ys yl yp : Nat → Int) (y : Int) (h1 : -2147483648 ≤ y ∧ y < 2147483648) (hE : eh_ES n sh ra ln cb la cu cl fu fl ys yl yp) : eh_R l y_E_isStation k_E_isStation 0 0 D classes [(cI, .int), (cL, .long), (cZ, .boolean), (cS, .object "EarthHauls$Section"), (cY, .object "EarthHauls$Yard")] [.ref (ad 0), .int (eI y)] [((ad 0), .inr (4, [.ref (ad 1), .ref (ad 2), .ref (ad 3), .ref (ad 4), .ref (ad 5), .ref (ad 24), .int (eI ((n : Nat) : Int)), .int (eI sh), .int (eI ra), .int (eI plv), .long (eL pco)])), ((ad 1), .inl (cS, 5, .inr (.inr (.inr (.inr (eh_o5 (ad 6) (ad 7) (ad 8) (ad 9) (ad 10))))))), ((ad 2), aI cI 4 ln), ((ad 3), aI cZ 3 cb), ((ad 4), .inl (cY, 3, .inr (.inr (.inr (.inr (eh_o3 (ad 21) (ad 22) (ad 23))))))), ((ad 5), aI cI 30 la), ((ad 6), .inr (2, [.ref (ad 11), .ref (ad 16)])), ((ad 7), .inr (2, [.ref (ad 12), .ref (ad 17)])), ((ad 8), .inr (2, [.ref (ad 13), .ref (ad 18)])), ((ad 9), .inr (2, [.ref (ad 14), .ref (ad 19)])), ((ad 10), .inr (2, [.ref (ad 15), .ref (ad 20)])), ((ad 11), .inr (0, [.long (eL ((cu 0 : Nat) : Int)), .long (eL ((cl 0 : Nat) : Int))])), ((ad 12), .inr (0, [.long (eL ((cu 1 : Nat) : Int)), .long (eL ((cl 1 : Nat) : Int))])), ((ad 13), .inr (0, [.long (eL ((cu 2 : Nat) : Int)), .long (eL ((cl 2 : Nat) : Int))])), ((ad 14), .inr (0, [.long (eL ((cu 3 : Nat) : Int)), .long (eL ((cl 3 : Nat) : Int))])), ((ad 15), .inr (0, [.long (eL ((cu 4 : Nat) : Int)), .long (eL ((cl 4 : Nat) : Int))])), ((ad 16), .inr (0, [.long (eL ((fu 0 : Nat) : Int)), .long (eL ((fl 0 : Nat) : Int))])), ((ad 17), .inr (0, [.long (eL ((fu 1 : Nat) : Int)), .long (eL ((fl 1 : Nat) : Int))])), ((ad 18), .inr (0, [.long (eL ((fu 2 : Nat) : Int)), .long (eL ((fl 2 : Nat) : Int))])), ((ad 19), .inr (0, [.long (eL ((fu 3 : Nat) : Int)), .long (eL ((fl 3 : Nat) : Int))])), ((ad 20), .inr (0, [.long (eL ((fu 4 : Nat) : Int)), .long (eL ((fl 4 : Nat) : Int))])), ((ad 21), .inr (3, [.int (eI (ys 0)), .int (eI (yl 0)), .int (eI (yp 0))])), ((ad 22), .inr (3, [.int (eI (ys 1)), .int (eI (yl 1)), .int (eI (yp 1))])), ((ad 23), .inr (3, [.int (eI (ys 2)), .int (eI (yl 2)), .int (eI (yp 2))]))] (.int (eI (if 0 ≤ y ∧ y < n then 1 else 0))) := by
  refine Met.ofW (cc := c_E_isStation) (maxL := 2) (ret := (some .boolean)) (by decide) rfl ?_
  intro p e s m args below meth c s₁ B hml hv
  obtain ⟨hargs, hP, hK, hN⟩ := hv
  have hx := B.exec
  have hb := B.bytes
  have hrt := B.returns
  have hts := atoms_spec (ws := k_E_isStation :: ew_t) B.pre
  have htb : ∀ w ∈ ew_t, w.before args s = true := fun w h => hts w (List.mem_cons_of_mem _ h)
  have hown : s.vm.findClass "EarthHauls" = some m.cls := findClass_of_methodNamed B.named
  have hlocks := B.notSynchronized
  have hE : entryFrame m args 2 = entryFrame m ([.ref (ad 0), .int (eI y)] : List Value).toArray 2 := by rw [hargs]
  rw [hE]
  clear hE hts B hargs
  generalize hRe : (headSpec _ _).room = R
  have hR1 : R.frames = 0 := by rw [← hRe]; rfl
  have hR2 : R.locals = 0 := by rw [← hRe]; rfl
  clear hRe
  generalize hQ : MQ below _ _ s 0 0 _ = Q
  have hP : va_P D classes [((ad 0), .inr (4, [.ref (ad 1), .ref (ad 2), .ref (ad 3), .ref (ad 4), .ref (ad 5), .ref (ad 24), .int (eI ((n : Nat) : Int)), .int (eI sh), .int (eI ra), .int (eI plv), .long (eL pco)])), ((ad 1), .inl (cS, 5, .inr (.inr (.inr (.inr (eh_o5 (ad 6) (ad 7) (ad 8) (ad 9) (ad 10))))))), ((ad 2), aI cI 4 ln), ((ad 3), aI cZ 3 cb), ((ad 4), .inl (cY, 3, .inr (.inr (.inr (.inr (eh_o3 (ad 21) (ad 22) (ad 23))))))), ((ad 5), aI cI 30 la), ((ad 6), .inr (2, [.ref (ad 11), .ref (ad 16)])), ((ad 7), .inr (2, [.ref (ad 12), .ref (ad 17)])), ((ad 8), .inr (2, [.ref (ad 13), .ref (ad 18)])), ((ad 9), .inr (2, [.ref (ad 14), .ref (ad 19)])), ((ad 10), .inr (2, [.ref (ad 15), .ref (ad 20)])), ((ad 11), .inr (0, [.long (eL ((cu 0 : Nat) : Int)), .long (eL ((cl 0 : Nat) : Int))])), ((ad 12), .inr (0, [.long (eL ((cu 1 : Nat) : Int)), .long (eL ((cl 1 : Nat) : Int))])), ((ad 13), .inr (0, [.long (eL ((cu 2 : Nat) : Int)), .long (eL ((cl 2 : Nat) : Int))])), ((ad 14), .inr (0, [.long (eL ((cu 3 : Nat) : Int)), .long (eL ((cl 3 : Nat) : Int))])), ((ad 15), .inr (0, [.long (eL ((cu 4 : Nat) : Int)), .long (eL ((cl 4 : Nat) : Int))])), ((ad 16), .inr (0, [.long (eL ((fu 0 : Nat) : Int)), .long (eL ((fl 0 : Nat) : Int))])), ((ad 17), .inr (0, [.long (eL ((fu 1 : Nat) : Int)), .long (eL ((fl 1 : Nat) : Int))])), ((ad 18), .inr (0, [.long (eL ((fu 2 : Nat) : Int)), .long (eL ((fl 2 : Nat) : Int))])), ((ad 19), .inr (0, [.long (eL ((fu 3 : Nat) : Int)), .long (eL ((fl 3 : Nat) : Int))])), ((ad 20), .inr (0, [.long (eL ((fu 4 : Nat) : Int)), .long (eL ((fl 4 : Nat) : Int))])), ((ad 21), .inr (3, [.int (eI (ys 0)), .int (eI (yl 0)), .int (eI (yp 0))])), ((ad 22), .inr (3, [.int (eI (ys 1)), .int (eI (yl 1)), .int (eI (yp 1))])), ((ad 23), .inr (3, [.int (eI (ys 2)), .int (eI (yl 2)), .int (eI (yp 2))]))] s.heap := hP
  have hl := lv_entry ([.ref (ad 0), .int (eI y)]) (n := 2) (Nat.le_of_ble_eq_true rfl)
  rw [lg_entry_eq]
  generalize (lg_sl ([.ref (ad 0), .int (eI y)]) ++ List.replicate (2 - (lg_sl ([.ref (ad 0), .int (eI y)])).length) Slot.unset).toArray = ls at hl ⊢
  have hl : lv_has ls 2 [(0, .ref (ad 0)), (1, .int (eI y))] := hl
  have hn5 := hE.1
  refine lv_iload_n hx hb d_E_isStation_0 rfl (lv_at hl 1 rfl) ?_
  refine we_if_lt (tgt := 16) hx hb (by constructor <;> omega) d_E_isStation_1 rfl (fun hc1 => ?_) (fun hc1 => ?_)
  ·
    refine lv_iconst (v := eI 0) hx hb d_E_isStation_16 rfl ?_
    have hres : (0 : Int) = (if 0 ≤ y ∧ y < n then 1 else 0) := by rw [if_neg (by omega)]
    subst hQ
    exact W.zret (v := eI 0) hx hb hrt (by decide) (fun t9 ht hW => ⟨by rw [← hres], ht⟩) (fun q h => by cases h) d_E_isStation_17
  ·
    refine lv_iload_n hx hb d_E_isStation_4 rfl (lv_at hl 1 rfl) ?_
    refine lv_aload_n hx hb d_E_isStation_5 rfl (lv_at hl 0 rfl) ?_
    refine va_get (D := D) (ci := 4) (v := .int (eI ((n : Nat) : Int))) (C := R_E) (T := T_E) (N := 11) hx hb htb in_E hown hK hP 0 rfl rfl 6 (by decide) (htb _ tb_130) (fun _ h9 => h9) rfl d_E_isStation_6 ?_
    refine we_icmp_ge (tgt := 16) hx hb (by constructor <;> omega) (by constructor <;> omega) d_E_isStation_9 rfl (fun hc9 => ?_) (fun hc9 => ?_)
    ·
      refine lv_iconst (v := eI 0) hx hb d_E_isStation_16 rfl ?_
      have hres : (0 : Int) = (if 0 ≤ y ∧ y < n then 1 else 0) := by rw [if_neg (by omega)]
      subst hQ
      exact W.zret (v := eI 0) hx hb hrt (by decide) (fun t9 ht hW => ⟨by rw [← hres], ht⟩) (fun q h => by cases h) d_E_isStation_17
    ·
      refine lv_iconst (v := eI 1) hx hb d_E_isStation_12 rfl ?_
      refine lv_goto (tgt := 17) hx hb d_E_isStation_13 rfl ?_
      have hres : (1 : Int) = (if 0 ≤ y ∧ y < n then 1 else 0) := by rw [if_pos (by omega)]
      subst hQ
      exact W.zret (v := eI 1) hx hb hrt (by decide) (fun t9 ht hW => ⟨by rw [← hres], ht⟩) (fun q h => by cases h) d_E_isStation_17
abbrev c_E_isLength : ByteArray := prog_1_method_21_code
def y_E_isLength : MethodName := ⟨"EarthHauls", "isLength", "(I)Z"⟩
abbrev k_E_isLength : Cond := .code y_E_isLength c_E_isLength 2 (some .boolean)
theorem kin_E_isLength : k_E_isLength ∈ ew_t := tb_333
theorem dv_E_isLength : eh_dV y_E_isLength "EarthHauls" 1 := ⟨rfl, by decide, by decide, by decide +kernel⟩
theorem d_E_isLength_0 : decode c_E_isLength 0 = .ok (.aload_n 0, 1) := by decide +kernel
theorem d_E_isLength_1 : decode c_E_isLength 1 = .ok (.getfield 57, 3) := by decide +kernel
theorem d_E_isLength_4 : decode c_E_isLength 4 = .ok (.ifCond .ne 15, 3) := by decide +kernel
theorem d_E_isLength_7 : decode c_E_isLength 7 = .ok (.iload_n 1, 1) := by decide +kernel
theorem d_E_isLength_8 : decode c_E_isLength 8 = .ok (.ifCond .ne 7, 3) := by decide +kernel
theorem d_E_isLength_11 : decode c_E_isLength 11 = .ok (.iconst 1, 1) := by decide +kernel
theorem d_E_isLength_12 : decode c_E_isLength 12 = .ok (.goto 23, 3) := by decide +kernel
theorem d_E_isLength_15 : decode c_E_isLength 15 = .ok (.iconst 0, 1) := by decide +kernel
theorem d_E_isLength_16 : decode c_E_isLength 16 = .ok (.goto 19, 3) := by decide +kernel
theorem d_E_isLength_19 : decode c_E_isLength 19 = .ok (.iload_n 1, 1) := by decide +kernel
theorem d_E_isLength_20 : decode c_E_isLength 20 = .ok (.iconst 1, 1) := by decide +kernel
theorem d_E_isLength_21 : decode c_E_isLength 21 = .ok (.if_icmp .lt 13, 3) := by decide +kernel
theorem d_E_isLength_24 : decode c_E_isLength 24 = .ok (.iload_n 1, 1) := by decide +kernel
theorem d_E_isLength_25 : decode c_E_isLength 25 = .ok (.bipush 100, 2) := by decide +kernel
theorem d_E_isLength_27 : decode c_E_isLength 27 = .ok (.if_icmp .gt 7, 3) := by decide +kernel
theorem d_E_isLength_30 : decode c_E_isLength 30 = .ok (.iconst 1, 1) := by decide +kernel
theorem d_E_isLength_31 : decode c_E_isLength 31 = .ok (.goto 4, 3) := by decide +kernel
theorem d_E_isLength_34 : decode c_E_isLength 34 = .ok (.iconst 0, 1) := by decide +kernel
theorem d_E_isLength_35 : decode c_E_isLength 35 = .ok (.ireturn, 1) := by decide +kernel
set_option maxHeartbeats 4000000 in
set_option maxRecDepth 100000 in
theorem r_E_isLength (l : Launch) (D : va_G) (cI cL cZ cS cY : ClassId) (ad : Nat → Nat) (n : Nat) (sh ra plv pco : Int) (ln cb la : Nat → Int) (cu cl fu fl : Nat → Nat) (ys yl yp : Nat → Int) (y : Int) (h1 : -2147483648 ≤ y ∧ y < 2147483648) (hE : eh_ES n sh ra ln cb la cu cl fu fl ys yl yp) : eh_R l y_E_isLength k_E_isLength 0 0 D classes [(cI, .int), (cL, .long), (cZ, .boolean), (cS, .object "EarthHauls$Section"), (cY, .object "EarthHauls$Yard")] [.ref (ad 0), .int (eI y)] [((ad 0), .inr (4, [.ref (ad 1), .ref (ad 2), .ref (ad 3), .ref (ad 4), .ref (ad 5), .ref (ad 24), .int (eI ((n : Nat) : Int)), .int (eI sh), .int (eI ra), .int (eI plv), .long (eL pco)])), ((ad 1), .inl (cS, 5, .inr (.inr (.inr (.inr (eh_o5 (ad 6) (ad 7) (ad 8) (ad 9) (ad 10))))))), ((ad 2), aI cI 4 ln), ((ad 3), aI cZ 3 cb), ((ad 4), .inl (cY, 3, .inr (.inr (.inr (.inr (eh_o3 (ad 21) (ad 22) (ad 23))))))), ((ad 5), aI cI 30 la), ((ad 6), .inr (2, [.ref (ad 11), .ref (ad 16)])), ((ad 7), .inr (2, [.ref (ad 12), .ref (ad 17)])), ((ad 8), .inr (2, [.ref (ad 13), .ref (ad 18)])), ((ad 9), .inr (2, [.ref (ad 14), .ref (ad 19)])), ((ad 10), .inr (2, [.ref (ad 15), .ref (ad 20)])), ((ad 11), .inr (0, [.long (eL ((cu 0 : Nat) : Int)), .long (eL ((cl 0 : Nat) : Int))])), ((ad 12), .inr (0, [.long (eL ((cu 1 : Nat) : Int)), .long (eL ((cl 1 : Nat) : Int))])), ((ad 13), .inr (0, [.long (eL ((cu 2 : Nat) : Int)), .long (eL ((cl 2 : Nat) : Int))])), ((ad 14), .inr (0, [.long (eL ((cu 3 : Nat) : Int)), .long (eL ((cl 3 : Nat) : Int))])), ((ad 15), .inr (0, [.long (eL ((cu 4 : Nat) : Int)), .long (eL ((cl 4 : Nat) : Int))])), ((ad 16), .inr (0, [.long (eL ((fu 0 : Nat) : Int)), .long (eL ((fl 0 : Nat) : Int))])), ((ad 17), .inr (0, [.long (eL ((fu 1 : Nat) : Int)), .long (eL ((fl 1 : Nat) : Int))])), ((ad 18), .inr (0, [.long (eL ((fu 2 : Nat) : Int)), .long (eL ((fl 2 : Nat) : Int))])), ((ad 19), .inr (0, [.long (eL ((fu 3 : Nat) : Int)), .long (eL ((fl 3 : Nat) : Int))])), ((ad 20), .inr (0, [.long (eL ((fu 4 : Nat) : Int)), .long (eL ((fl 4 : Nat) : Int))])), ((ad 21), .inr (3, [.int (eI (ys 0)), .int (eI (yl 0)), .int (eI (yp 0))])), ((ad 22), .inr (3, [.int (eI (ys 1)), .int (eI (yl 1)), .int (eI (yp 1))])), ((ad 23), .inr (3, [.int (eI (ys 2)), .int (eI (yl 2)), .int (eI (yp 2))]))] (.int (eI (if n = 0 then (if y = 0 then 1 else 0) else if 1 ≤ y ∧ y ≤ 100 then 1 else 0))) := by
  refine Met.ofW (cc := c_E_isLength) (maxL := 2) (ret := (some .boolean)) (by decide) rfl ?_
  intro p e s m args below meth c s₁ B hml hv
  obtain ⟨hargs, hP, hK, hN⟩ := hv
  have hx := B.exec
  have hb := B.bytes
  have hrt := B.returns
  have hts := atoms_spec (ws := k_E_isLength :: ew_t) B.pre
  have htb : ∀ w ∈ ew_t, w.before args s = true := fun w h => hts w (List.mem_cons_of_mem _ h)
  have hown : s.vm.findClass "EarthHauls" = some m.cls := findClass_of_methodNamed B.named
  have hlocks := B.notSynchronized
  have hE : entryFrame m args 2 = entryFrame m ([.ref (ad 0), .int (eI y)] : List Value).toArray 2 := by rw [hargs]
  rw [hE]
  clear hE hts B hargs
  generalize hRe : (headSpec _ _).room = R
  have hR1 : R.frames = 0 := by rw [← hRe]; rfl
  have hR2 : R.locals = 0 := by rw [← hRe]; rfl
  clear hRe
  generalize hQ : MQ below _ _ s 0 0 _ = Q
  have hP : va_P D classes [((ad 0), .inr (4, [.ref (ad 1), .ref (ad 2), .ref (ad 3), .ref (ad 4), .ref (ad 5), .ref (ad 24), .int (eI ((n : Nat) : Int)), .int (eI sh), .int (eI ra), .int (eI plv), .long (eL pco)])), ((ad 1), .inl (cS, 5, .inr (.inr (.inr (.inr (eh_o5 (ad 6) (ad 7) (ad 8) (ad 9) (ad 10))))))), ((ad 2), aI cI 4 ln), ((ad 3), aI cZ 3 cb), ((ad 4), .inl (cY, 3, .inr (.inr (.inr (.inr (eh_o3 (ad 21) (ad 22) (ad 23))))))), ((ad 5), aI cI 30 la), ((ad 6), .inr (2, [.ref (ad 11), .ref (ad 16)])), ((ad 7), .inr (2, [.ref (ad 12), .ref (ad 17)])), ((ad 8), .inr (2, [.ref (ad 13), .ref (ad 18)])), ((ad 9), .inr (2, [.ref (ad 14), .ref (ad 19)])), ((ad 10), .inr (2, [.ref (ad 15), .ref (ad 20)])), ((ad 11), .inr (0, [.long (eL ((cu 0 : Nat) : Int)), .long (eL ((cl 0 : Nat) : Int))])), ((ad 12), .inr (0, [.long (eL ((cu 1 : Nat) : Int)), .long (eL ((cl 1 : Nat) : Int))])), ((ad 13), .inr (0, [.long (eL ((cu 2 : Nat) : Int)), .long (eL ((cl 2 : Nat) : Int))])), ((ad 14), .inr (0, [.long (eL ((cu 3 : Nat) : Int)), .long (eL ((cl 3 : Nat) : Int))])), ((ad 15), .inr (0, [.long (eL ((cu 4 : Nat) : Int)), .long (eL ((cl 4 : Nat) : Int))])), ((ad 16), .inr (0, [.long (eL ((fu 0 : Nat) : Int)), .long (eL ((fl 0 : Nat) : Int))])), ((ad 17), .inr (0, [.long (eL ((fu 1 : Nat) : Int)), .long (eL ((fl 1 : Nat) : Int))])), ((ad 18), .inr (0, [.long (eL ((fu 2 : Nat) : Int)), .long (eL ((fl 2 : Nat) : Int))])), ((ad 19), .inr (0, [.long (eL ((fu 3 : Nat) : Int)), .long (eL ((fl 3 : Nat) : Int))])), ((ad 20), .inr (0, [.long (eL ((fu 4 : Nat) : Int)), .long (eL ((fl 4 : Nat) : Int))])), ((ad 21), .inr (3, [.int (eI (ys 0)), .int (eI (yl 0)), .int (eI (yp 0))])), ((ad 22), .inr (3, [.int (eI (ys 1)), .int (eI (yl 1)), .int (eI (yp 1))])), ((ad 23), .inr (3, [.int (eI (ys 2)), .int (eI (yl 2)), .int (eI (yp 2))]))] s.heap := hP
  have hl := lv_entry ([.ref (ad 0), .int (eI y)]) (n := 2) (Nat.le_of_ble_eq_true rfl)
  rw [lg_entry_eq]
  generalize (lg_sl ([.ref (ad 0), .int (eI y)]) ++ List.replicate (2 - (lg_sl ([.ref (ad 0), .int (eI y)])).length) Slot.unset).toArray = ls at hl ⊢
  have hl : lv_has ls 2 [(0, .ref (ad 0)), (1, .int (eI y))] := hl
  have hn5 := hE.1
  refine lv_aload_n hx hb d_E_isLength_0 rfl (lv_at hl 0 rfl) ?_
  refine va_get (D := D) (ci := 4) (v := .int (eI ((n : Nat) : Int))) (C := R_E) (T := T_E) (N := 11) hx hb htb in_E hown hK hP 0 rfl rfl 6 (by decide) (htb _ tb_130) (fun _ h9 => h9) rfl d_E_isLength_1 ?_
  refine we_if_ne (tgt := 19) hx hb (by constructor <;> omega) d_E_isLength_4 rfl (fun hc4 => ?_) (fun hc4 => ?_)
  ·
    refine lv_iload_n hx hb d_E_isLength_19 rfl (lv_at hl 1 rfl) ?_
    refine lv_iconst (v := eI 1) hx hb d_E_isLength_20 rfl ?_
    refine we_icmp_lt (tgt := 34) hx hb (by constructor <;> omega) (by constructor <;> omega) d_E_isLength_21 rfl (fun hc21 => ?_) (fun hc21 => ?_)
    ·
      refine lv_iconst (v := eI 0) hx hb d_E_isLength_34 rfl ?_
      have hres : (0 : Int) = (if n = 0 then (if y = 0 then 1 else 0) else if 1 ≤ y ∧ y ≤ 100 then 1 else 0) := by
        by_cases h0 : n = 0
        · rw [if_pos h0]; first | omega | (split <;> omega)
        · rw [if_neg h0]; first | omega | (split <;> omega)
      subst hQ
      exact W.zret (v := eI 0) hx hb hrt (by decide) (fun t9 ht hW => ⟨by rw [← hres], ht⟩) (fun q h => by cases h) d_E_isLength_35
    ·
      refine lv_iload_n hx hb d_E_isLength_24 rfl (lv_at hl 1 rfl) ?_
      refine lv_bipush (v := eI 100) hx hb d_E_isLength_25 (by decide) ?_
      refine we_icmp_gt (tgt := 34) hx hb (by constructor <;> omega) (by constructor <;> omega) d_E_isLength_27 rfl (fun hc27 => ?_) (fun hc27 => ?_)
      ·
        refine lv_iconst (v := eI 0) hx hb d_E_isLength_34 rfl ?_
        have hres : (0 : Int) = (if n = 0 then (if y = 0 then 1 else 0) else if 1 ≤ y ∧ y ≤ 100 then 1 else 0) := by
          by_cases h0 : n = 0
          · rw [if_pos h0]; first | omega | (split <;> omega)
          · rw [if_neg h0]; first | omega | (split <;> omega)
        subst hQ
        exact W.zret (v := eI 0) hx hb hrt (by decide) (fun t9 ht hW => ⟨by rw [← hres], ht⟩) (fun q h => by cases h) d_E_isLength_35
      ·
        refine lv_iconst (v := eI 1) hx hb d_E_isLength_30 rfl ?_
        refine lv_goto (tgt := 35) hx hb d_E_isLength_31 rfl ?_
        have hres : (1 : Int) = (if n = 0 then (if y = 0 then 1 else 0) else if 1 ≤ y ∧ y ≤ 100 then 1 else 0) := by
          by_cases h0 : n = 0
          · rw [if_pos h0]; first | omega | (split <;> omega)
          · rw [if_neg h0]; first | omega | (split <;> omega)
        subst hQ
        exact W.zret (v := eI 1) hx hb hrt (by decide) (fun t9 ht hW => ⟨by rw [← hres], ht⟩) (fun q h => by cases h) d_E_isLength_35
  ·
    refine lv_iload_n hx hb d_E_isLength_7 rfl (lv_at hl 1 rfl) ?_
    refine we_if_ne (tgt := 15) hx hb (by constructor <;> omega) d_E_isLength_8 rfl (fun hc8 => ?_) (fun hc8 => ?_)
    ·
      refine lv_iconst (v := eI 0) hx hb d_E_isLength_15 rfl ?_
      refine lv_goto (tgt := 35) hx hb d_E_isLength_16 rfl ?_
      have hres : (0 : Int) = (if n = 0 then (if y = 0 then 1 else 0) else if 1 ≤ y ∧ y ≤ 100 then 1 else 0) := by
        by_cases h0 : n = 0
        · rw [if_pos h0]; first | omega | (split <;> omega)
        · rw [if_neg h0]; first | omega | (split <;> omega)
      subst hQ
      exact W.zret (v := eI 0) hx hb hrt (by decide) (fun t9 ht hW => ⟨by rw [← hres], ht⟩) (fun q h => by cases h) d_E_isLength_35
    ·
      refine lv_iconst (v := eI 1) hx hb d_E_isLength_11 rfl ?_
      refine lv_goto (tgt := 35) hx hb d_E_isLength_12 rfl ?_
      have hres : (1 : Int) = (if n = 0 then (if y = 0 then 1 else 0) else if 1 ≤ y ∧ y ≤ 100 then 1 else 0) := by
        by_cases h0 : n = 0
        · rw [if_pos h0]; first | omega | (split <;> omega)
        · rw [if_neg h0]; first | omega | (split <;> omega)
      subst hQ
      exact W.zret (v := eI 1) hx hb hrt (by decide) (fun t9 ht hW => ⟨by rw [← hres], ht⟩) (fun q h => by cases h) d_E_isLength_35
abbrev c_E_roundedLitres : ByteArray := prog_1_method_37_code
def y_E_roundedLitres : MethodName := ⟨"EarthHauls", "roundedLitres", "(LEarthHauls$Fraction;LEarthHauls$Fraction;I)I"⟩
abbrev k_E_roundedLitres : Cond := .code y_E_roundedLitres c_E_roundedLitres 7 (some .int)
theorem kin_E_roundedLitres : k_E_roundedLitres ∈ ew_t := tb_176
theorem dv_E_roundedLitres : eh_dS y_E_roundedLitres 3 := ⟨by decide, by decide, by decide +kernel⟩
theorem d_E_roundedLitres_0 : decode c_E_roundedLitres 0 = .ok (.aload_n 0, 1) := by decide +kernel
theorem d_E_roundedLitres_1 : decode c_E_roundedLitres 1 = .ok (.getfield 102, 3) := by decide +kernel
theorem d_E_roundedLitres_4 : decode c_E_roundedLitres 4 = .ok (.aload_n 1, 1) := by decide +kernel
theorem d_E_roundedLitres_5 : decode c_E_roundedLitres 5 = .ok (.getfield 108, 3) := by decide +kernel
theorem d_E_roundedLitres_8 : decode c_E_roundedLitres 8 = .ok (.lmul, 1) := by decide +kernel
theorem d_E_roundedLitres_9 : decode c_E_roundedLitres 9 = .ok (.aload_n 1, 1) := by decide +kernel
theorem d_E_roundedLitres_10 : decode c_E_roundedLitres 10 = .ok (.getfield 102, 3) := by decide +kernel
theorem d_E_roundedLitres_13 : decode c_E_roundedLitres 13 = .ok (.aload_n 0, 1) := by decide +kernel
theorem d_E_roundedLitres_14 : decode c_E_roundedLitres 14 = .ok (.getfield 108, 3) := by decide +kernel
theorem d_E_roundedLitres_17 : decode c_E_roundedLitres 17 = .ok (.lmul, 1) := by decide +kernel
theorem d_E_roundedLitres_18 : decode c_E_roundedLitres 18 = .ok (.ladd, 1) := by decide +kernel
theorem d_E_roundedLitres_19 : decode c_E_roundedLitres 19 = .ok (.iload_n 2, 1) := by decide +kernel
theorem d_E_roundedLitres_20 : decode c_E_roundedLitres 20 = .ok (.i2l, 1) := by decide +kernel
theorem d_E_roundedLitres_21 : decode c_E_roundedLitres 21 = .ok (.lmul, 1) := by decide +kernel
theorem d_E_roundedLitres_22 : decode c_E_roundedLitres 22 = .ok (.ldc2_w 200, 3) := by decide +kernel
theorem d_E_roundedLitres_25 : decode c_E_roundedLitres 25 = .ok (.lmul, 1) := by decide +kernel
theorem d_E_roundedLitres_26 : decode c_E_roundedLitres 26 = .ok (.lstore_n 3, 1) := by decide +kernel
theorem d_E_roundedLitres_27 : decode c_E_roundedLitres 27 = .ok (.aload_n 0, 1) := by decide +kernel
theorem d_E_roundedLitres_28 : decode c_E_roundedLitres 28 = .ok (.getfield 108, 3) := by decide +kernel
theorem d_E_roundedLitres_31 : decode c_E_roundedLitres 31 = .ok (.aload_n 1, 1) := by decide +kernel
theorem d_E_roundedLitres_32 : decode c_E_roundedLitres 32 = .ok (.getfield 108, 3) := by decide +kernel
theorem d_E_roundedLitres_35 : decode c_E_roundedLitres 35 = .ok (.lmul, 1) := by decide +kernel
theorem d_E_roundedLitres_36 : decode c_E_roundedLitres 36 = .ok (.lstore 5, 2) := by decide +kernel
theorem d_E_roundedLitres_38 : decode c_E_roundedLitres 38 = .ok (.lload_n 3, 1) := by decide +kernel
theorem d_E_roundedLitres_39 : decode c_E_roundedLitres 39 = .ok (.lload 5, 2) := by decide +kernel
theorem d_E_roundedLitres_41 : decode c_E_roundedLitres 41 = .ok (.ladd, 1) := by decide +kernel
theorem d_E_roundedLitres_42 : decode c_E_roundedLitres 42 = .ok (.ldc2_w 202, 3) := by decide +kernel
theorem d_E_roundedLitres_45 : decode c_E_roundedLitres 45 = .ok (.lload 5, 2) := by decide +kernel
theorem d_E_roundedLitres_47 : decode c_E_roundedLitres 47 = .ok (.lmul, 1) := by decide +kernel
theorem d_E_roundedLitres_48 : decode c_E_roundedLitres 48 = .ok (.ldiv, 1) := by decide +kernel
theorem d_E_roundedLitres_49 : decode c_E_roundedLitres 49 = .ok (.l2i, 1) := by decide +kernel
theorem d_E_roundedLitres_50 : decode c_E_roundedLitres 50 = .ok (.ireturn, 1) := by decide +kernel
set_option maxHeartbeats 4000000 in
set_option maxRecDepth 100000 in
theorem r_E_roundedLitres (l : Launch) (D : va_G) (f1 f2 u1 v1 u2 v2 : Nat) (len : Int) (hf1 : eh_FS u1 v1) (hf2 : eh_FS u2 v2) (hlen : 0 ≤ len ∧ len ≤ 100) : eh_R l y_E_roundedLitres k_E_roundedLitres 0 0 D classes [] [.ref f1, .ref f2, .int (eI len)] [(f1, .inr (0, [.long (eL (u1 : Int)), .long (eL (v1 : Int))])), (f2, .inr (0, [.long (eL (u2 : Int)), .long (eL (v2 : Int))]))] (.int (eI (eh_lt u1 v1 u2 v2 len))) := by
  refine Met.ofW (cc := c_E_roundedLitres) (maxL := 7) (ret := (some .int)) (by decide) rfl ?_
  intro p e s m args below meth c s₁ B hml hv
  obtain ⟨hargs, hP, hK, hN⟩ := hv
  have hx := B.exec
  have hb := B.bytes
  have hrt := B.returns
  have hts := atoms_spec (ws := k_E_roundedLitres :: ew_t) B.pre
  have htb : ∀ w ∈ ew_t, w.before args s = true := fun w h => hts w (List.mem_cons_of_mem _ h)
  have hown : s.vm.findClass "EarthHauls" = some m.cls := findClass_of_methodNamed B.named
  have hlocks := B.notSynchronized
  have hE : entryFrame m args 7 = entryFrame m ([.ref f1, .ref f2, .int (eI len)] : List Value).toArray 7 := by rw [hargs]
  rw [hE]
  clear hE hts B hargs
  generalize hRe : (headSpec _ _).room = R
  have hR1 : R.frames = 0 := by rw [← hRe]; rfl
  have hR2 : R.locals = 0 := by rw [← hRe]; rfl
  clear hRe
  generalize hQ : MQ below _ _ s 0 0 _ = Q
  have hP : va_P D classes [(f1, .inr (0, [.long (eL (u1 : Int)), .long (eL (v1 : Int))])), (f2, .inr (0, [.long (eL (u2 : Int)), .long (eL (v2 : Int))]))] s.heap := hP
  have hl := lv_entry ([.ref f1, .ref f2, .int (eI len)]) (n := 7) (Nat.le_of_ble_eq_true rfl)
  rw [lg_entry_eq]
  generalize (lg_sl ([.ref f1, .ref f2, .int (eI len)]) ++ List.replicate (7 - (lg_sl ([.ref f1, .ref f2, .int (eI len)])).length) Slot.unset).toArray = ls at hl ⊢
  have hl : lv_has ls 7 [(0, .ref f1), (1, .ref f2), (2, .int (eI len))] := hl
  obtain ⟨⟨b1, b2⟩, ⟨b3, b4⟩, b5⟩ := eh_lt_b hf1 hf2 hlen
  refine lv_aload_n hx hb d_E_roundedLitres_0 rfl (lv_at hl 0 rfl) ?_
  refine va_get (D := D) (ci := 0) (v := .long (eL (u1 : Int))) (C := R_F) (T := T_F) (N := 2) hx hb htb in_F hown hK hP 0 rfl rfl 0 (by decide) (htb _ tb_73) (fun _ h9 => h9) rfl d_E_roundedLitres_1 ?_
  refine lv_aload_n hx hb d_E_roundedLitres_4 rfl (lv_at hl 1 rfl) ?_
  refine va_get (D := D) (ci := 0) (v := .long (eL (v2 : Int))) (C := R_F) (T := T_F) (N := 2) hx hb htb in_F hown hK hP 1 rfl rfl 1 (by decide) (htb _ tb_75) (fun _ h9 => h9) rfl d_E_roundedLitres_5 ?_
  refine we_lmul hx hb d_E_roundedLitres_8 ?_
  refine lv_aload_n hx hb d_E_roundedLitres_9 rfl (lv_at hl 1 rfl) ?_
  refine va_get (D := D) (ci := 0) (v := .long (eL (u2 : Int))) (C := R_F) (T := T_F) (N := 2) hx hb htb in_F hown hK hP 1 rfl rfl 0 (by decide) (htb _ tb_73) (fun _ h9 => h9) rfl d_E_roundedLitres_10 ?_
  refine lv_aload_n hx hb d_E_roundedLitres_13 rfl (lv_at hl 0 rfl) ?_
  refine va_get (D := D) (ci := 0) (v := .long (eL (v1 : Int))) (C := R_F) (T := T_F) (N := 2) hx hb htb in_F hown hK hP 0 rfl rfl 1 (by decide) (htb _ tb_75) (fun _ h9 => h9) rfl d_E_roundedLitres_14 ?_
  refine we_lmul hx hb d_E_roundedLitres_17 ?_
  refine we_ladd hx hb d_E_roundedLitres_18 ?_
  refine lv_iload_n hx hb d_E_roundedLitres_19 rfl (lv_at hl 2 rfl) ?_
  refine we_i2l hx hb (by constructor <;> omega) d_E_roundedLitres_20 ?_
  refine we_lmul hx hb d_E_roundedLitres_21 ?_
  refine we_ldc2 (a := 5) hx hb hown (htb _ tb_177) (by decide) d_E_roundedLitres_22 ?_
  refine we_lmul hx hb d_E_roundedLitres_25 ?_
  refine lv_lstore_n hx hb d_E_roundedLitres_26 rfl hl (by decide) rfl (fun ls hl => ?_)
  have hl : lv_has ls 7 [(3, .long (eL (((((u1 : Int) * (v2 : Int)) + ((u2 : Int) * (v1 : Int))) * len) * 5))), (0, .ref f1), (1, .ref f2), (2, .int (eI len))] := hl
  refine lv_aload_n hx hb d_E_roundedLitres_27 rfl (lv_at hl 1 rfl) ?_
  refine va_get (D := D) (ci := 0) (v := .long (eL (v1 : Int))) (C := R_F) (T := T_F) (N := 2) hx hb htb in_F hown hK hP 0 rfl rfl 1 (by decide) (htb _ tb_75) (fun _ h9 => h9) rfl d_E_roundedLitres_28 ?_
  refine lv_aload_n hx hb d_E_roundedLitres_31 rfl (lv_at hl 2 rfl) ?_
  refine va_get (D := D) (ci := 0) (v := .long (eL (v2 : Int))) (C := R_F) (T := T_F) (N := 2) hx hb htb in_F hown hK hP 1 rfl rfl 1 (by decide) (htb _ tb_75) (fun _ h9 => h9) rfl d_E_roundedLitres_32 ?_
  refine we_lmul hx hb d_E_roundedLitres_35 ?_
  refine lv_lstore hx hb d_E_roundedLitres_36 hl (by decide) rfl (fun ls hl => ?_)
  have hl : lv_has ls 7 [(5, .long (eL ((v1 : Int) * (v2 : Int)))), (3, .long (eL (((((u1 : Int) * (v2 : Int)) + ((u2 : Int) * (v1 : Int))) * len) * 5))), (0, .ref f1), (1, .ref f2), (2, .int (eI len))] := hl
  refine lv_lload_n hx hb d_E_roundedLitres_38 rfl (lv_at hl 1 rfl) ?_
  refine lv_lload hx hb d_E_roundedLitres_39 (lv_at hl 0 rfl) ?_
  refine we_ladd hx hb d_E_roundedLitres_41 ?_
  refine we_ldc2 (a := 2) hx hb hown (htb _ tb_178) (by decide) d_E_roundedLitres_42 ?_
  refine lv_lload hx hb d_E_roundedLitres_45 (lv_at hl 0 rfl) ?_
  refine we_lmul hx hb d_E_roundedLitres_47 ?_
  refine we_ldiv hx hb (by constructor <;> omega) (by constructor <;> omega) (by omega) (by omega) d_E_roundedLitres_48 ?_
  refine we_l2i hx hb d_E_roundedLitres_49 ?_
  have hres : (((((((u1 : Int) * (v2 : Int)) + ((u2 : Int) * (v1 : Int))) * len) * 5) + ((v1 : Int) * (v2 : Int))) / (2 * ((v1 : Int) * (v2 : Int)))) = (eh_lt u1 v1 u2 v2 len) := rfl
  rw [hres]
  subst hQ
  exact W.iret hx hb hrt (fun t9 ht hW => ⟨rfl, ht⟩) (fun q h => by cases h) d_E_roundedLitres_50
abbrev c_E_cutOf : ByteArray := prog_1_method_34_code
def y_E_cutOf : MethodName := ⟨"EarthHauls", "cutOf", "(I)I"⟩
abbrev k_E_cutOf : Cond := .code y_E_cutOf c_E_cutOf 2 (some .int)
theorem kin_E_cutOf : k_E_cutOf ∈ ew_t := tb_173
theorem dv_E_cutOf : eh_dV y_E_cutOf "EarthHauls" 1 := ⟨rfl, by decide, by decide, by decide +kernel⟩
theorem d_E_cutOf_0 : decode c_E_cutOf 0 = .ok (.aload_n 0, 1) := by decide +kernel
theorem d_E_cutOf_1 : decode c_E_cutOf 1 = .ok (.getfield 11, 3) := by decide +kernel
theorem d_E_cutOf_4 : decode c_E_cutOf 4 = .ok (.iload_n 1, 1) := by decide +kernel
theorem d_E_cutOf_5 : decode c_E_cutOf 5 = .ok (.aaload, 1) := by decide +kernel
theorem d_E_cutOf_6 : decode c_E_cutOf 6 = .ok (.getfield 98, 3) := by decide +kernel
theorem d_E_cutOf_9 : decode c_E_cutOf 9 = .ok (.aload_n 0, 1) := by decide +kernel
theorem d_E_cutOf_10 : decode c_E_cutOf 10 = .ok (.getfield 11, 3) := by decide +kernel
theorem d_E_cutOf_13 : decode c_E_cutOf 13 = .ok (.iload_n 1, 1) := by decide +kernel
theorem d_E_cutOf_14 : decode c_E_cutOf 14 = .ok (.iconst 1, 1) := by decide +kernel
theorem d_E_cutOf_15 : decode c_E_cutOf 15 = .ok (.iadd, 1) := by decide +kernel
theorem d_E_cutOf_16 : decode c_E_cutOf 16 = .ok (.aaload, 1) := by decide +kernel
theorem d_E_cutOf_17 : decode c_E_cutOf 17 = .ok (.getfield 98, 3) := by decide +kernel
theorem d_E_cutOf_20 : decode c_E_cutOf 20 = .ok (.aload_n 0, 1) := by decide +kernel
theorem d_E_cutOf_21 : decode c_E_cutOf 21 = .ok (.getfield 15, 3) := by decide +kernel
theorem d_E_cutOf_24 : decode c_E_cutOf 24 = .ok (.iload_n 1, 1) := by decide +kernel
theorem d_E_cutOf_25 : decode c_E_cutOf 25 = .ok (.iaload, 1) := by decide +kernel
theorem d_E_cutOf_26 : decode c_E_cutOf 26 = .ok (.invokestatic 194, 3) := by decide +kernel
theorem d_E_cutOf_29 : decode c_E_cutOf 29 = .ok (.ireturn, 1) := by decide +kernel
set_option maxHeartbeats 4000000 in
set_option maxRecDepth 100000 in
theorem r_E_cutOf (l : Launch) (D : va_G) (cI cL cZ cS cY : ClassId) (ad : Nat → Nat) (n : Nat) (sh ra plv pco : Int) (ln cb la : Nat → Int) (cu cl fu fl : Nat → Nat) (ys yl yp : Nat → Int) (k : Nat) (hk : k + 1 < n) (hE : eh_ES n sh ra ln cb la cu cl fu fl ys yl yp) : eh_R l y_E_cutOf k_E_cutOf 1 26 D classes [(cI, .int), (cL, .long), (cZ, .boolean), (cS, .object "EarthHauls$Section"), (cY, .object "EarthHauls$Yard")] [.ref (ad 0), .int (eI ((k : Nat) : Int))] [((ad 0), .inr (4, [.ref (ad 1), .ref (ad 2), .ref (ad 3), .ref (ad 4), .ref (ad 5), .ref (ad 24), .int (eI ((n : Nat) : Int)), .int (eI sh), .int (eI ra), .int (eI plv), .long (eL pco)])), ((ad 1), .inl (cS, 5, .inr (.inr (.inr (.inr (eh_o5 (ad 6) (ad 7) (ad 8) (ad 9) (ad 10))))))), ((ad 2), aI cI 4 ln), ((ad 3), aI cZ 3 cb), ((ad 4), .inl (cY, 3, .inr (.inr (.inr (.inr (eh_o3 (ad 21) (ad 22) (ad 23))))))), ((ad 5), aI cI 30 la), ((ad 6), .inr (2, [.ref (ad 11), .ref (ad 16)])), ((ad 7), .inr (2, [.ref (ad 12), .ref (ad 17)])), ((ad 8), .inr (2, [.ref (ad 13), .ref (ad 18)])), ((ad 9), .inr (2, [.ref (ad 14), .ref (ad 19)])), ((ad 10), .inr (2, [.ref (ad 15), .ref (ad 20)])), ((ad 11), .inr (0, [.long (eL ((cu 0 : Nat) : Int)), .long (eL ((cl 0 : Nat) : Int))])), ((ad 12), .inr (0, [.long (eL ((cu 1 : Nat) : Int)), .long (eL ((cl 1 : Nat) : Int))])), ((ad 13), .inr (0, [.long (eL ((cu 2 : Nat) : Int)), .long (eL ((cl 2 : Nat) : Int))])), ((ad 14), .inr (0, [.long (eL ((cu 3 : Nat) : Int)), .long (eL ((cl 3 : Nat) : Int))])), ((ad 15), .inr (0, [.long (eL ((cu 4 : Nat) : Int)), .long (eL ((cl 4 : Nat) : Int))])), ((ad 16), .inr (0, [.long (eL ((fu 0 : Nat) : Int)), .long (eL ((fl 0 : Nat) : Int))])), ((ad 17), .inr (0, [.long (eL ((fu 1 : Nat) : Int)), .long (eL ((fl 1 : Nat) : Int))])), ((ad 18), .inr (0, [.long (eL ((fu 2 : Nat) : Int)), .long (eL ((fl 2 : Nat) : Int))])), ((ad 19), .inr (0, [.long (eL ((fu 3 : Nat) : Int)), .long (eL ((fl 3 : Nat) : Int))])), ((ad 20), .inr (0, [.long (eL ((fu 4 : Nat) : Int)), .long (eL ((fl 4 : Nat) : Int))])), ((ad 21), .inr (3, [.int (eI (ys 0)), .int (eI (yl 0)), .int (eI (yp 0))])), ((ad 22), .inr (3, [.int (eI (ys 1)), .int (eI (yl 1)), .int (eI (yp 1))])), ((ad 23), .inr (3, [.int (eI (ys 2)), .int (eI (yl 2)), .int (eI (yp 2))]))] (.int (eI (eh_kut cu cl ln k))) := by
  refine Met.ofW (cc := c_E_cutOf) (maxL := 2) (ret := (some .int)) (by decide) rfl ?_
  intro p e s m args below meth c s₁ B hml hv
  obtain ⟨hargs, hP, hK, hN⟩ := hv
  have hx := B.exec
  have hb := B.bytes
  have hrt := B.returns
  have hts := atoms_spec (ws := k_E_cutOf :: ew_t) B.pre
  have htb : ∀ w ∈ ew_t, w.before args s = true := fun w h => hts w (List.mem_cons_of_mem _ h)
  have hown : s.vm.findClass "EarthHauls" = some m.cls := findClass_of_methodNamed B.named
  have hlocks := B.notSynchronized
  have hE : entryFrame m args 2 = entryFrame m ([.ref (ad 0), .int (eI ((k : Nat) : Int))] : List Value).toArray 2 := by rw [hargs]
  rw [hE]
  clear hE hts B hargs
  generalize hRe : (headSpec _ _).room = R
  have hR1 : R.frames = 1 := by rw [← hRe]; rfl
  have hR2 : R.locals = 26 := by rw [← hRe]; rfl
  clear hRe
  generalize hQ : MQ below _ _ s 0 0 _ = Q
  have hP : va_P D classes [((ad 0), .inr (4, [.ref (ad 1), .ref (ad 2), .ref (ad 3), .ref (ad 4), .ref (ad 5), .ref (ad 24), .int (eI ((n : Nat) : Int)), .int (eI sh), .int (eI ra), .int (eI plv), .long (eL pco)])), ((ad 1), .inl (cS, 5, .inr (.inr (.inr (.inr (eh_o5 (ad 6) (ad 7) (ad 8) (ad 9) (ad 10))))))), ((ad 2), aI cI 4 ln), ((ad 3), aI cZ 3 cb), ((ad 4), .inl (cY, 3, .inr (.inr (.inr (.inr (eh_o3 (ad 21) (ad 22) (ad 23))))))), ((ad 5), aI cI 30 la), ((ad 6), .inr (2, [.ref (ad 11), .ref (ad 16)])), ((ad 7), .inr (2, [.ref (ad 12), .ref (ad 17)])), ((ad 8), .inr (2, [.ref (ad 13), .ref (ad 18)])), ((ad 9), .inr (2, [.ref (ad 14), .ref (ad 19)])), ((ad 10), .inr (2, [.ref (ad 15), .ref (ad 20)])), ((ad 11), .inr (0, [.long (eL ((cu 0 : Nat) : Int)), .long (eL ((cl 0 : Nat) : Int))])), ((ad 12), .inr (0, [.long (eL ((cu 1 : Nat) : Int)), .long (eL ((cl 1 : Nat) : Int))])), ((ad 13), .inr (0, [.long (eL ((cu 2 : Nat) : Int)), .long (eL ((cl 2 : Nat) : Int))])), ((ad 14), .inr (0, [.long (eL ((cu 3 : Nat) : Int)), .long (eL ((cl 3 : Nat) : Int))])), ((ad 15), .inr (0, [.long (eL ((cu 4 : Nat) : Int)), .long (eL ((cl 4 : Nat) : Int))])), ((ad 16), .inr (0, [.long (eL ((fu 0 : Nat) : Int)), .long (eL ((fl 0 : Nat) : Int))])), ((ad 17), .inr (0, [.long (eL ((fu 1 : Nat) : Int)), .long (eL ((fl 1 : Nat) : Int))])), ((ad 18), .inr (0, [.long (eL ((fu 2 : Nat) : Int)), .long (eL ((fl 2 : Nat) : Int))])), ((ad 19), .inr (0, [.long (eL ((fu 3 : Nat) : Int)), .long (eL ((fl 3 : Nat) : Int))])), ((ad 20), .inr (0, [.long (eL ((fu 4 : Nat) : Int)), .long (eL ((fl 4 : Nat) : Int))])), ((ad 21), .inr (3, [.int (eI (ys 0)), .int (eI (yl 0)), .int (eI (yp 0))])), ((ad 22), .inr (3, [.int (eI (ys 1)), .int (eI (yl 1)), .int (eI (yp 1))])), ((ad 23), .inr (3, [.int (eI (ys 2)), .int (eI (yl 2)), .int (eI (yp 2))]))] s.heap := hP
  have hl := lv_entry ([.ref (ad 0), .int (eI ((k : Nat) : Int))]) (n := 2) (Nat.le_of_ble_eq_true rfl)
  rw [lg_entry_eq]
  generalize (lg_sl ([.ref (ad 0), .int (eI ((k : Nat) : Int))]) ++ List.replicate (2 - (lg_sl ([.ref (ad 0), .int (eI ((k : Nat) : Int))])).length) Slot.unset).toArray = ls at hl ⊢
  have hl : lv_has ls 2 [(0, .ref (ad 0)), (1, .int (eI ((k : Nat) : Int)))] := hl
  have hn5 := hE.1
  rcases (show k = 0 ∨ k = 1 ∨ k = 2 ∨ k = 3 by omega) with rfl | rfl | rfl | rfl
  ·
    have hl : lv_has ls 2 [(0, .ref (ad 0)), (1, .int (eI ((0 : Nat) : Int)))] := hl
    refine lv_aload_n hx hb d_E_cutOf_0 rfl (lv_at hl 0 rfl) ?_
    refine va_get (D := D) (ci := 4) (v := .ref (ad 1)) (C := R_E) (T := T_E) (N := 11) hx hb htb in_E hown hK hP 0 rfl rfl 0 (by decide) (htb _ tb_124) (fun _ h9 => h9) rfl d_E_cutOf_1 ?_
    refine lv_iload_n hx hb d_E_cutOf_4 rfl (lv_at hl 1 rfl) ?_
    refine we_aald (r := (ad 6)) hx hb hK hP 1 3 rfl rfl 0 rfl (by decide) (by decide) rfl d_E_cutOf_5 ?_
    refine va_get (D := D) (ci := 2) (v := .ref (ad 11)) (C := R_S) (T := T_S) (N := 2) hx hb htb in_S hown hK hP 6 rfl rfl 0 (by decide) (htb _ tb_82) (fun _ h9 => h9) rfl d_E_cutOf_6 ?_
    refine lv_aload_n hx hb d_E_cutOf_9 rfl (lv_at hl 0 rfl) ?_
    refine va_get (D := D) (ci := 4) (v := .ref (ad 1)) (C := R_E) (T := T_E) (N := 11) hx hb htb in_E hown hK hP 0 rfl rfl 0 (by decide) (htb _ tb_124) (fun _ h9 => h9) rfl d_E_cutOf_10 ?_
    refine lv_iload_n hx hb d_E_cutOf_13 rfl (lv_at hl 1 rfl) ?_
    refine lv_iconst (v := eI 1) hx hb d_E_cutOf_14 rfl ?_
    refine we_iadd hx hb d_E_cutOf_15 ?_
    refine we_aald (r := (ad 7)) hx hb hK hP 1 3 rfl rfl 1 rfl (by decide) (by decide) rfl d_E_cutOf_16 ?_
    refine va_get (D := D) (ci := 2) (v := .ref (ad 12)) (C := R_S) (T := T_S) (N := 2) hx hb htb in_S hown hK hP 7 rfl rfl 0 (by decide) (htb _ tb_82) (fun _ h9 => h9) rfl d_E_cutOf_17 ?_
    refine lv_aload_n hx hb d_E_cutOf_20 rfl (lv_at hl 0 rfl) ?_
    refine va_get (D := D) (ci := 4) (v := .ref (ad 2)) (C := R_E) (T := T_E) (N := 11) hx hb htb in_E hown hK hP 0 rfl rfl 1 (by decide) (htb _ tb_125) (fun _ h9 => h9) rfl d_E_cutOf_21 ?_
    refine lv_iload_n hx hb d_E_cutOf_24 rfl (lv_at hl 1 rfl) ?_
    refine we_iald hx hb hK hP 2 0 rfl rfl 0 rfl (by decide) (by decide) d_E_cutOf_25 ?_
    refine eh_cRS (As := [.ref (ad 11), .ref (ad 12), .int (eI (ln 0))]) (rest := []) (v := .int (eI (eh_lt (cu 0) (cl 0) (cu 1) (cl 1) (ln 0)))) hx hb hml hown htb hN (r_E_roundedLitres l D (ad 11) (ad 12) (cu 0) (cl 0) (cu 1) (cl 1) (ln 0) (hE.2.2.2.2.2.2.1 0 (by omega)).1 (hE.2.2.2.2.2.2.1 1 (by omega)).1 (by have := hE.2.2.2.1 0 (by omega); omega)) 3 ⟨tb_174, tb_175, tb_1, kin_E_roundedLitres⟩ dv_E_roundedLitres ⟨by rw [hR1]; decide, by rw [hR2]; decide⟩ hK hP [11, 12] rfl [] rfl rfl rfl hl.1 (Nat.le_of_ble_eq_true rfl) d_E_cutOf_26 ⟨Nat.zero_le _, Nat.zero_le _⟩ ?_
    subst hQ
    exact W.iret hx hb hrt (fun t9 ht hW => ⟨rfl, ht⟩) (fun q h => by cases h) d_E_cutOf_29
  ·
    have hl : lv_has ls 2 [(0, .ref (ad 0)), (1, .int (eI ((1 : Nat) : Int)))] := hl
    refine lv_aload_n hx hb d_E_cutOf_0 rfl (lv_at hl 0 rfl) ?_
    refine va_get (D := D) (ci := 4) (v := .ref (ad 1)) (C := R_E) (T := T_E) (N := 11) hx hb htb in_E hown hK hP 0 rfl rfl 0 (by decide) (htb _ tb_124) (fun _ h9 => h9) rfl d_E_cutOf_1 ?_
    refine lv_iload_n hx hb d_E_cutOf_4 rfl (lv_at hl 1 rfl) ?_
    refine we_aald (r := (ad 7)) hx hb hK hP 1 3 rfl rfl 1 rfl (by decide) (by decide) rfl d_E_cutOf_5 ?_
    refine va_get (D := D) (ci := 2) (v := .ref (ad 12)) (C := R_S) (T := T_S) (N := 2) hx hb htb in_S hown hK hP 7 rfl rfl 0 (by decide) (htb _ tb_82) (fun _ h9 => h9) rfl d_E_cutOf_6 ?_
    refine lv_aload_n hx hb d_E_cutOf_9 rfl (lv_at hl 0 rfl) ?_
    refine va_get (D := D) (ci := 4) (v := .ref (ad 1)) (C := R_E) (T := T_E) (N := 11) hx hb htb in_E hown hK hP 0 rfl rfl 0 (by decide) (htb _ tb_124) (fun _ h9 => h9) rfl d_E_cutOf_10 ?_
    refine lv_iload_n hx hb d_E_cutOf_13 rfl (lv_at hl 1 rfl) ?_
    refine lv_iconst (v := eI 1) hx hb d_E_cutOf_14 rfl ?_
    refine we_iadd hx hb d_E_cutOf_15 ?_
    refine we_aald (r := (ad 8)) hx hb hK hP 1 3 rfl rfl 2 rfl (by decide) (by decide) rfl d_E_cutOf_16 ?_
    refine va_get (D := D) (ci := 2) (v := .ref (ad 13)) (C := R_S) (T := T_S) (N := 2) hx hb htb in_S hown hK hP 8 rfl rfl 0 (by decide) (htb _ tb_82) (fun _ h9 => h9) rfl d_E_cutOf_17 ?_
    refine lv_aload_n hx hb d_E_cutOf_20 rfl (lv_at hl 0 rfl) ?_
    refine va_get (D := D) (ci := 4) (v := .ref (ad 2)) (C := R_E) (T := T_E) (N := 11) hx hb htb in_E hown hK hP 0 rfl rfl 1 (by decide) (htb _ tb_125) (fun _ h9 => h9) rfl d_E_cutOf_21 ?_
    refine lv_iload_n hx hb d_E_cutOf_24 rfl (lv_at hl 1 rfl) ?_
    refine we_iald hx hb hK hP 2 0 rfl rfl 1 rfl (by decide) (by decide) d_E_cutOf_25 ?_
    refine eh_cRS (As := [.ref (ad 12), .ref (ad 13), .int (eI (ln 1))]) (rest := []) (v := .int (eI (eh_lt (cu 1) (cl 1) (cu 2) (cl 2) (ln 1)))) hx hb hml hown htb hN (r_E_roundedLitres l D (ad 12) (ad 13) (cu 1) (cl 1) (cu 2) (cl 2) (ln 1) (hE.2.2.2.2.2.2.1 1 (by omega)).1 (hE.2.2.2.2.2.2.1 2 (by omega)).1 (by have := hE.2.2.2.1 1 (by omega); omega)) 3 ⟨tb_174, tb_175, tb_1, kin_E_roundedLitres⟩ dv_E_roundedLitres ⟨by rw [hR1]; decide, by rw [hR2]; decide⟩ hK hP [12, 13] rfl [] rfl rfl rfl hl.1 (Nat.le_of_ble_eq_true rfl) d_E_cutOf_26 ⟨Nat.zero_le _, Nat.zero_le _⟩ ?_
    subst hQ
    exact W.iret hx hb hrt (fun t9 ht hW => ⟨rfl, ht⟩) (fun q h => by cases h) d_E_cutOf_29
  ·
    have hl : lv_has ls 2 [(0, .ref (ad 0)), (1, .int (eI ((2 : Nat) : Int)))] := hl
    refine lv_aload_n hx hb d_E_cutOf_0 rfl (lv_at hl 0 rfl) ?_
    refine va_get (D := D) (ci := 4) (v := .ref (ad 1)) (C := R_E) (T := T_E) (N := 11) hx hb htb in_E hown hK hP 0 rfl rfl 0 (by decide) (htb _ tb_124) (fun _ h9 => h9) rfl d_E_cutOf_1 ?_
    refine lv_iload_n hx hb d_E_cutOf_4 rfl (lv_at hl 1 rfl) ?_
    refine we_aald (r := (ad 8)) hx hb hK hP 1 3 rfl rfl 2 rfl (by decide) (by decide) rfl d_E_cutOf_5 ?_
    refine va_get (D := D) (ci := 2) (v := .ref (ad 13)) (C := R_S) (T := T_S) (N := 2) hx hb htb in_S hown hK hP 8 rfl rfl 0 (by decide) (htb _ tb_82) (fun _ h9 => h9) rfl d_E_cutOf_6 ?_
    refine lv_aload_n hx hb d_E_cutOf_9 rfl (lv_at hl 0 rfl) ?_
    refine va_get (D := D) (ci := 4) (v := .ref (ad 1)) (C := R_E) (T := T_E) (N := 11) hx hb htb in_E hown hK hP 0 rfl rfl 0 (by decide) (htb _ tb_124) (fun _ h9 => h9) rfl d_E_cutOf_10 ?_
    refine lv_iload_n hx hb d_E_cutOf_13 rfl (lv_at hl 1 rfl) ?_
    refine lv_iconst (v := eI 1) hx hb d_E_cutOf_14 rfl ?_
    refine we_iadd hx hb d_E_cutOf_15 ?_
    refine we_aald (r := (ad 9)) hx hb hK hP 1 3 rfl rfl 3 rfl (by decide) (by decide) rfl d_E_cutOf_16 ?_
    refine va_get (D := D) (ci := 2) (v := .ref (ad 14)) (C := R_S) (T := T_S) (N := 2) hx hb htb in_S hown hK hP 9 rfl rfl 0 (by decide) (htb _ tb_82) (fun _ h9 => h9) rfl d_E_cutOf_17 ?_
    refine lv_aload_n hx hb d_E_cutOf_20 rfl (lv_at hl 0 rfl) ?_
    refine va_get (D := D) (ci := 4) (v := .ref (ad 2)) (C := R_E) (T := T_E) (N := 11) hx hb htb in_E hown hK hP 0 rfl rfl 1 (by decide) (htb _ tb_125) (fun _ h9 => h9) rfl d_E_cutOf_21 ?_
    refine lv_iload_n hx hb d_E_cutOf_24 rfl (lv_at hl 1 rfl) ?_
    refine we_iald hx hb hK hP 2 0 rfl rfl 2 rfl (by decide) (by decide) d_E_cutOf_25 ?_
    refine eh_cRS (As := [.ref (ad 13), .ref (ad 14), .int (eI (ln 2))]) (rest := []) (v := .int (eI (eh_lt (cu 2) (cl 2) (cu 3) (cl 3) (ln 2)))) hx hb hml hown htb hN (r_E_roundedLitres l D (ad 13) (ad 14) (cu 2) (cl 2) (cu 3) (cl 3) (ln 2) (hE.2.2.2.2.2.2.1 2 (by omega)).1 (hE.2.2.2.2.2.2.1 3 (by omega)).1 (by have := hE.2.2.2.1 2 (by omega); omega)) 3 ⟨tb_174, tb_175, tb_1, kin_E_roundedLitres⟩ dv_E_roundedLitres ⟨by rw [hR1]; decide, by rw [hR2]; decide⟩ hK hP [13, 14] rfl [] rfl rfl rfl hl.1 (Nat.le_of_ble_eq_true rfl) d_E_cutOf_26 ⟨Nat.zero_le _, Nat.zero_le _⟩ ?_
    subst hQ
    exact W.iret hx hb hrt (fun t9 ht hW => ⟨rfl, ht⟩) (fun q h => by cases h) d_E_cutOf_29
  ·
    have hl : lv_has ls 2 [(0, .ref (ad 0)), (1, .int (eI ((3 : Nat) : Int)))] := hl
    refine lv_aload_n hx hb d_E_cutOf_0 rfl (lv_at hl 0 rfl) ?_
    refine va_get (D := D) (ci := 4) (v := .ref (ad 1)) (C := R_E) (T := T_E) (N := 11) hx hb htb in_E hown hK hP 0 rfl rfl 0 (by decide) (htb _ tb_124) (fun _ h9 => h9) rfl d_E_cutOf_1 ?_
    refine lv_iload_n hx hb d_E_cutOf_4 rfl (lv_at hl 1 rfl) ?_
    refine we_aald (r := (ad 9)) hx hb hK hP 1 3 rfl rfl 3 rfl (by decide) (by decide) rfl d_E_cutOf_5 ?_
    refine va_get (D := D) (ci := 2) (v := .ref (ad 14)) (C := R_S) (T := T_S) (N := 2) hx hb htb in_S hown hK hP 9 rfl rfl 0 (by decide) (htb _ tb_82) (fun _ h9 => h9) rfl d_E_cutOf_6 ?_
    refine lv_aload_n hx hb d_E_cutOf_9 rfl (lv_at hl 0 rfl) ?_
    refine va_get (D := D) (ci := 4) (v := .ref (ad 1)) (C := R_E) (T := T_E) (N := 11) hx hb htb in_E hown hK hP 0 rfl rfl 0 (by decide) (htb _ tb_124) (fun _ h9 => h9) rfl d_E_cutOf_10 ?_
    refine lv_iload_n hx hb d_E_cutOf_13 rfl (lv_at hl 1 rfl) ?_
    refine lv_iconst (v := eI 1) hx hb d_E_cutOf_14 rfl ?_
    refine we_iadd hx hb d_E_cutOf_15 ?_
    refine we_aald (r := (ad 10)) hx hb hK hP 1 3 rfl rfl 4 rfl (by decide) (by decide) rfl d_E_cutOf_16 ?_
    refine va_get (D := D) (ci := 2) (v := .ref (ad 15)) (C := R_S) (T := T_S) (N := 2) hx hb htb in_S hown hK hP 10 rfl rfl 0 (by decide) (htb _ tb_82) (fun _ h9 => h9) rfl d_E_cutOf_17 ?_
    refine lv_aload_n hx hb d_E_cutOf_20 rfl (lv_at hl 0 rfl) ?_
    refine va_get (D := D) (ci := 4) (v := .ref (ad 2)) (C := R_E) (T := T_E) (N := 11) hx hb htb in_E hown hK hP 0 rfl rfl 1 (by decide) (htb _ tb_125) (fun _ h9 => h9) rfl d_E_cutOf_21 ?_
    refine lv_iload_n hx hb d_E_cutOf_24 rfl (lv_at hl 1 rfl) ?_
    refine we_iald hx hb hK hP 2 0 rfl rfl 3 rfl (by decide) (by decide) d_E_cutOf_25 ?_
    refine eh_cRS (As := [.ref (ad 14), .ref (ad 15), .int (eI (ln 3))]) (rest := []) (v := .int (eI (eh_lt (cu 3) (cl 3) (cu 4) (cl 4) (ln 3)))) hx hb hml hown htb hN (r_E_roundedLitres l D (ad 14) (ad 15) (cu 3) (cl 3) (cu 4) (cl 4) (ln 3) (hE.2.2.2.2.2.2.1 3 (by omega)).1 (hE.2.2.2.2.2.2.1 4 (by omega)).1 (by have := hE.2.2.2.1 3 (by omega); omega)) 3 ⟨tb_174, tb_175, tb_1, kin_E_roundedLitres⟩ dv_E_roundedLitres ⟨by rw [hR1]; decide, by rw [hR2]; decide⟩ hK hP [14, 15] rfl [] rfl rfl rfl hl.1 (Nat.le_of_ble_eq_true rfl) d_E_cutOf_26 ⟨Nat.zero_le _, Nat.zero_le _⟩ ?_
    subst hQ
    exact W.iret hx hb hrt (fun t9 ht hW => ⟨rfl, ht⟩) (fun q h => by cases h) d_E_cutOf_29
abbrev c_E_fillOf : ByteArray := prog_1_method_35_code
def y_E_fillOf : MethodName := ⟨"EarthHauls", "fillOf", "(I)I"⟩
abbrev k_E_fillOf : Cond := .code y_E_fillOf c_E_fillOf 2 (some .int)
theorem kin_E_fillOf : k_E_fillOf ∈ ew_t := tb_183
theorem dv_E_fillOf : eh_dV y_E_fillOf "EarthHauls" 1 := ⟨rfl, by decide, by decide, by decide +kernel⟩
theorem d_E_fillOf_0 : decode c_E_fillOf 0 = .ok (.aload_n 0, 1) := by decide +kernel
theorem d_E_fillOf_1 : decode c_E_fillOf 1 = .ok (.getfield 11, 3) := by decide +kernel
theorem d_E_fillOf_4 : decode c_E_fillOf 4 = .ok (.iload_n 1, 1) := by decide +kernel
theorem d_E_fillOf_5 : decode c_E_fillOf 5 = .ok (.aaload, 1) := by decide +kernel
theorem d_E_fillOf_6 : decode c_E_fillOf 6 = .ok (.getfield 111, 3) := by decide +kernel
theorem d_E_fillOf_9 : decode c_E_fillOf 9 = .ok (.aload_n 0, 1) := by decide +kernel
theorem d_E_fillOf_10 : decode c_E_fillOf 10 = .ok (.getfield 11, 3) := by decide +kernel
theorem d_E_fillOf_13 : decode c_E_fillOf 13 = .ok (.iload_n 1, 1) := by decide +kernel
theorem d_E_fillOf_14 : decode c_E_fillOf 14 = .ok (.iconst 1, 1) := by decide +kernel
theorem d_E_fillOf_15 : decode c_E_fillOf 15 = .ok (.iadd, 1) := by decide +kernel
theorem d_E_fillOf_16 : decode c_E_fillOf 16 = .ok (.aaload, 1) := by decide +kernel
theorem d_E_fillOf_17 : decode c_E_fillOf 17 = .ok (.getfield 111, 3) := by decide +kernel
theorem d_E_fillOf_20 : decode c_E_fillOf 20 = .ok (.aload_n 0, 1) := by decide +kernel
theorem d_E_fillOf_21 : decode c_E_fillOf 21 = .ok (.getfield 15, 3) := by decide +kernel
theorem d_E_fillOf_24 : decode c_E_fillOf 24 = .ok (.iload_n 1, 1) := by decide +kernel
theorem d_E_fillOf_25 : decode c_E_fillOf 25 = .ok (.iaload, 1) := by decide +kernel
theorem d_E_fillOf_26 : decode c_E_fillOf 26 = .ok (.invokestatic 194, 3) := by decide +kernel
theorem d_E_fillOf_29 : decode c_E_fillOf 29 = .ok (.ireturn, 1) := by decide +kernel
set_option maxHeartbeats 4000000 in
set_option maxRecDepth 100000 in
theorem r_E_fillOf (l : Launch) (D : va_G) (cI cL cZ cS cY : ClassId) (ad : Nat → Nat) (n : Nat) (sh ra plv pco : Int) (ln cb la : Nat → Int) (cu cl fu fl : Nat → Nat) (ys yl yp : Nat → Int) (k : Nat) (hk : k + 1 < n) (hE : eh_ES n sh ra ln cb la cu cl fu fl ys yl yp) : eh_R l y_E_fillOf k_E_fillOf 1 26 D classes [(cI, .int), (cL, .long), (cZ, .boolean), (cS, .object "EarthHauls$Section"), (cY, .object "EarthHauls$Yard")] [.ref (ad 0), .int (eI ((k : Nat) : Int))] [((ad 0), .inr (4, [.ref (ad 1), .ref (ad 2), .ref (ad 3), .ref (ad 4), .ref (ad 5), .ref (ad 24), .int (eI ((n : Nat) : Int)), .int (eI sh), .int (eI ra), .int (eI plv), .long (eL pco)])), ((ad 1), .inl (cS, 5, .inr (.inr (.inr (.inr (eh_o5 (ad 6) (ad 7) (ad 8) (ad 9) (ad 10))))))), ((ad 2), aI cI 4 ln), ((ad 3), aI cZ 3 cb), ((ad 4), .inl (cY, 3, .inr (.inr (.inr (.inr (eh_o3 (ad 21) (ad 22) (ad 23))))))), ((ad 5), aI cI 30 la), ((ad 6), .inr (2, [.ref (ad 11), .ref (ad 16)])), ((ad 7), .inr (2, [.ref (ad 12), .ref (ad 17)])), ((ad 8), .inr (2, [.ref (ad 13), .ref (ad 18)])), ((ad 9), .inr (2, [.ref (ad 14), .ref (ad 19)])), ((ad 10), .inr (2, [.ref (ad 15), .ref (ad 20)])), ((ad 11), .inr (0, [.long (eL ((cu 0 : Nat) : Int)), .long (eL ((cl 0 : Nat) : Int))])), ((ad 12), .inr (0, [.long (eL ((cu 1 : Nat) : Int)), .long (eL ((cl 1 : Nat) : Int))])), ((ad 13), .inr (0, [.long (eL ((cu 2 : Nat) : Int)), .long (eL ((cl 2 : Nat) : Int))])), ((ad 14), .inr (0, [.long (eL ((cu 3 : Nat) : Int)), .long (eL ((cl 3 : Nat) : Int))])), ((ad 15), .inr (0, [.long (eL ((cu 4 : Nat) : Int)), .long (eL ((cl 4 : Nat) : Int))])), ((ad 16), .inr (0, [.long (eL ((fu 0 : Nat) : Int)), .long (eL ((fl 0 : Nat) : Int))])), ((ad 17), .inr (0, [.long (eL ((fu 1 : Nat) : Int)), .long (eL ((fl 1 : Nat) : Int))])), ((ad 18), .inr (0, [.long (eL ((fu 2 : Nat) : Int)), .long (eL ((fl 2 : Nat) : Int))])), ((ad 19), .inr (0, [.long (eL ((fu 3 : Nat) : Int)), .long (eL ((fl 3 : Nat) : Int))])), ((ad 20), .inr (0, [.long (eL ((fu 4 : Nat) : Int)), .long (eL ((fl 4 : Nat) : Int))])), ((ad 21), .inr (3, [.int (eI (ys 0)), .int (eI (yl 0)), .int (eI (yp 0))])), ((ad 22), .inr (3, [.int (eI (ys 1)), .int (eI (yl 1)), .int (eI (yp 1))])), ((ad 23), .inr (3, [.int (eI (ys 2)), .int (eI (yl 2)), .int (eI (yp 2))]))] (.int (eI (eh_kut fu fl ln k))) := by
  refine Met.ofW (cc := c_E_fillOf) (maxL := 2) (ret := (some .int)) (by decide) rfl ?_
  intro p e s m args below meth c s₁ B hml hv
  obtain ⟨hargs, hP, hK, hN⟩ := hv
  have hx := B.exec
  have hb := B.bytes
  have hrt := B.returns
  have hts := atoms_spec (ws := k_E_fillOf :: ew_t) B.pre
  have htb : ∀ w ∈ ew_t, w.before args s = true := fun w h => hts w (List.mem_cons_of_mem _ h)
  have hown : s.vm.findClass "EarthHauls" = some m.cls := findClass_of_methodNamed B.named
  have hlocks := B.notSynchronized
  have hE : entryFrame m args 2 = entryFrame m ([.ref (ad 0), .int (eI ((k : Nat) : Int))] : List Value).toArray 2 := by rw [hargs]
  rw [hE]
  clear hE hts B hargs
  generalize hRe : (headSpec _ _).room = R
  have hR1 : R.frames = 1 := by rw [← hRe]; rfl
  have hR2 : R.locals = 26 := by rw [← hRe]; rfl
  clear hRe
  generalize hQ : MQ below _ _ s 0 0 _ = Q
  have hP : va_P D classes [((ad 0), .inr (4, [.ref (ad 1), .ref (ad 2), .ref (ad 3), .ref (ad 4), .ref (ad 5), .ref (ad 24), .int (eI ((n : Nat) : Int)), .int (eI sh), .int (eI ra), .int (eI plv), .long (eL pco)])), ((ad 1), .inl (cS, 5, .inr (.inr (.inr (.inr (eh_o5 (ad 6) (ad 7) (ad 8) (ad 9) (ad 10))))))), ((ad 2), aI cI 4 ln), ((ad 3), aI cZ 3 cb), ((ad 4), .inl (cY, 3, .inr (.inr (.inr (.inr (eh_o3 (ad 21) (ad 22) (ad 23))))))), ((ad 5), aI cI 30 la), ((ad 6), .inr (2, [.ref (ad 11), .ref (ad 16)])), ((ad 7), .inr (2, [.ref (ad 12), .ref (ad 17)])), ((ad 8), .inr (2, [.ref (ad 13), .ref (ad 18)])), ((ad 9), .inr (2, [.ref (ad 14), .ref (ad 19)])), ((ad 10), .inr (2, [.ref (ad 15), .ref (ad 20)])), ((ad 11), .inr (0, [.long (eL ((cu 0 : Nat) : Int)), .long (eL ((cl 0 : Nat) : Int))])), ((ad 12), .inr (0, [.long (eL ((cu 1 : Nat) : Int)), .long (eL ((cl 1 : Nat) : Int))])), ((ad 13), .inr (0, [.long (eL ((cu 2 : Nat) : Int)), .long (eL ((cl 2 : Nat) : Int))])), ((ad 14), .inr (0, [.long (eL ((cu 3 : Nat) : Int)), .long (eL ((cl 3 : Nat) : Int))])), ((ad 15), .inr (0, [.long (eL ((cu 4 : Nat) : Int)), .long (eL ((cl 4 : Nat) : Int))])), ((ad 16), .inr (0, [.long (eL ((fu 0 : Nat) : Int)), .long (eL ((fl 0 : Nat) : Int))])), ((ad 17), .inr (0, [.long (eL ((fu 1 : Nat) : Int)), .long (eL ((fl 1 : Nat) : Int))])), ((ad 18), .inr (0, [.long (eL ((fu 2 : Nat) : Int)), .long (eL ((fl 2 : Nat) : Int))])), ((ad 19), .inr (0, [.long (eL ((fu 3 : Nat) : Int)), .long (eL ((fl 3 : Nat) : Int))])), ((ad 20), .inr (0, [.long (eL ((fu 4 : Nat) : Int)), .long (eL ((fl 4 : Nat) : Int))])), ((ad 21), .inr (3, [.int (eI (ys 0)), .int (eI (yl 0)), .int (eI (yp 0))])), ((ad 22), .inr (3, [.int (eI (ys 1)), .int (eI (yl 1)), .int (eI (yp 1))])), ((ad 23), .inr (3, [.int (eI (ys 2)), .int (eI (yl 2)), .int (eI (yp 2))]))] s.heap := hP
  have hl := lv_entry ([.ref (ad 0), .int (eI ((k : Nat) : Int))]) (n := 2) (Nat.le_of_ble_eq_true rfl)
  rw [lg_entry_eq]
  generalize (lg_sl ([.ref (ad 0), .int (eI ((k : Nat) : Int))]) ++ List.replicate (2 - (lg_sl ([.ref (ad 0), .int (eI ((k : Nat) : Int))])).length) Slot.unset).toArray = ls at hl ⊢
  have hl : lv_has ls 2 [(0, .ref (ad 0)), (1, .int (eI ((k : Nat) : Int)))] := hl
  have hn5 := hE.1
  rcases (show k = 0 ∨ k = 1 ∨ k = 2 ∨ k = 3 by omega) with rfl | rfl | rfl | rfl
  ·
    have hl : lv_has ls 2 [(0, .ref (ad 0)), (1, .int (eI ((0 : Nat) : Int)))] := hl
    refine lv_aload_n hx hb d_E_fillOf_0 rfl (lv_at hl 0 rfl) ?_
    refine va_get (D := D) (ci := 4) (v := .ref (ad 1)) (C := R_E) (T := T_E) (N := 11) hx hb htb in_E hown hK hP 0 rfl rfl 0 (by decide) (htb _ tb_124) (fun _ h9 => h9) rfl d_E_fillOf_1 ?_
    refine lv_iload_n hx hb d_E_fillOf_4 rfl (lv_at hl 1 rfl) ?_
    refine we_aald (r := (ad 6)) hx hb hK hP 1 3 rfl rfl 0 rfl (by decide) (by decide) rfl d_E_fillOf_5 ?_
    refine va_get (D := D) (ci := 2) (v := .ref (ad 16)) (C := R_S) (T := T_S) (N := 2) hx hb htb in_S hown hK hP 6 rfl rfl 1 (by decide) (htb _ tb_84) (fun _ h9 => h9) rfl d_E_fillOf_6 ?_
    refine lv_aload_n hx hb d_E_fillOf_9 rfl (lv_at hl 0 rfl) ?_
    refine va_get (D := D) (ci := 4) (v := .ref (ad 1)) (C := R_E) (T := T_E) (N := 11) hx hb htb in_E hown hK hP 0 rfl rfl 0 (by decide) (htb _ tb_124) (fun _ h9 => h9) rfl d_E_fillOf_10 ?_
    refine lv_iload_n hx hb d_E_fillOf_13 rfl (lv_at hl 1 rfl) ?_
    refine lv_iconst (v := eI 1) hx hb d_E_fillOf_14 rfl ?_
    refine we_iadd hx hb d_E_fillOf_15 ?_
    refine we_aald (r := (ad 7)) hx hb hK hP 1 3 rfl rfl 1 rfl (by decide) (by decide) rfl d_E_fillOf_16 ?_
    refine va_get (D := D) (ci := 2) (v := .ref (ad 17)) (C := R_S) (T := T_S) (N := 2) hx hb htb in_S hown hK hP 7 rfl rfl 1 (by decide) (htb _ tb_84) (fun _ h9 => h9) rfl d_E_fillOf_17 ?_
    refine lv_aload_n hx hb d_E_fillOf_20 rfl (lv_at hl 0 rfl) ?_
    refine va_get (D := D) (ci := 4) (v := .ref (ad 2)) (C := R_E) (T := T_E) (N := 11) hx hb htb in_E hown hK hP 0 rfl rfl 1 (by decide) (htb _ tb_125) (fun _ h9 => h9) rfl d_E_fillOf_21 ?_
    refine lv_iload_n hx hb d_E_fillOf_24 rfl (lv_at hl 1 rfl) ?_
    refine we_iald hx hb hK hP 2 0 rfl rfl 0 rfl (by decide) (by decide) d_E_fillOf_25 ?_
    refine eh_cRS (As := [.ref (ad 16), .ref (ad 17), .int (eI (ln 0))]) (rest := []) (v := .int (eI (eh_lt (fu 0) (fl 0) (fu 1) (fl 1) (ln 0)))) hx hb hml hown htb hN (r_E_roundedLitres l D (ad 16) (ad 17) (fu 0) (fl 0) (fu 1) (fl 1) (ln 0) (hE.2.2.2.2.2.2.1 0 (by omega)).2 (hE.2.2.2.2.2.2.1 1 (by omega)).2 (by have := hE.2.2.2.1 0 (by omega); omega)) 3 ⟨tb_174, tb_175, tb_1, kin_E_roundedLitres⟩ dv_E_roundedLitres ⟨by rw [hR1]; decide, by rw [hR2]; decide⟩ hK hP [16, 17] rfl [] rfl rfl rfl hl.1 (Nat.le_of_ble_eq_true rfl) d_E_fillOf_26 ⟨Nat.zero_le _, Nat.zero_le _⟩ ?_
    subst hQ
    exact W.iret hx hb hrt (fun t9 ht hW => ⟨rfl, ht⟩) (fun q h => by cases h) d_E_fillOf_29
  ·
    have hl : lv_has ls 2 [(0, .ref (ad 0)), (1, .int (eI ((1 : Nat) : Int)))] := hl
    refine lv_aload_n hx hb d_E_fillOf_0 rfl (lv_at hl 0 rfl) ?_
    refine va_get (D := D) (ci := 4) (v := .ref (ad 1)) (C := R_E) (T := T_E) (N := 11) hx hb htb in_E hown hK hP 0 rfl rfl 0 (by decide) (htb _ tb_124) (fun _ h9 => h9) rfl d_E_fillOf_1 ?_
    refine lv_iload_n hx hb d_E_fillOf_4 rfl (lv_at hl 1 rfl) ?_
    refine we_aald (r := (ad 7)) hx hb hK hP 1 3 rfl rfl 1 rfl (by decide) (by decide) rfl d_E_fillOf_5 ?_
    refine va_get (D := D) (ci := 2) (v := .ref (ad 17)) (C := R_S) (T := T_S) (N := 2) hx hb htb in_S hown hK hP 7 rfl rfl 1 (by decide) (htb _ tb_84) (fun _ h9 => h9) rfl d_E_fillOf_6 ?_
    refine lv_aload_n hx hb d_E_fillOf_9 rfl (lv_at hl 0 rfl) ?_
    refine va_get (D := D) (ci := 4) (v := .ref (ad 1)) (C := R_E) (T := T_E) (N := 11) hx hb htb in_E hown hK hP 0 rfl rfl 0 (by decide) (htb _ tb_124) (fun _ h9 => h9) rfl d_E_fillOf_10 ?_
    refine lv_iload_n hx hb d_E_fillOf_13 rfl (lv_at hl 1 rfl) ?_
    refine lv_iconst (v := eI 1) hx hb d_E_fillOf_14 rfl ?_
    refine we_iadd hx hb d_E_fillOf_15 ?_
    refine we_aald (r := (ad 8)) hx hb hK hP 1 3 rfl rfl 2 rfl (by decide) (by decide) rfl d_E_fillOf_16 ?_
    refine va_get (D := D) (ci := 2) (v := .ref (ad 18)) (C := R_S) (T := T_S) (N := 2) hx hb htb in_S hown hK hP 8 rfl rfl 1 (by decide) (htb _ tb_84) (fun _ h9 => h9) rfl d_E_fillOf_17 ?_
    refine lv_aload_n hx hb d_E_fillOf_20 rfl (lv_at hl 0 rfl) ?_
    refine va_get (D := D) (ci := 4) (v := .ref (ad 2)) (C := R_E) (T := T_E) (N := 11) hx hb htb in_E hown hK hP 0 rfl rfl 1 (by decide) (htb _ tb_125) (fun _ h9 => h9) rfl d_E_fillOf_21 ?_
    refine lv_iload_n hx hb d_E_fillOf_24 rfl (lv_at hl 1 rfl) ?_
    refine we_iald hx hb hK hP 2 0 rfl rfl 1 rfl (by decide) (by decide) d_E_fillOf_25 ?_
    refine eh_cRS (As := [.ref (ad 17), .ref (ad 18), .int (eI (ln 1))]) (rest := []) (v := .int (eI (eh_lt (fu 1) (fl 1) (fu 2) (fl 2) (ln 1)))) hx hb hml hown htb hN (r_E_roundedLitres l D (ad 17) (ad 18) (fu 1) (fl 1) (fu 2) (fl 2) (ln 1) (hE.2.2.2.2.2.2.1 1 (by omega)).2 (hE.2.2.2.2.2.2.1 2 (by omega)).2 (by have := hE.2.2.2.1 1 (by omega); omega)) 3 ⟨tb_174, tb_175, tb_1, kin_E_roundedLitres⟩ dv_E_roundedLitres ⟨by rw [hR1]; decide, by rw [hR2]; decide⟩ hK hP [17, 18] rfl [] rfl rfl rfl hl.1 (Nat.le_of_ble_eq_true rfl) d_E_fillOf_26 ⟨Nat.zero_le _, Nat.zero_le _⟩ ?_
    subst hQ
    exact W.iret hx hb hrt (fun t9 ht hW => ⟨rfl, ht⟩) (fun q h => by cases h) d_E_fillOf_29
  ·
    have hl : lv_has ls 2 [(0, .ref (ad 0)), (1, .int (eI ((2 : Nat) : Int)))] := hl
    refine lv_aload_n hx hb d_E_fillOf_0 rfl (lv_at hl 0 rfl) ?_
    refine va_get (D := D) (ci := 4) (v := .ref (ad 1)) (C := R_E) (T := T_E) (N := 11) hx hb htb in_E hown hK hP 0 rfl rfl 0 (by decide) (htb _ tb_124) (fun _ h9 => h9) rfl d_E_fillOf_1 ?_
    refine lv_iload_n hx hb d_E_fillOf_4 rfl (lv_at hl 1 rfl) ?_
    refine we_aald (r := (ad 8)) hx hb hK hP 1 3 rfl rfl 2 rfl (by decide) (by decide) rfl d_E_fillOf_5 ?_
    refine va_get (D := D) (ci := 2) (v := .ref (ad 18)) (C := R_S) (T := T_S) (N := 2) hx hb htb in_S hown hK hP 8 rfl rfl 1 (by decide) (htb _ tb_84) (fun _ h9 => h9) rfl d_E_fillOf_6 ?_
    refine lv_aload_n hx hb d_E_fillOf_9 rfl (lv_at hl 0 rfl) ?_
    refine va_get (D := D) (ci := 4) (v := .ref (ad 1)) (C := R_E) (T := T_E) (N := 11) hx hb htb in_E hown hK hP 0 rfl rfl 0 (by decide) (htb _ tb_124) (fun _ h9 => h9) rfl d_E_fillOf_10 ?_
    refine lv_iload_n hx hb d_E_fillOf_13 rfl (lv_at hl 1 rfl) ?_
    refine lv_iconst (v := eI 1) hx hb d_E_fillOf_14 rfl ?_
    refine we_iadd hx hb d_E_fillOf_15 ?_
    refine we_aald (r := (ad 9)) hx hb hK hP 1 3 rfl rfl 3 rfl (by decide) (by decide) rfl d_E_fillOf_16 ?_
    refine va_get (D := D) (ci := 2) (v := .ref (ad 19)) (C := R_S) (T := T_S) (N := 2) hx hb htb in_S hown hK hP 9 rfl rfl 1 (by decide) (htb _ tb_84) (fun _ h9 => h9) rfl d_E_fillOf_17 ?_
    refine lv_aload_n hx hb d_E_fillOf_20 rfl (lv_at hl 0 rfl) ?_
    refine va_get (D := D) (ci := 4) (v := .ref (ad 2)) (C := R_E) (T := T_E) (N := 11) hx hb htb in_E hown hK hP 0 rfl rfl 1 (by decide) (htb _ tb_125) (fun _ h9 => h9) rfl d_E_fillOf_21 ?_
    refine lv_iload_n hx hb d_E_fillOf_24 rfl (lv_at hl 1 rfl) ?_
    refine we_iald hx hb hK hP 2 0 rfl rfl 2 rfl (by decide) (by decide) d_E_fillOf_25 ?_
    refine eh_cRS (As := [.ref (ad 18), .ref (ad 19), .int (eI (ln 2))]) (rest := []) (v := .int (eI (eh_lt (fu 2) (fl 2) (fu 3) (fl 3) (ln 2)))) hx hb hml hown htb hN (r_E_roundedLitres l D (ad 18) (ad 19) (fu 2) (fl 2) (fu 3) (fl 3) (ln 2) (hE.2.2.2.2.2.2.1 2 (by omega)).2 (hE.2.2.2.2.2.2.1 3 (by omega)).2 (by have := hE.2.2.2.1 2 (by omega); omega)) 3 ⟨tb_174, tb_175, tb_1, kin_E_roundedLitres⟩ dv_E_roundedLitres ⟨by rw [hR1]; decide, by rw [hR2]; decide⟩ hK hP [18, 19] rfl [] rfl rfl rfl hl.1 (Nat.le_of_ble_eq_true rfl) d_E_fillOf_26 ⟨Nat.zero_le _, Nat.zero_le _⟩ ?_
    subst hQ
    exact W.iret hx hb hrt (fun t9 ht hW => ⟨rfl, ht⟩) (fun q h => by cases h) d_E_fillOf_29
  ·
    have hl : lv_has ls 2 [(0, .ref (ad 0)), (1, .int (eI ((3 : Nat) : Int)))] := hl
    refine lv_aload_n hx hb d_E_fillOf_0 rfl (lv_at hl 0 rfl) ?_
    refine va_get (D := D) (ci := 4) (v := .ref (ad 1)) (C := R_E) (T := T_E) (N := 11) hx hb htb in_E hown hK hP 0 rfl rfl 0 (by decide) (htb _ tb_124) (fun _ h9 => h9) rfl d_E_fillOf_1 ?_
    refine lv_iload_n hx hb d_E_fillOf_4 rfl (lv_at hl 1 rfl) ?_
    refine we_aald (r := (ad 9)) hx hb hK hP 1 3 rfl rfl 3 rfl (by decide) (by decide) rfl d_E_fillOf_5 ?_
    refine va_get (D := D) (ci := 2) (v := .ref (ad 19)) (C := R_S) (T := T_S) (N := 2) hx hb htb in_S hown hK hP 9 rfl rfl 1 (by decide) (htb _ tb_84) (fun _ h9 => h9) rfl d_E_fillOf_6 ?_
    refine lv_aload_n hx hb d_E_fillOf_9 rfl (lv_at hl 0 rfl) ?_
    refine va_get (D := D) (ci := 4) (v := .ref (ad 1)) (C := R_E) (T := T_E) (N := 11) hx hb htb in_E hown hK hP 0 rfl rfl 0 (by decide) (htb _ tb_124) (fun _ h9 => h9) rfl d_E_fillOf_10 ?_
    refine lv_iload_n hx hb d_E_fillOf_13 rfl (lv_at hl 1 rfl) ?_
    refine lv_iconst (v := eI 1) hx hb d_E_fillOf_14 rfl ?_
    refine we_iadd hx hb d_E_fillOf_15 ?_
    refine we_aald (r := (ad 10)) hx hb hK hP 1 3 rfl rfl 4 rfl (by decide) (by decide) rfl d_E_fillOf_16 ?_
    refine va_get (D := D) (ci := 2) (v := .ref (ad 20)) (C := R_S) (T := T_S) (N := 2) hx hb htb in_S hown hK hP 10 rfl rfl 1 (by decide) (htb _ tb_84) (fun _ h9 => h9) rfl d_E_fillOf_17 ?_
    refine lv_aload_n hx hb d_E_fillOf_20 rfl (lv_at hl 0 rfl) ?_
    refine va_get (D := D) (ci := 4) (v := .ref (ad 2)) (C := R_E) (T := T_E) (N := 11) hx hb htb in_E hown hK hP 0 rfl rfl 1 (by decide) (htb _ tb_125) (fun _ h9 => h9) rfl d_E_fillOf_21 ?_
    refine lv_iload_n hx hb d_E_fillOf_24 rfl (lv_at hl 1 rfl) ?_
    refine we_iald hx hb hK hP 2 0 rfl rfl 3 rfl (by decide) (by decide) d_E_fillOf_25 ?_
    refine eh_cRS (As := [.ref (ad 19), .ref (ad 20), .int (eI (ln 3))]) (rest := []) (v := .int (eI (eh_lt (fu 3) (fl 3) (fu 4) (fl 4) (ln 3)))) hx hb hml hown htb hN (r_E_roundedLitres l D (ad 19) (ad 20) (fu 3) (fl 3) (fu 4) (fl 4) (ln 3) (hE.2.2.2.2.2.2.1 3 (by omega)).2 (hE.2.2.2.2.2.2.1 4 (by omega)).2 (by have := hE.2.2.2.1 3 (by omega); omega)) 3 ⟨tb_174, tb_175, tb_1, kin_E_roundedLitres⟩ dv_E_roundedLitres ⟨by rw [hR1]; decide, by rw [hR2]; decide⟩ hK hP [19, 20] rfl [] rfl rfl rfl hl.1 (Nat.le_of_ble_eq_true rfl) d_E_fillOf_26 ⟨Nat.zero_le _, Nat.zero_le _⟩ ?_
    subst hQ
    exact W.iret hx hb hrt (fun t9 ht hW => ⟨rfl, ht⟩) (fun q h => by cases h) d_E_fillOf_29
abbrev c_E_placedOf : ByteArray := prog_1_method_36_code
def y_E_placedOf : MethodName := ⟨"EarthHauls", "placedOf", "(I)I"⟩
abbrev k_E_placedOf : Cond := .code y_E_placedOf c_E_placedOf 2 (some .int)
theorem kin_E_placedOf : k_E_placedOf ∈ ew_t := tb_169
theorem dv_E_placedOf : eh_dV y_E_placedOf "EarthHauls" 1 := ⟨rfl, by decide, by decide, by decide +kernel⟩
theorem d_E_placedOf_0 : decode c_E_placedOf 0 = .ok (.aload_n 0, 1) := by decide +kernel
theorem d_E_placedOf_1 : decode c_E_placedOf 1 = .ok (.iload_n 1, 1) := by decide +kernel
theorem d_E_placedOf_2 : decode c_E_placedOf 2 = .ok (.invokevirtual 114, 3) := by decide +kernel
theorem d_E_placedOf_5 : decode c_E_placedOf 5 = .ok (.i2l, 1) := by decide +kernel
theorem d_E_placedOf_6 : decode c_E_placedOf 6 = .ok (.aload_n 0, 1) := by decide +kernel
theorem d_E_placedOf_7 : decode c_E_placedOf 7 = .ok (.getfield 72, 3) := by decide +kernel
theorem d_E_placedOf_10 : decode c_E_placedOf 10 = .ok (.i2l, 1) := by decide +kernel
theorem d_E_placedOf_11 : decode c_E_placedOf 11 = .ok (.lmul, 1) := by decide +kernel
theorem d_E_placedOf_12 : decode c_E_placedOf 12 = .ok (.ldc2_w 198, 3) := by decide +kernel
theorem d_E_placedOf_15 : decode c_E_placedOf 15 = .ok (.ldiv, 1) := by decide +kernel
theorem d_E_placedOf_16 : decode c_E_placedOf 16 = .ok (.l2i, 1) := by decide +kernel
theorem d_E_placedOf_17 : decode c_E_placedOf 17 = .ok (.ireturn, 1) := by decide +kernel
set_option maxHeartbeats 4000000 in
set_option maxRecDepth 100000 in
theorem r_E_placedOf (l : Launch) (D : va_G) (cI cL cZ cS cY : ClassId) (ad : Nat → Nat) (n : Nat) (sh ra plv pco : Int) (ln cb la : Nat → Int) (cu cl fu fl : Nat → Nat) (ys yl yp : Nat → Int) (k : Nat) (hk : k + 1 < n) (hE : eh_ES n sh ra ln cb la cu cl fu fl ys yl yp) : eh_R l y_E_placedOf k_E_placedOf 2 47 D classes [(cI, .int), (cL, .long), (cZ, .boolean), (cS, .object "EarthHauls$Section"), (cY, .object "EarthHauls$Yard")] [.ref (ad 0), .int (eI ((k : Nat) : Int))] [((ad 0), .inr (4, [.ref (ad 1), .ref (ad 2), .ref (ad 3), .ref (ad 4), .ref (ad 5), .ref (ad 24), .int (eI ((n : Nat) : Int)), .int (eI sh), .int (eI ra), .int (eI plv), .long (eL pco)])), ((ad 1), .inl (cS, 5, .inr (.inr (.inr (.inr (eh_o5 (ad 6) (ad 7) (ad 8) (ad 9) (ad 10))))))), ((ad 2), aI cI 4 ln), ((ad 3), aI cZ 3 cb), ((ad 4), .inl (cY, 3, .inr (.inr (.inr (.inr (eh_o3 (ad 21) (ad 22) (ad 23))))))), ((ad 5), aI cI 30 la), ((ad 6), .inr (2, [.ref (ad 11), .ref (ad 16)])), ((ad 7), .inr (2, [.ref (ad 12), .ref (ad 17)])), ((ad 8), .inr (2, [.ref (ad 13), .ref (ad 18)])), ((ad 9), .inr (2, [.ref (ad 14), .ref (ad 19)])), ((ad 10), .inr (2, [.ref (ad 15), .ref (ad 20)])), ((ad 11), .inr (0, [.long (eL ((cu 0 : Nat) : Int)), .long (eL ((cl 0 : Nat) : Int))])), ((ad 12), .inr (0, [.long (eL ((cu 1 : Nat) : Int)), .long (eL ((cl 1 : Nat) : Int))])), ((ad 13), .inr (0, [.long (eL ((cu 2 : Nat) : Int)), .long (eL ((cl 2 : Nat) : Int))])), ((ad 14), .inr (0, [.long (eL ((cu 3 : Nat) : Int)), .long (eL ((cl 3 : Nat) : Int))])), ((ad 15), .inr (0, [.long (eL ((cu 4 : Nat) : Int)), .long (eL ((cl 4 : Nat) : Int))])), ((ad 16), .inr (0, [.long (eL ((fu 0 : Nat) : Int)), .long (eL ((fl 0 : Nat) : Int))])), ((ad 17), .inr (0, [.long (eL ((fu 1 : Nat) : Int)), .long (eL ((fl 1 : Nat) : Int))])), ((ad 18), .inr (0, [.long (eL ((fu 2 : Nat) : Int)), .long (eL ((fl 2 : Nat) : Int))])), ((ad 19), .inr (0, [.long (eL ((fu 3 : Nat) : Int)), .long (eL ((fl 3 : Nat) : Int))])), ((ad 20), .inr (0, [.long (eL ((fu 4 : Nat) : Int)), .long (eL ((fl 4 : Nat) : Int))])), ((ad 21), .inr (3, [.int (eI (ys 0)), .int (eI (yl 0)), .int (eI (yp 0))])), ((ad 22), .inr (3, [.int (eI (ys 1)), .int (eI (yl 1)), .int (eI (yp 1))])), ((ad 23), .inr (3, [.int (eI (ys 2)), .int (eI (yl 2)), .int (eI (yp 2))]))] (.int (eI (eh_plc cu cl ln sh k))) := by
  refine Met.ofW (cc := c_E_placedOf) (maxL := 2) (ret := (some .int)) (by decide) rfl ?_
  intro p e s m args below meth c s₁ B hml hv
  obtain ⟨hargs, hP, hK, hN⟩ := hv
  have hx := B.exec
  have hb := B.bytes
  have hrt := B.returns
  have hts := atoms_spec (ws := k_E_placedOf :: ew_t) B.pre
  have htb : ∀ w ∈ ew_t, w.before args s = true := fun w h => hts w (List.mem_cons_of_mem _ h)
  have hown : s.vm.findClass "EarthHauls" = some m.cls := findClass_of_methodNamed B.named
  have hlocks := B.notSynchronized
  have hE : entryFrame m args 2 = entryFrame m ([.ref (ad 0), .int (eI ((k : Nat) : Int))] : List Value).toArray 2 := by rw [hargs]
  rw [hE]
  clear hE hts B hargs
  generalize hRe : (headSpec _ _).room = R
  have hR1 : R.frames = 2 := by rw [← hRe]; rfl
  have hR2 : R.locals = 47 := by rw [← hRe]; rfl
  clear hRe
  generalize hQ : MQ below _ _ s 0 0 _ = Q
  have hP : va_P D classes [((ad 0), .inr (4, [.ref (ad 1), .ref (ad 2), .ref (ad 3), .ref (ad 4), .ref (ad 5), .ref (ad 24), .int (eI ((n : Nat) : Int)), .int (eI sh), .int (eI ra), .int (eI plv), .long (eL pco)])), ((ad 1), .inl (cS, 5, .inr (.inr (.inr (.inr (eh_o5 (ad 6) (ad 7) (ad 8) (ad 9) (ad 10))))))), ((ad 2), aI cI 4 ln), ((ad 3), aI cZ 3 cb), ((ad 4), .inl (cY, 3, .inr (.inr (.inr (.inr (eh_o3 (ad 21) (ad 22) (ad 23))))))), ((ad 5), aI cI 30 la), ((ad 6), .inr (2, [.ref (ad 11), .ref (ad 16)])), ((ad 7), .inr (2, [.ref (ad 12), .ref (ad 17)])), ((ad 8), .inr (2, [.ref (ad 13), .ref (ad 18)])), ((ad 9), .inr (2, [.ref (ad 14), .ref (ad 19)])), ((ad 10), .inr (2, [.ref (ad 15), .ref (ad 20)])), ((ad 11), .inr (0, [.long (eL ((cu 0 : Nat) : Int)), .long (eL ((cl 0 : Nat) : Int))])), ((ad 12), .inr (0, [.long (eL ((cu 1 : Nat) : Int)), .long (eL ((cl 1 : Nat) : Int))])), ((ad 13), .inr (0, [.long (eL ((cu 2 : Nat) : Int)), .long (eL ((cl 2 : Nat) : Int))])), ((ad 14), .inr (0, [.long (eL ((cu 3 : Nat) : Int)), .long (eL ((cl 3 : Nat) : Int))])), ((ad 15), .inr (0, [.long (eL ((cu 4 : Nat) : Int)), .long (eL ((cl 4 : Nat) : Int))])), ((ad 16), .inr (0, [.long (eL ((fu 0 : Nat) : Int)), .long (eL ((fl 0 : Nat) : Int))])), ((ad 17), .inr (0, [.long (eL ((fu 1 : Nat) : Int)), .long (eL ((fl 1 : Nat) : Int))])), ((ad 18), .inr (0, [.long (eL ((fu 2 : Nat) : Int)), .long (eL ((fl 2 : Nat) : Int))])), ((ad 19), .inr (0, [.long (eL ((fu 3 : Nat) : Int)), .long (eL ((fl 3 : Nat) : Int))])), ((ad 20), .inr (0, [.long (eL ((fu 4 : Nat) : Int)), .long (eL ((fl 4 : Nat) : Int))])), ((ad 21), .inr (3, [.int (eI (ys 0)), .int (eI (yl 0)), .int (eI (yp 0))])), ((ad 22), .inr (3, [.int (eI (ys 1)), .int (eI (yl 1)), .int (eI (yp 1))])), ((ad 23), .inr (3, [.int (eI (ys 2)), .int (eI (yl 2)), .int (eI (yp 2))]))] s.heap := hP
  have hl := lv_entry ([.ref (ad 0), .int (eI ((k : Nat) : Int))]) (n := 2) (Nat.le_of_ble_eq_true rfl)
  rw [lg_entry_eq]
  generalize (lg_sl ([.ref (ad 0), .int (eI ((k : Nat) : Int))]) ++ List.replicate (2 - (lg_sl ([.ref (ad 0), .int (eI ((k : Nat) : Int))])).length) Slot.unset).toArray = ls at hl ⊢
  have hl : lv_has ls 2 [(0, .ref (ad 0)), (1, .int (eI ((k : Nat) : Int)))] := hl
  have hn5 := hE.1
  refine lv_aload_n hx hb d_E_placedOf_0 rfl (lv_at hl 0 rfl) ?_
  refine lv_iload_n hx hb d_E_placedOf_1 rfl (lv_at hl 1 rfl) ?_
  refine eh_cRV (As := [.int (eI ((k : Nat) : Int))]) (rest := []) (v := .int (eI (eh_kut cu cl ln k))) (q := (R_E, T_E, 11)) hx hb hml hown htb hN (r_E_cutOf l D cI cL cZ cS cY ad n sh ra plv pco ln cb la cu cl fu fl ys yl yp k hk hE) 1 ⟨tb_170, tb_172, ts_2, tb_1, kin_E_cutOf⟩ dv_E_cutOf ⟨by rw [hR1]; decide, by rw [hR2]; decide⟩ hK hP 0 rfl rfl [0, 1, 2, 3, 4, 5, 6, 7, 8, 9, 10, 11, 12, 13, 14, 15, 16, 17, 18, 19, 20, 21, 22, 23] rfl [0, 1, 2, 3, 4] rfl rfl rfl hl.1 (Nat.le_of_ble_eq_true rfl) d_E_placedOf_2 ⟨Nat.zero_le _, Nat.zero_le _⟩ ?_
  have hcb := eh_kut_b hE hk
  have hpb := eh_plc_b hE hk
  have hsh := hE.2.1
  refine we_i2l hx hb (by constructor <;> omega) d_E_placedOf_5 ?_
  refine lv_aload_n hx hb d_E_placedOf_6 rfl (lv_at hl 0 rfl) ?_
  refine va_get (D := D) (ci := 4) (v := .int (eI sh)) (C := R_E) (T := T_E) (N := 11) hx hb htb in_E hown hK hP 0 rfl rfl 7 (by decide) (htb _ tb_131) (fun _ h9 => h9) rfl d_E_placedOf_7 ?_
  refine we_i2l hx hb (by constructor <;> omega) d_E_placedOf_10 ?_
  refine we_lmul hx hb d_E_placedOf_11 ?_
  refine we_ldc2 (a := 1000) hx hb hown (htb _ tb_179) (by decide) d_E_placedOf_12 ?_
  refine we_ldiv hx hb (by constructor <;> omega) (by constructor <;> omega) (by omega) (by omega) d_E_placedOf_15 ?_
  refine we_l2i hx hb d_E_placedOf_16 ?_
  have hres : (((eh_kut cu cl ln k) * sh) / 1000) = (eh_plc cu cl ln sh k) := rfl
  rw [hres]
  subst hQ
  exact W.iret hx hb hrt (fun t9 ht hW => ⟨rfl, ht⟩) (fun q h => by cases h) d_E_placedOf_17
