/-- the cost of a plan -/
def eh_tt (c y : Nat → Int) (n : Nat) : Int := eh_sm (fun m => if 0 ≤ c m then c m * y m else 0) n
theorem eh_w32 {c : Nat → Int} {m : Nat} (hm : m < 30) : eh_uw c m / 4294967296 = c m := by
  unfold eh_uw
  rw [if_pos hm]
  have hp : 0 ≤ eh_pw m ∧ eh_pw m < 4294967296 := by
    have := eh_pw_dist (n := 1) (q := fun _ => m) (s := fun _ => 1) (fun _ _ => Or.inl rfl) (fun i j h1 h2 => by omega)
    simp only [eh_sm, eh_pw, hm, if_true] at this ⊢
    have h0 : (0 : Int) < 2 ^ m := Int.pow_pos (by decide)
    omega
  omega
abbrev c_N_isShort : ByteArray := prog_3_method_8_code
def y_N_isShort : MethodName := ⟨"EarthHauls$Network", "isShort", "()Z"⟩
abbrev k_N_isShort : Cond := .code y_N_isShort c_N_isShort 2 (some .boolean)
theorem kin_N_isShort : k_N_isShort ∈ ew_t := tb_289
theorem dv_N_isShort : eh_dV y_N_isShort "EarthHauls$Network" 0 := ⟨rfl, by decide, by decide, by decide +kernel⟩
theorem d_N_isShort_0 : decode c_N_isShort 0 = .ok (.iconst 0, 1) := by decide +kernel
theorem d_N_isShort_1 : decode c_N_isShort 1 = .ok (.istore_n 1, 1) := by decide +kernel
theorem d_N_isShort_2 : decode c_N_isShort 2 = .ok (.iload_n 1, 1) := by decide +kernel
theorem d_N_isShort_3 : decode c_N_isShort 3 = .ok (.bipush 16, 2) := by decide +kernel
theorem d_N_isShort_5 : decode c_N_isShort 5 = .ok (.if_icmp .ge 22, 3) := by decide +kernel
theorem d_N_isShort_8 : decode c_N_isShort 8 = .ok (.aload_n 0, 1) := by decide +kernel
theorem d_N_isShort_9 : decode c_N_isShort 9 = .ok (.getfield 18, 3) := by decide +kernel
theorem d_N_isShort_12 : decode c_N_isShort 12 = .ok (.iload_n 1, 1) := by decide +kernel
theorem d_N_isShort_13 : decode c_N_isShort 13 = .ok (.iconst 1, 1) := by decide +kernel
theorem d_N_isShort_14 : decode c_N_isShort 14 = .ok (.iadd, 1) := by decide +kernel
theorem d_N_isShort_15 : decode c_N_isShort 15 = .ok (.iaload, 1) := by decide +kernel
theorem d_N_isShort_16 : decode c_N_isShort 16 = .ok (.ifCond .le 5, 3) := by decide +kernel
theorem d_N_isShort_19 : decode c_N_isShort 19 = .ok (.iconst 1, 1) := by decide +kernel
theorem d_N_isShort_20 : decode c_N_isShort 20 = .ok (.ireturn, 1) := by decide +kernel
theorem d_N_isShort_21 : decode c_N_isShort 21 = .ok (.iinc 1 2, 3) := by decide +kernel
theorem d_N_isShort_24 : decode c_N_isShort 24 = .ok (.goto (-22), 3) := by decide +kernel
theorem d_N_isShort_27 : decode c_N_isShort 27 = .ok (.iconst 0, 1) := by decide +kernel
theorem d_N_isShort_28 : decode c_N_isShort 28 = .ok (.ireturn, 1) := by decide +kernel
set_option maxHeartbeats 4000000 in
set_option maxRecDepth 100000 in
theorem r_N_isShort (l : Launch) (D : va_G) (cI cL : ClassId) (h0 qT qH qR qW qA qD qE : Nat) (K : Nat) (hK8 : 8 ≤ K) (hK41 : K ≤ 41) (cap x gR : Nat → Int) (hR : ∀ e, e < 2 * K → gR e = eh_rm cap x e) (hx9 : ∀ k, k < K → 0 ≤ x k ∧ x k ≤ 1000000000) (sh : Int) (hsh : (sh = 1 ∧ ∃ k, k < 8 ∧ 0 < x k) ∨ (sh = 0 ∧ ∀ k, k < 8 → ¬ 0 < x k)) : eh_R l y_N_isShort k_N_isShort 0 0 D classes [(cI, .int), (cL, .long)] [.ref h0] [(h0, .inr (1, [.ref qT, .ref qH, .ref qR, .ref qW, .ref qA, .ref qD, .ref qE, .int (eI ((2 * K : Nat) : Int))])), (qR, aI cI 82 gR)] (.int (eI sh)) := by
  refine Met.ofW (cc := c_N_isShort) (maxL := 2) (ret := (some .boolean)) (by decide) rfl ?_
  intro p e s m args below meth c s₁ B hml hv
  obtain ⟨hargs, hP, hK, hN⟩ := hv
  have hx := B.exec
  have hb := B.bytes
  have hrt := B.returns
  have hts := atoms_spec (ws := k_N_isShort :: ew_t) B.pre
  have htb : ∀ w ∈ ew_t, w.before args s = true := fun w h => hts w (List.mem_cons_of_mem _ h)
  have hown : s.vm.findClass "EarthHauls$Network" = some m.cls := findClass_of_methodNamed B.named
  have hlocks := B.notSynchronized
  have hE : entryFrame m args 2 = entryFrame m ([.ref h0] : List Value).toArray 2 := by rw [hargs]
  rw [hE]
  clear hE hts B hargs
  generalize hRe : (headSpec _ _).room = R
  have hR1 : R.frames = 0 := by rw [← hRe]; rfl
  have hR2 : R.locals = 0 := by rw [← hRe]; rfl
  clear hRe
  generalize hQ : MQ below _ _ s 0 0 _ = Q
  have hP : va_P D classes [(h0, .inr (1, [.ref qT, .ref qH, .ref qR, .ref qW, .ref qA, .ref qD, .ref qE, .int (eI ((2 * K : Nat) : Int))])), (qR, aI cI 82 gR)] s.heap := hP
  have hl := lv_entry ([.ref h0]) (n := 2) (Nat.le_of_ble_eq_true rfl)
  rw [lg_entry_eq]
  generalize (lg_sl ([.ref h0]) ++ List.replicate (2 - (lg_sl ([.ref h0])).length) Slot.unset).toArray = ls at hl ⊢
  have hl : lv_has ls 2 [(0, .ref h0)] := hl
  refine lv_iconst (v := eI 0) hx hb d_N_isShort_0 rfl ?_
  refine lv_istore_n hx hb d_N_isShort_1 rfl hl (by decide) rfl (fun ls hl => ?_)
  have hl : lv_has ls 2 [(1, .int (eI 0)), (0, .ref h0)] := hl
  have loop : ∀ (q j : Nat) (ls : Array Slot), 8 - j = q → j ≤ 8 → (∀ k, k < j → ¬ 0 < x k) → lv_has ls 2 [(1, .int (eI ((2 * j : Nat) : Int))), (0, .ref h0)] → W p l e R s m args below meth c s.heap [] 0 0 Q (F0 m 2 ls []) := by
    intro q
    induction q with
    | zero =>
      intro j ls hq hj hno hl
      have hz : 0 = sh := by
        rcases hsh with ⟨_, k, z1, z2⟩ | z
        · exact absurd z2 (hno k (by omega))
        · exact z.1.symm
      refine lv_iload_n hx hb d_N_isShort_2 rfl (lv_at hl 0 rfl) ?_
      refine lv_bipush (v := eI 16) hx hb d_N_isShort_3 (by decide) ?_
      refine we_icmp_ge (tgt := 27) hx hb (by constructor <;> omega) (by constructor <;> omega) d_N_isShort_5 rfl (fun hc5 => ?_) (fun hc5 => absurd hc5 (by omega))
      refine lv_iconst (v := eI 0) hx hb d_N_isShort_27 rfl ?_
      subst hQ
      exact W.zret (v := eI 0) hx hb hrt (by decide) (fun t9 ht hW => ⟨by rw [hz], ht⟩) (fun q h => by cases h) d_N_isShort_28
    | succ q ih =>
      intro j ls hq hj hno hl
      have hr1 := hR (2 * j + 1) (by omega)
      have hx1 := hx9 j (by omega)
      have hr2 : gR (2 * j + 1) = x j := by
        rw [hr1]
        unfold eh_rm
        rw [if_neg (by omega), show (2 * j + 1) / 2 = j by omega]
      refine lv_iload_n hx hb d_N_isShort_2 rfl (lv_at hl 0 rfl) ?_
      refine lv_bipush (v := eI 16) hx hb d_N_isShort_3 (by decide) ?_
      refine we_icmp_ge (tgt := 27) hx hb (by constructor <;> omega) (by constructor <;> omega) d_N_isShort_5 rfl (fun hc5 => absurd hc5 (by omega)) (fun hc5 => ?_)
      refine lv_aload_n hx hb d_N_isShort_8 rfl (lv_at hl 1 rfl) ?_
      refine va_get (D := D) (ci := 1) (v := .ref qR) (C := R_N) (T := T_N) (N := 8) hx hb htb in_N hown hK hP 0 rfl rfl 2 (by decide) (htb _ tb_35) (fun _ h9 => h9) rfl d_N_isShort_9 ?_
      refine lv_iload_n hx hb d_N_isShort_12 rfl (lv_at hl 0 rfl) ?_
      refine lv_iconst (v := eI 1) hx hb d_N_isShort_13 rfl ?_
      refine we_iadd hx hb d_N_isShort_14 ?_
      refine we_iald hx hb hK hP 1 0 rfl rfl (2 * j + 1) rfl (by omega) (by decide) d_N_isShort_15 ?_
      refine we_if_le (tgt := 21) hx hb (by constructor <;> omega) d_N_isShort_16 rfl (fun hc16 => ?_) (fun hc16 => ?_)
      ·
        refine lv_iinc (v := eI (((2 * j : Nat) : Int) + 2)) hx hb d_N_isShort_21 hl (k := 0) rfl (eI_add _ _) (by decide) rfl (fun ls hl => ?_)
        have hl : lv_has ls 2 [(1, .int (eI (((2 * j : Nat) : Int) + 2))), (0, .ref h0)] := hl
        refine lv_goto (tgt := 2) hx hb d_N_isShort_24 rfl ?_
        exact ih (j + 1) ls (by omega) (by omega) (fun k hk => by
          by_cases z : k = j
          · subst z; omega
          · exact hno k (by omega)) (lv_sub hl [0, 1] rfl)
      ·
        have hz : 1 = sh := by
          rcases hsh with z | ⟨_, z⟩
          · exact z.1.symm
          · exact absurd (by omega) (z j (by omega))
        refine lv_iconst (v := eI 1) hx hb d_N_isShort_19 rfl ?_
        subst hQ
        exact W.zret (v := eI 1) hx hb hrt (by decide) (fun t9 ht hW => ⟨by rw [hz], ht⟩) (fun q h => by cases h) d_N_isShort_20
  exact loop 8 0 ls (by omega) (by omega) (fun k hk => by omega) (lv_sub hl [0, 1] rfl)
abbrev c_N_sumOfCosts : ByteArray := prog_3_method_9_code
def y_N_sumOfCosts : MethodName := ⟨"EarthHauls$Network", "sumOfCosts", "()J"⟩
abbrev k_N_sumOfCosts : Cond := .code y_N_sumOfCosts c_N_sumOfCosts 5 (some .long)
theorem kin_N_sumOfCosts : k_N_sumOfCosts ∈ ew_t := tb_293
theorem dv_N_sumOfCosts : eh_dV y_N_sumOfCosts "EarthHauls$Network" 0 := ⟨rfl, by decide, by decide, by decide +kernel⟩
theorem d_N_sumOfCosts_0 : decode c_N_sumOfCosts 0 = .ok (.lconst 0, 1) := by decide +kernel
theorem d_N_sumOfCosts_1 : decode c_N_sumOfCosts 1 = .ok (.lstore_n 1, 1) := by decide +kernel
theorem d_N_sumOfCosts_2 : decode c_N_sumOfCosts 2 = .ok (.iconst 0, 1) := by decide +kernel
theorem d_N_sumOfCosts_3 : decode c_N_sumOfCosts 3 = .ok (.istore_n 3, 1) := by decide +kernel
theorem d_N_sumOfCosts_4 : decode c_N_sumOfCosts 4 = .ok (.iload_n 3, 1) := by decide +kernel
theorem d_N_sumOfCosts_5 : decode c_N_sumOfCosts 5 = .ok (.aload_n 0, 1) := by decide +kernel
theorem d_N_sumOfCosts_6 : decode c_N_sumOfCosts 6 = .ok (.getfield 25, 3) := by decide +kernel
theorem d_N_sumOfCosts_9 : decode c_N_sumOfCosts 9 = .ok (.arraylength, 1) := by decide +kernel
theorem d_N_sumOfCosts_10 : decode c_N_sumOfCosts 10 = .ok (.if_icmp .ge 47, 3) := by decide +kernel
theorem d_N_sumOfCosts_13 : decode c_N_sumOfCosts 13 = .ok (.aload_n 0, 1) := by decide +kernel
theorem d_N_sumOfCosts_14 : decode c_N_sumOfCosts 14 = .ok (.getfield 25, 3) := by decide +kernel
theorem d_N_sumOfCosts_17 : decode c_N_sumOfCosts 17 = .ok (.iload_n 3, 1) := by decide +kernel
theorem d_N_sumOfCosts_18 : decode c_N_sumOfCosts 18 = .ok (.iaload, 1) := by decide +kernel
theorem d_N_sumOfCosts_19 : decode c_N_sumOfCosts 19 = .ok (.istore 4, 2) := by decide +kernel
theorem d_N_sumOfCosts_21 : decode c_N_sumOfCosts 21 = .ok (.iload 4, 2) := by decide +kernel
theorem d_N_sumOfCosts_23 : decode c_N_sumOfCosts 23 = .ok (.iconst (-1), 1) := by decide +kernel
theorem d_N_sumOfCosts_24 : decode c_N_sumOfCosts 24 = .ok (.if_icmp .eq 27, 3) := by decide +kernel
theorem d_N_sumOfCosts_27 : decode c_N_sumOfCosts 27 = .ok (.lload_n 1, 1) := by decide +kernel
theorem d_N_sumOfCosts_28 : decode c_N_sumOfCosts 28 = .ok (.aload_n 0, 1) := by decide +kernel
theorem d_N_sumOfCosts_29 : decode c_N_sumOfCosts 29 = .ok (.getfield 21, 3) := by decide +kernel
theorem d_N_sumOfCosts_32 : decode c_N_sumOfCosts 32 = .ok (.iload 4, 2) := by decide +kernel
theorem d_N_sumOfCosts_34 : decode c_N_sumOfCosts 34 = .ok (.laload, 1) := by decide +kernel
theorem d_N_sumOfCosts_35 : decode c_N_sumOfCosts 35 = .ok (.bipush 32, 2) := by decide +kernel
theorem d_N_sumOfCosts_37 : decode c_N_sumOfCosts 37 = .ok (.lshr, 1) := by decide +kernel
theorem d_N_sumOfCosts_38 : decode c_N_sumOfCosts 38 = .ok (.aload_n 0, 1) := by decide +kernel
theorem d_N_sumOfCosts_39 : decode c_N_sumOfCosts 39 = .ok (.getfield 18, 3) := by decide +kernel
theorem d_N_sumOfCosts_42 : decode c_N_sumOfCosts 42 = .ok (.iload 4, 2) := by decide +kernel
theorem d_N_sumOfCosts_44 : decode c_N_sumOfCosts 44 = .ok (.iconst 1, 1) := by decide +kernel
theorem d_N_sumOfCosts_45 : decode c_N_sumOfCosts 45 = .ok (.iadd, 1) := by decide +kernel
theorem d_N_sumOfCosts_46 : decode c_N_sumOfCosts 46 = .ok (.iaload, 1) := by decide +kernel
theorem d_N_sumOfCosts_47 : decode c_N_sumOfCosts 47 = .ok (.i2l, 1) := by decide +kernel
theorem d_N_sumOfCosts_48 : decode c_N_sumOfCosts 48 = .ok (.lmul, 1) := by decide +kernel
theorem d_N_sumOfCosts_49 : decode c_N_sumOfCosts 49 = .ok (.ladd, 1) := by decide +kernel
theorem d_N_sumOfCosts_50 : decode c_N_sumOfCosts 50 = .ok (.lstore_n 1, 1) := by decide +kernel
theorem d_N_sumOfCosts_51 : decode c_N_sumOfCosts 51 = .ok (.iinc 3 1, 3) := by decide +kernel
theorem d_N_sumOfCosts_54 : decode c_N_sumOfCosts 54 = .ok (.goto (-50), 3) := by decide +kernel
theorem d_N_sumOfCosts_57 : decode c_N_sumOfCosts 57 = .ok (.lload_n 1, 1) := by decide +kernel
theorem d_N_sumOfCosts_58 : decode c_N_sumOfCosts 58 = .ok (.lreturn, 1) := by decide +kernel
set_option maxHeartbeats 4000000 in
set_option maxRecDepth 100000 in
theorem r_N_sumOfCosts (l : Launch) (D : va_G) (cI cL : ClassId) (h0 qT qH qR qW qA qD qE : Nat) (cs AA BB : Nat → Int) (K : Nat) (a b : Nat → Nat) (w cap x gT gH gR gW gA : Nat → Int) (hn : eh_net cs AA BB K a b w cap) (hns : eh_NS K a b w cap x gT gH gR gW) (hcs : ∀ k, k < 30 → -1 ≤ cs k ∧ cs k ≤ 100000) (hx9 : ∀ k, k < K → 0 ≤ x k ∧ x k ≤ 1000000000) (hgA : ∀ m, m < 30 → gA m = if 0 ≤ cs m then ((2 * (8 + eh_H cs m) : Nat) : Int) else -1) : eh_R l y_N_sumOfCosts k_N_sumOfCosts 0 0 D classes [(cI, .int), (cL, .long)] [.ref h0] [(h0, .inr (1, [.ref qT, .ref qH, .ref qR, .ref qW, .ref qA, .ref qD, .ref qE, .int (eI ((2 * K : Nat) : Int))])), (qR, aI cI 82 gR), (qW, aL cL 82 gW), (qA, aI cI 30 gA)] (.long (eL (eh_tt cs (eh_xu cs x) 30))) := by
  refine Met.ofW (cc := c_N_sumOfCosts) (maxL := 5) (ret := (some .long)) (by decide) rfl ?_
  intro p e s m args below meth c s₁ B hml hv
  obtain ⟨hargs, hP, hK, hN⟩ := hv
  have hx := B.exec
  have hb := B.bytes
  have hrt := B.returns
  have hts := atoms_spec (ws := k_N_sumOfCosts :: ew_t) B.pre
  have htb : ∀ w ∈ ew_t, w.before args s = true := fun w h => hts w (List.mem_cons_of_mem _ h)
  have hown : s.vm.findClass "EarthHauls$Network" = some m.cls := findClass_of_methodNamed B.named
  have hlocks := B.notSynchronized
  have hE : entryFrame m args 5 = entryFrame m ([.ref h0] : List Value).toArray 5 := by rw [hargs]
  rw [hE]
  clear hE hts B hargs
  generalize hRe : (headSpec _ _).room = R
  have hR1 : R.frames = 0 := by rw [← hRe]; rfl
  have hR2 : R.locals = 0 := by rw [← hRe]; rfl
  clear hRe
  generalize hQ : MQ below _ _ s 0 0 _ = Q
  have hP : va_P D classes [(h0, .inr (1, [.ref qT, .ref qH, .ref qR, .ref qW, .ref qA, .ref qD, .ref qE, .int (eI ((2 * K : Nat) : Int))])), (qR, aI cI 82 gR), (qW, aL cL 82 gW), (qA, aI cI 30 gA)] s.heap := hP
  have hl := lv_entry ([.ref h0]) (n := 5) (Nat.le_of_ble_eq_true rfl)
  rw [lg_entry_eq]
  generalize (lg_sl ([.ref h0]) ++ List.replicate (5 - (lg_sl ([.ref h0])).length) Slot.unset).toArray = ls at hl ⊢
  have hl : lv_has ls 5 [(0, .ref h0)] := hl
  refine lv_lconst (v := eL 0) hx hb d_N_sumOfCosts_0 (by decide) ?_
  refine lv_lstore_n hx hb d_N_sumOfCosts_1 rfl hl (by decide) rfl (fun ls hl => ?_)
  have hl : lv_has ls 5 [(1, .long (eL 0)), (0, .ref h0)] := hl
  refine lv_iconst (v := eI 0) hx hb d_N_sumOfCosts_2 rfl ?_
  refine lv_istore_n hx hb d_N_sumOfCosts_3 rfl hl (by decide) rfl (fun ls hl => ?_)
  have hl : lv_has ls 5 [(3, .int (eI 0)), (1, .long (eL 0)), (0, .ref h0)] := hl
  have loop : ∀ (q j : Nat) (ls : Array Slot), 30 - j = q → j ≤ 30 → lv_has ls 5 [(3, .int (eI ((j : Nat) : Int))), (1, .long (eL (eh_tt cs (eh_xu cs x) j))), (0, .ref h0)] → W p l e R s m args below meth c s.heap [] 0 0 Q (F0 m 4 ls []) := by
    intro q
    induction q with
    | zero =>
      intro j ls hq hj hl
      have hj30 : j = 30 := by omega
      subst hj30
      refine lv_iload_n hx hb d_N_sumOfCosts_4 rfl (lv_at hl 0 rfl) ?_
      refine lv_aload_n hx hb d_N_sumOfCosts_5 rfl (lv_at hl 2 rfl) ?_
      refine va_get (D := D) (ci := 1) (v := .ref qA) (C := R_N) (T := T_N) (N := 8) hx hb htb in_N hown hK hP 0 rfl rfl 4 (by decide) (htb _ tb_37) (fun _ h9 => h9) rfl d_N_sumOfCosts_6 ?_
      refine va_alen (v := eI 30) hx hb hK hP 3 0 rfl rfl (by rfl) d_N_sumOfCosts_9 ?_
      refine we_icmp_ge (tgt := 57) hx hb (by constructor <;> omega) (by constructor <;> omega) d_N_sumOfCosts_10 rfl (fun hc10 => ?_) (fun hc10 => absurd hc10 (by omega))
      refine lv_lload_n hx hb d_N_sumOfCosts_57 rfl (lv_at hl 1 rfl) ?_
      subst hQ
      exact W.lret hx hb hrt (fun t9 ht hW => ⟨rfl, ht⟩) (fun q h => by cases h) d_N_sumOfCosts_58
    | succ q ih =>
      intro j ls hq hj hl
      have hga := hgA j (by omega)
      have hH := eh_H_le cs j
      have hcj := hcs j (by omega)
      refine lv_iload_n hx hb d_N_sumOfCosts_4 rfl (lv_at hl 0 rfl) ?_
      refine lv_aload_n hx hb d_N_sumOfCosts_5 rfl (lv_at hl 2 rfl) ?_
      refine va_get (D := D) (ci := 1) (v := .ref qA) (C := R_N) (T := T_N) (N := 8) hx hb htb in_N hown hK hP 0 rfl rfl 4 (by decide) (htb _ tb_37) (fun _ h9 => h9) rfl d_N_sumOfCosts_6 ?_
      refine va_alen (v := eI 30) hx hb hK hP 3 0 rfl rfl (by rfl) d_N_sumOfCosts_9 ?_
      refine we_icmp_ge (tgt := 57) hx hb (by constructor <;> omega) (by constructor <;> omega) d_N_sumOfCosts_10 rfl (fun hc10 => absurd hc10 (by omega)) (fun hc10 => ?_)
      refine lv_aload_n hx hb d_N_sumOfCosts_13 rfl (lv_at hl 2 rfl) ?_
      refine va_get (D := D) (ci := 1) (v := .ref qA) (C := R_N) (T := T_N) (N := 8) hx hb htb in_N hown hK hP 0 rfl rfl 4 (by decide) (htb _ tb_37) (fun _ h9 => h9) rfl d_N_sumOfCosts_14 ?_
      refine lv_iload_n hx hb d_N_sumOfCosts_17 rfl (lv_at hl 0 rfl) ?_
      refine we_iald hx hb hK hP 3 0 rfl rfl j rfl (by omega) (by decide) d_N_sumOfCosts_18 ?_
      refine lv_istore hx hb d_N_sumOfCosts_19 hl (by decide) rfl (fun ls hl => ?_)
      have hl : lv_has ls 5 [(4, .int (eI (gA j))), (3, .int (eI ((j : Nat) : Int))), (1, .long (eL (eh_tt cs (eh_xu cs x) j))), (0, .ref h0)] := hl
      refine lv_iload hx hb d_N_sumOfCosts_21 (lv_at hl 0 rfl) ?_
      refine lv_iconst (v := eI (-1)) hx hb d_N_sumOfCosts_23 rfl ?_
      refine we_icmp_eq (tgt := 51) hx hb (by rw [hga]; split <;> constructor <;> omega) (by constructor <;> omega) d_N_sumOfCosts_24 rfl (fun hc24 => ?_) (fun hc24 => ?_)
      ·
        refine lv_iinc (v := eI (((j : Nat) : Int) + 1)) hx hb d_N_sumOfCosts_51 hl (k := 1) rfl (eI_add _ _) (by decide) rfl (fun ls hl => ?_)
        have hl : lv_has ls 5 [(3, .int (eI (((j : Nat) : Int) + 1))), (4, .int (eI (gA j))), (1, .long (eL (eh_tt cs (eh_xu cs x) j))), (0, .ref h0)] := hl
        refine lv_goto (tgt := 4) hx hb d_N_sumOfCosts_54 rfl ?_
        have hneg : ¬ 0 ≤ cs j := by
          intro z
          rw [if_pos z] at hga
          omega
        have hs9 : eh_tt cs (eh_xu cs x) j = eh_tt cs (eh_xu cs x) (j + 1) := by
          show _ = eh_tt cs (eh_xu cs x) j + (if 0 ≤ cs j then _ else 0)
          rw [if_neg hneg]; omega
        rw [hs9] at hl
        exact ih (j + 1) ls (by omega) (by omega) (lv_sub hl [0, 2, 3] rfl)
      ·
        have hcj0 : 0 ≤ cs j := by
          apply Classical.byContradiction
          intro z
          rw [if_neg z] at hga
          exact hc24 hga
        have hga1 : gA j = ((2 * (8 + eh_H cs j) : Nat) : Int) := by rw [hga, if_pos hcj0]
        have hio : eh_io cs j = 8 + eh_H cs j := by unfold eh_io; rw [if_pos (by omega)]
        have hKK := hn.1
        have hio2 := eh_io_lt (c := cs) (u := j) (by omega) (fun _ => hcj0)
        have hH30 := eh_H_le cs 30
        have hlt1 : 2 * (8 + eh_H cs j) < 82 := by omega
        have hw1 : gW (2 * (8 + eh_H cs j)) = eh_uw cs j := by
          rw [(hns (2 * (8 + eh_H cs j)) (by omega)).2.2.2]
          unfold eh_wt
          rw [if_pos (by omega), show 2 * (8 + eh_H cs j) / 2 = 8 + eh_H cs j by omega, ← hio]
          exact (hn.2 j (by omega) (fun _ => hcj0)).2.2.1
        have hr1 : gR (2 * (8 + eh_H cs j) + 1) = eh_xu cs x j := by
          rw [(hns (2 * (8 + eh_H cs j) + 1) (by omega)).2.2.1, eh_xu_va (fun _ => hcj0), hio]
          unfold eh_rm
          rw [if_neg (by omega), show (2 * (8 + eh_H cs j) + 1) / 2 = 8 + eh_H cs j by omega]
        have hr9 := hx9 (8 + eh_H cs j) (by omega)
        have hr8 : eh_xu cs x j = x (8 + eh_H cs j) := by rw [eh_xu_va (fun _ => hcj0), hio]
        refine lv_lload_n hx hb d_N_sumOfCosts_27 rfl (lv_at hl 2 rfl) ?_
        refine lv_aload_n hx hb d_N_sumOfCosts_28 rfl (lv_at hl 3 rfl) ?_
        refine va_get (D := D) (ci := 1) (v := .ref qW) (C := R_N) (T := T_N) (N := 8) hx hb htb in_N hown hK hP 0 rfl rfl 3 (by decide) (htb _ tb_36) (fun _ h9 => h9) rfl d_N_sumOfCosts_29 ?_
        refine lv_iload hx hb d_N_sumOfCosts_32 (lv_at hl 0 rfl) ?_
        refine we_lald hx hb hK hP 2 1 rfl rfl (2 * (8 + eh_H cs j)) hga1 hlt1 (by decide) d_N_sumOfCosts_34 ?_
        refine lv_bipush (v := eI 32) hx hb d_N_sumOfCosts_35 (by decide) ?_
        refine lv_lshr (v := eL (cs j)) hx hb d_N_sumOfCosts_37 (by rw [eh_shr32 (by rw [hw1]; have := eh_uw_b hcs j; constructor <;> omega), hw1, eh_w32 (by omega)]) ?_
        refine lv_aload_n hx hb d_N_sumOfCosts_38 rfl (lv_at hl 3 rfl) ?_
        refine va_get (D := D) (ci := 1) (v := .ref qR) (C := R_N) (T := T_N) (N := 8) hx hb htb in_N hown hK hP 0 rfl rfl 2 (by decide) (htb _ tb_35) (fun _ h9 => h9) rfl d_N_sumOfCosts_39 ?_
        refine lv_iload hx hb d_N_sumOfCosts_42 (lv_at hl 0 rfl) ?_
        refine lv_iconst (v := eI 1) hx hb d_N_sumOfCosts_44 rfl ?_
        refine we_iadd hx hb d_N_sumOfCosts_45 ?_
        refine we_iald hx hb hK hP 1 0 rfl rfl (2 * (8 + eh_H cs j) + 1) (by rw [hga1]; rfl) (by omega) (by decide) d_N_sumOfCosts_46 ?_
        refine we_i2l hx hb (by constructor <;> omega) d_N_sumOfCosts_47 ?_
        refine we_lmul hx hb d_N_sumOfCosts_48 ?_
        refine we_ladd hx hb d_N_sumOfCosts_49 ?_
        refine lv_lstore_n hx hb d_N_sumOfCosts_50 rfl hl (by decide) rfl (fun ls hl => ?_)
        have hl : lv_has ls 5 [(1, .long (eL ((eh_tt cs (eh_xu cs x) j) + ((cs j) * (gR (2 * (8 + eh_H cs j) + 1)))))), (4, .int (eI (gA j))), (3, .int (eI ((j : Nat) : Int))), (0, .ref h0)] := hl
        refine lv_iinc (v := eI (((j : Nat) : Int) + 1)) hx hb d_N_sumOfCosts_51 hl (k := 2) rfl (eI_add _ _) (by decide) rfl (fun ls hl => ?_)
        have hl : lv_has ls 5 [(3, .int (eI (((j : Nat) : Int) + 1))), (1, .long (eL ((eh_tt cs (eh_xu cs x) j) + ((cs j) * (gR (2 * (8 + eh_H cs j) + 1)))))), (4, .int (eI (gA j))), (0, .ref h0)] := hl
        refine lv_goto (tgt := 4) hx hb d_N_sumOfCosts_54 rfl ?_
        have hs9 : ((eh_tt cs (eh_xu cs x) j) + ((cs j) * (gR (2 * (8 + eh_H cs j) + 1)))) = eh_tt cs (eh_xu cs x) (j + 1) := by
          show _ = eh_tt cs (eh_xu cs x) j + (if 0 ≤ cs j then cs j * eh_xu cs x j else 0)
          rw [if_pos hcj0, hr1]
        rw [hs9] at hl
        exact ih (j + 1) ls (by omega) (by omega) (lv_sub hl [0, 1, 3] rfl)
  exact loop 30 0 ls (by omega) (by omega) (lv_sub hl [0, 1, 2] rfl)
abbrev c_N_hauledBy : ByteArray := prog_3_method_10_code
def y_N_hauledBy : MethodName := ⟨"EarthHauls$Network", "hauledBy", "(II)I"⟩
abbrev k_N_hauledBy : Cond := .code y_N_hauledBy c_N_hauledBy 4 (some .int)
theorem kin_N_hauledBy : k_N_hauledBy ∈ ew_t := tb_529
theorem dv_N_hauledBy : eh_dV y_N_hauledBy "EarthHauls$Network" 2 := ⟨rfl, by decide, by decide, by decide +kernel⟩
theorem d_N_hauledBy_0 : decode c_N_hauledBy 0 = .ok (.aload_n 0, 1) := by decide +kernel
theorem d_N_hauledBy_1 : decode c_N_hauledBy 1 = .ok (.getfield 25, 3) := by decide +kernel
theorem d_N_hauledBy_4 : decode c_N_hauledBy 4 = .ok (.iload_n 1, 1) := by decide +kernel
theorem d_N_hauledBy_5 : decode c_N_hauledBy 5 = .ok (.iload_n 2, 1) := by decide +kernel
theorem d_N_hauledBy_6 : decode c_N_hauledBy 6 = .ok (.invokestatic 51, 3) := by decide +kernel
theorem d_N_hauledBy_9 : decode c_N_hauledBy 9 = .ok (.iaload, 1) := by decide +kernel
theorem d_N_hauledBy_10 : decode c_N_hauledBy 10 = .ok (.istore_n 3, 1) := by decide +kernel
theorem d_N_hauledBy_11 : decode c_N_hauledBy 11 = .ok (.iload_n 3, 1) := by decide +kernel
theorem d_N_hauledBy_12 : decode c_N_hauledBy 12 = .ok (.iconst (-1), 1) := by decide +kernel
theorem d_N_hauledBy_13 : decode c_N_hauledBy 13 = .ok (.if_icmp .ne 7, 3) := by decide +kernel
theorem d_N_hauledBy_16 : decode c_N_hauledBy 16 = .ok (.iconst 0, 1) := by decide +kernel
theorem d_N_hauledBy_17 : decode c_N_hauledBy 17 = .ok (.goto 11, 3) := by decide +kernel
theorem d_N_hauledBy_20 : decode c_N_hauledBy 20 = .ok (.aload_n 0, 1) := by decide +kernel
theorem d_N_hauledBy_21 : decode c_N_hauledBy 21 = .ok (.getfield 18, 3) := by decide +kernel
theorem d_N_hauledBy_24 : decode c_N_hauledBy 24 = .ok (.iload_n 3, 1) := by decide +kernel
theorem d_N_hauledBy_25 : decode c_N_hauledBy 25 = .ok (.iconst 1, 1) := by decide +kernel
theorem d_N_hauledBy_26 : decode c_N_hauledBy 26 = .ok (.iadd, 1) := by decide +kernel
theorem d_N_hauledBy_27 : decode c_N_hauledBy 27 = .ok (.iaload, 1) := by decide +kernel
theorem d_N_hauledBy_28 : decode c_N_hauledBy 28 = .ok (.ireturn, 1) := by decide +kernel
set_option maxHeartbeats 4000000 in
set_option maxRecDepth 100000 in
theorem r_N_hauledBy (l : Launch) (D : va_G) (cI cL : ClassId) (h0 qT qH qR qW qA qD qE : Nat) (cs AA BB : Nat → Int) (K : Nat) (a b : Nat → Nat) (w cap x gT gH gR gW gA : Nat → Int) (hn : eh_net cs AA BB K a b w cap) (hns : eh_NS K a b w cap x gT gH gR gW) (hgA : ∀ m, m < 30 → gA m = if 0 ≤ cs m then ((2 * (8 + eh_H cs m) : Nat) : Int) else -1) (y z : Nat) (hy : y < 6) (hz : z < 5) : eh_R l y_N_hauledBy k_N_hauledBy 1 21 D classes [(cI, .int), (cL, .long)] [.ref h0, .int (eI (y : Int)), .int (eI (z : Int))] [(h0, .inr (1, [.ref qT, .ref qH, .ref qR, .ref qW, .ref qA, .ref qD, .ref qE, .int (eI ((2 * K : Nat) : Int))])), (qR, aI cI 82 gR), (qA, aI cI 30 gA)] (.int (eI (eh_xu cs x (5 * y + z)))) := by
  refine Met.ofW (cc := c_N_hauledBy) (maxL := 4) (ret := (some .int)) (by decide) rfl ?_
  intro p e s m args below meth c s₁ B hml hv
  obtain ⟨hargs, hP, hK, hN⟩ := hv
  have hx := B.exec
  have hb := B.bytes
  have hrt := B.returns
  have hts := atoms_spec (ws := k_N_hauledBy :: ew_t) B.pre
  have htb : ∀ w ∈ ew_t, w.before args s = true := fun w h => hts w (List.mem_cons_of_mem _ h)
  have hown : s.vm.findClass "EarthHauls$Network" = some m.cls := findClass_of_methodNamed B.named
  have hlocks := B.notSynchronized
  have hE : entryFrame m args 4 = entryFrame m ([.ref h0, .int (eI (y : Int)), .int (eI (z : Int))] : List Value).toArray 4 := by rw [hargs]
  rw [hE]
  clear hE hts B hargs
  generalize hRe : (headSpec _ _).room = R
  have hR1 : R.frames = 1 := by rw [← hRe]; rfl
  have hR2 : R.locals = 21 := by rw [← hRe]; rfl
  clear hRe
  generalize hQ : MQ below _ _ s 0 0 _ = Q
  have hP : va_P D classes [(h0, .inr (1, [.ref qT, .ref qH, .ref qR, .ref qW, .ref qA, .ref qD, .ref qE, .int (eI ((2 * K : Nat) : Int))])), (qR, aI cI 82 gR), (qA, aI cI 30 gA)] s.heap := hP
  have hl := lv_entry ([.ref h0, .int (eI (y : Int)), .int (eI (z : Int))]) (n := 4) (Nat.le_of_ble_eq_true rfl)
  rw [lg_entry_eq]
  generalize (lg_sl ([.ref h0, .int (eI (y : Int)), .int (eI (z : Int))]) ++ List.replicate (4 - (lg_sl ([.ref h0, .int (eI (y : Int)), .int (eI (z : Int))])).length) Slot.unset).toArray = ls at hl ⊢
  have hl : lv_has ls 4 [(0, .ref h0), (1, .int (eI (y : Int))), (2, .int (eI (z : Int)))] := hl
  have hga := hgA (5 * y + z) (by omega)
  have hH := eh_H_le cs (5 * y + z)
  refine lv_aload_n hx hb d_N_hauledBy_0 rfl (lv_at hl 0 rfl) ?_
  refine va_get (D := D) (ci := 1) (v := .ref qA) (C := R_N) (T := T_N) (N := 8) hx hb htb in_N hown hK hP 0 rfl rfl 4 (by decide) (htb _ tb_37) (fun _ h9 => h9) rfl d_N_hauledBy_1 ?_
  refine lv_iload_n hx hb d_N_hauledBy_4 rfl (lv_at hl 1 rfl) ?_
  refine lv_iload_n hx hb d_N_hauledBy_5 rfl (lv_at hl 2 rfl) ?_
  refine eh_cRSN (As := [.int (eI (y : Int)), .int (eI (z : Int))]) (rest := [.ref qA]) (v := .int (eI ((5 * y + z : Nat) : Int))) hx hb hml hown htb hN (r_E_pairOf l D (y : Int) (z : Int)) 2 (ew_n_4 hN) tb_246 tb_1 kin_E_pairOf dv_E_pairOf ⟨by rw [hR1]; decide, by rw [hR2]; decide⟩ hK hP [] rfl [] rfl rfl rfl hl.1 (Nat.le_of_ble_eq_true rfl) d_N_hauledBy_6 ⟨Nat.zero_le _, Nat.zero_le _⟩ ?_
  refine we_iald hx hb hK hP 2 0 rfl rfl (5 * y + z) rfl (by omega) (by decide) d_N_hauledBy_9 ?_
  refine lv_istore_n hx hb d_N_hauledBy_10 rfl hl (by decide) rfl (fun ls hl => ?_)
  have hl : lv_has ls 4 [(3, .int (eI (gA (5 * y + z)))), (0, .ref h0), (1, .int (eI (y : Int))), (2, .int (eI (z : Int)))] := hl
  refine lv_iload_n hx hb d_N_hauledBy_11 rfl (lv_at hl 0 rfl) ?_
  refine lv_iconst (v := eI (-1)) hx hb d_N_hauledBy_12 rfl ?_
  refine we_icmp_ne (tgt := 20) hx hb (by rw [hga]; split <;> constructor <;> omega) (by constructor <;> omega) d_N_hauledBy_13 rfl (fun hc13 => ?_) (fun hc13 => ?_)
  ·
    have hcj0 : 0 ≤ cs (5 * y + z) := by
      apply Classical.byContradiction
      intro q
      rw [if_neg q] at hga
      omega
    have hga1 : gA (5 * y + z) = ((2 * (8 + eh_H cs (5 * y + z)) : Nat) : Int) := by rw [hga, if_pos hcj0]
    have hio : eh_io cs (5 * y + z) = 8 + eh_H cs (5 * y + z) := by unfold eh_io; rw [if_pos (by omega)]
    have hKK := hn.1
    have hio2 := eh_io_lt (c := cs) (u := 5 * y + z) (by omega) (fun _ => hcj0)
    have hH30 := eh_H_le cs 30
    have hr1 : gR (2 * (8 + eh_H cs (5 * y + z)) + 1) = eh_xu cs x (5 * y + z) := by
      rw [(hns (2 * (8 + eh_H cs (5 * y + z)) + 1) (by omega)).2.2.1, eh_xu_va (fun _ => hcj0), hio]
      unfold eh_rm
      rw [if_neg (by omega), show (2 * (8 + eh_H cs (5 * y + z)) + 1) / 2 = 8 + eh_H cs (5 * y + z) by omega]
    refine lv_aload_n hx hb d_N_hauledBy_20 rfl (lv_at hl 1 rfl) ?_
    refine va_get (D := D) (ci := 1) (v := .ref qR) (C := R_N) (T := T_N) (N := 8) hx hb htb in_N hown hK hP 0 rfl rfl 2 (by decide) (htb _ tb_35) (fun _ h9 => h9) rfl d_N_hauledBy_21 ?_
    refine lv_iload_n hx hb d_N_hauledBy_24 rfl (lv_at hl 0 rfl) ?_
    refine lv_iconst (v := eI 1) hx hb d_N_hauledBy_25 rfl ?_
    refine we_iadd hx hb d_N_hauledBy_26 ?_
    refine we_iald hx hb hK hP 1 0 rfl rfl (2 * (8 + eh_H cs (5 * y + z)) + 1) (by rw [hga1]; rfl) (by omega) (by decide) d_N_hauledBy_27 ?_
    have hres : (gR (2 * (8 + eh_H cs (5 * y + z)) + 1)) = (eh_xu cs x (5 * y + z)) := hr1
    rw [hres]
    subst hQ
    exact W.iret hx hb hrt (fun t9 ht hW => ⟨rfl, ht⟩) (fun q h => by cases h) d_N_hauledBy_28
  ·
    have hneg : ¬ 0 ≤ cs (5 * y + z) := by
      intro q
      rw [if_pos q] at hga
      omega
    refine lv_iconst (v := eI 0) hx hb d_N_hauledBy_16 rfl ?_
    refine lv_goto (tgt := 28) hx hb d_N_hauledBy_17 rfl ?_
    have hres : 0 = (eh_xu cs x (5 * y + z)) := by
      unfold eh_xu
      rw [if_pos ⟨by omega, hneg⟩]
    rw [hres]
    subst hQ
    exact W.iret hx hb hrt (fun t9 ht hW => ⟨rfl, ht⟩) (fun q h => by cases h) d_N_hauledBy_28
abbrev c_N_costOfWay : ByteArray := prog_3_method_13_code
def y_N_costOfWay : MethodName := ⟨"EarthHauls$Network", "costOfWay", "(II)J"⟩
abbrev k_N_costOfWay : Cond := .code y_N_costOfWay c_N_costOfWay 3 (some .long)
theorem kin_N_costOfWay : k_N_costOfWay ∈ ew_t := tb_544
theorem dv_N_costOfWay : eh_dV y_N_costOfWay "EarthHauls$Network" 2 := ⟨rfl, by decide, by decide, by decide +kernel⟩
theorem d_N_costOfWay_0 : decode c_N_costOfWay 0 = .ok (.aload_n 0, 1) := by decide +kernel
theorem d_N_costOfWay_1 : decode c_N_costOfWay 1 = .ok (.iload_n 1, 1) := by decide +kernel
theorem d_N_costOfWay_2 : decode c_N_costOfWay 2 = .ok (.invokevirtual 63, 3) := by decide +kernel
theorem d_N_costOfWay_5 : decode c_N_costOfWay 5 = .ok (.aload_n 0, 1) := by decide +kernel
theorem d_N_costOfWay_6 : decode c_N_costOfWay 6 = .ok (.getfield 28, 3) := by decide +kernel
theorem d_N_costOfWay_9 : decode c_N_costOfWay 9 = .ok (.iload_n 2, 1) := by decide +kernel
theorem d_N_costOfWay_10 : decode c_N_costOfWay 10 = .ok (.laload, 1) := by decide +kernel
theorem d_N_costOfWay_11 : decode c_N_costOfWay 11 = .ok (.ldc2_w 67, 3) := by decide +kernel
theorem d_N_costOfWay_14 : decode c_N_costOfWay 14 = .ok (.lcmp, 1) := by decide +kernel
theorem d_N_costOfWay_15 : decode c_N_costOfWay 15 = .ok (.ifCond .ge 19, 3) := by decide +kernel
theorem d_N_costOfWay_18 : decode c_N_costOfWay 18 = .ok (.aload_n 0, 1) := by decide +kernel
theorem d_N_costOfWay_19 : decode c_N_costOfWay 19 = .ok (.getfield 28, 3) := by decide +kernel
theorem d_N_costOfWay_22 : decode c_N_costOfWay 22 = .ok (.iload_n 2, 1) := by decide +kernel
theorem d_N_costOfWay_23 : decode c_N_costOfWay 23 = .ok (.laload, 1) := by decide +kernel
theorem d_N_costOfWay_24 : decode c_N_costOfWay 24 = .ok (.ldc2_w 69, 3) := by decide +kernel
theorem d_N_costOfWay_27 : decode c_N_costOfWay 27 = .ok (.ladd, 1) := by decide +kernel
theorem d_N_costOfWay_28 : decode c_N_costOfWay 28 = .ok (.bipush 32, 2) := by decide +kernel
theorem d_N_costOfWay_30 : decode c_N_costOfWay 30 = .ok (.lshr, 1) := by decide +kernel
theorem d_N_costOfWay_31 : decode c_N_costOfWay 31 = .ok (.goto 6, 3) := by decide +kernel
theorem d_N_costOfWay_34 : decode c_N_costOfWay 34 = .ok (.ldc2_w 71, 3) := by decide +kernel
theorem d_N_costOfWay_37 : decode c_N_costOfWay 37 = .ok (.lreturn, 1) := by decide +kernel
set_option maxHeartbeats 4000000 in
set_option maxRecDepth 100000 in
theorem m_N_costOfWay (l : Launch) (D : va_G) (cI cL : ClassId) (h0 qT qH qR qW qA qD qE : Nat) (K : Nat) (a b : Nat → Nat) (w cap x gT gH gR gW gD0 gE0 : Nat → Int) (st nd : Nat) (hst : st < 12) (hnd : nd < 12) (hns : eh_NS K a b w cap x gT gH gR gW) (hcx : eh_cx K a b w cap x) : eh_M (S := (Nat → Int) × (Nat → Int)) l y_N_costOfWay k_N_costOfWay 2 50 D classes [(cI, .int), (cL, .long)] [.ref h0, .int (eI (st : Int)), .int (eI (nd : Int))] [(h0, .inr (1, [.ref qT, .ref qH, .ref qR, .ref qW, .ref qA, .ref qD, .ref qE, .int (eI ((2 * K : Nat) : Int))])), (qT, aI cI 82 gT), (qH, aI cI 82 gH), (qR, aI cI 82 gR), (qW, aL cL 82 gW), (qD, aL cL 12 gD0), (qE, aI cI 12 gE0)] (fun u => eh_fE K a b w cap x st u.1 u.2) (fun u => some (.long (eL (if u.1 nd < 9007199254740992 then (u.1 nd + 2147483648) / 4294967296 else -1)))) (fun u => [(h0, .inr (1, [.ref qT, .ref qH, .ref qR, .ref qW, .ref qA, .ref qD, .ref qE, .int (eI ((2 * K : Nat) : Int))])), (qT, aI cI 82 gT), (qH, aI cI 82 gH), (qR, aI cI 82 gR), (qW, aL cL 82 gW), (qD, aL cL 12 u.1), (qE, aI cI 12 u.2)]) := by
  intro sz
  refine Met.ofW (cc := c_N_costOfWay) (maxL := 3) (ret := (some .long)) (by decide) rfl ?_
  intro p e s m args below meth c s₁ B hml hv
  obtain ⟨hargs, hsz, hP, hK, hD0, hN⟩ := hv
  have hx := B.exec
  have hb := B.bytes
  have hrt := B.returns
  have hts := atoms_spec (ws := k_N_costOfWay :: ew_t) B.pre
  have htb : ∀ w ∈ ew_t, w.before args s = true := fun w h => hts w (List.mem_cons_of_mem _ h)
  have hown : s.vm.findClass "EarthHauls$Network" = some m.cls := findClass_of_methodNamed B.named
  have hlocks := B.notSynchronized
  have hE : entryFrame m args 3 = entryFrame m ([.ref h0, .int (eI (st : Int)), .int (eI (nd : Int))] : List Value).toArray 3 := by rw [hargs]
  rw [hE]
  clear hE hts B hargs
  generalize hRe : (headSpec _ _).room = R
  have hR1 : R.frames = 2 := by rw [← hRe]; rfl
  have hR2 : R.locals = 50 := by rw [← hRe]; rfl
  clear hRe
  generalize hQ : MQ below _ _ s 0 0 _ = Q
  subst hsz
  have hD := hD0.self (sz := s.heap.size)
  generalize hAe : va_A [(h0, .inr (1, [.ref qT, .ref qH, .ref qR, .ref qW, .ref qA, .ref qD, .ref qE, .int (eI ((2 * K : Nat) : Int))])), (qT, aI cI 82 gT), (qH, aI cI 82 gH), (qR, aI cI 82 gR), (qW, aL cL 82 gW), (qD, aL cL 12 gD0), (qE, aI cI 12 gE0)] s.heap.size = A at hD hQ
  have hA : ∀ q : Nat, s.heap.size ≤ q → A q := fun q h => by rw [← hAe]; exact Or.inr h
  have hS : va_S A s.heap s.heap [] := va_S.rf
  have hP : va_P D classes [(h0, .inr (1, [.ref qT, .ref qH, .ref qR, .ref qW, .ref qA, .ref qD, .ref qE, .int (eI ((2 * K : Nat) : Int))])), (qT, aI cI 82 gT), (qH, aI cI 82 gH), (qR, aI cI 82 gR), (qW, aL cL 82 gW), (qD, aL cL 12 gD0), (qE, aI cI 12 gE0)] s.heap := hP
  have hl := lv_entry ([.ref h0, .int (eI (st : Int)), .int (eI (nd : Int))]) (n := 3) (Nat.le_of_ble_eq_true rfl)
  rw [lg_entry_eq]
  generalize (lg_sl ([.ref h0, .int (eI (st : Int)), .int (eI (nd : Int))]) ++ List.replicate (3 - (lg_sl ([.ref h0, .int (eI (st : Int)), .int (eI (nd : Int))])).length) Slot.unset).toArray = ls at hl ⊢
  have hl : lv_has ls 3 [(0, .ref h0), (1, .int (eI (st : Int))), (2, .int (eI (nd : Int)))] := hl
  refine lv_aload_n hx hb d_N_costOfWay_0 rfl (lv_at hl 0 rfl) ?_
  refine lv_iload_n hx hb d_N_costOfWay_1 rfl (lv_at hl 1 rfl) ?_
  refine eh_cMV (As := [.int (eI (st : Int))]) (rest := []) (q := (R_N, T_N, 8)) (wr := []) hx hb hml hown htb hN (m_N_findWays l D cI cL h0 qT qH qR qW qA qD qE K a b w cap x gT gH gR gW gD0 gE0 st hst hns hcx) 1 ⟨tb_265, tb_267, ts_15, tb_2, kin_N_findWays⟩ dv_N_findWays ⟨by rw [hR1]; decide, by rw [hR2]; decide⟩ hK hP hD hS hA 0 rfl rfl [0, 1, 2, 3, 4, 5, 6] [] rfl rfl (by decide) rfl (by decide) (by decide) [0, 1] rfl rfl rfl hl.1 (Nat.le_of_ble_eq_true rfl) d_N_costOfWay_2 ⟨Nat.zero_le _, Nat.zero_le _⟩ (fun u H locs hu hP hD hS => ?_)
  obtain ⟨gD2, gE2⟩ := u
  have hfE : eh_fE K a b w cap x st gD2 gE2 := hu
  have hdb : -216172782113783808 ≤ gD2 nd ∧ gD2 nd ≤ eh_F := by
    obtain ⟨d, et, k, j, bt, h1, hf, htr, hD, hE⟩ := hfE
    obtain ⟨c1, c2, c3, c4, pp, c5⟩ := hcx
    rw [hD nd hnd]
    exact ⟨by
      have := eh_bf_low (N := 12) (M := 18014398509481984) c5 (fun e he => (c2 e he).2) hst (fun e he => (c3 e he).1) (by decide) (by decide) h1 nd
      omega, h1.2.1 nd⟩
  have hF : eh_F = 4611686018427387904 := rfl
  have hP := hP.sub (ws' := [(h0, .inr (1, [.ref qT, .ref qH, .ref qR, .ref qW, .ref qA, .ref qD, .ref qE, .int (eI ((2 * K : Nat) : Int))])), (qT, aI cI 82 gT), (qH, aI cI 82 gH), (qR, aI cI 82 gR), (qW, aL cL 82 gW), (qD, aL cL 12 gD2), (qE, aI cI 12 gE2)]) [0, 1, 2, 3, 4, 5, 6] rfl
  have hD := hD.sub (ws' := [(h0, .inr (1, [.ref qT, .ref qH, .ref qR, .ref qW, .ref qA, .ref qD, .ref qE, .int (eI ((2 * K : Nat) : Int))])), (qT, aI cI 82 gT), (qH, aI cI 82 gH), (qR, aI cI 82 gR), (qW, aL cL 82 gW), (qD, aL cL 12 gD2), (qE, aI cI 12 gE2)]) [0, 1, 2, 3, 4, 5, 6] (by decide) rfl
  refine lv_aload_n hx hb d_N_costOfWay_5 rfl (lv_at hl 0 rfl) ?_
  refine va_get (D := D) (ci := 1) (v := .ref qD) (C := R_N) (T := T_N) (N := 8) hx hb htb in_N hown hK hP 0 rfl rfl 5 (by decide) (htb _ tb_38) (fun _ h9 => h9) rfl d_N_costOfWay_6 ?_
  refine lv_iload_n hx hb d_N_costOfWay_9 rfl (lv_at hl 2 rfl) ?_
  refine we_lald hx hb hK hP 5 1 rfl rfl nd rfl hnd (by decide) d_N_costOfWay_10 ?_
  refine we_ldc2 (a := 9007199254740992) hx hb hown (htb _ tb_545) (by decide) d_N_costOfWay_11 ?_
  refine we_lcmp_ge (pc2 := 15) (tgt := 34) hx hb (by constructor <;> omega) (by constructor <;> omega) d_N_costOfWay_14 rfl d_N_costOfWay_15 rfl (fun hc14 => ?_) (fun hc14 => ?_)
  ·
    refine we_ldc2 (a := (-1)) hx hb hown (htb _ tb_547) (by decide) d_N_costOfWay_34 ?_
    subst hQ
    exact W.lret hx hb hrt (fun t9 ht hW => ⟨⟨(gD2, gE2), by
      show Outcome.returned (some (Value.long (eL (-1)))) = Outcome.returned (some (Value.long (eL (if gD2 nd < 9007199254740992 then (gD2 nd + 2147483648) / 4294967296 else -1))))
      rw [if_neg (by omega)], hfE, by rw [ht]; exact hP, hD⟩, hS.F ht⟩) hS.2.2 d_N_costOfWay_37
  ·
    refine lv_aload_n hx hb d_N_costOfWay_18 rfl (lv_at hl 0 rfl) ?_
    refine va_get (D := D) (ci := 1) (v := .ref qD) (C := R_N) (T := T_N) (N := 8) hx hb htb in_N hown hK hP 0 rfl rfl 5 (by decide) (htb _ tb_38) (fun _ h9 => h9) rfl d_N_costOfWay_19 ?_
    refine lv_iload_n hx hb d_N_costOfWay_22 rfl (lv_at hl 2 rfl) ?_
    refine we_lald hx hb hK hP 5 1 rfl rfl nd rfl hnd (by decide) d_N_costOfWay_23 ?_
    refine we_ldc2 (a := 2147483648) hx hb hown (htb _ tb_546) (by decide) d_N_costOfWay_24 ?_
    refine we_ladd hx hb d_N_costOfWay_27 ?_
    refine lv_bipush (v := eI 32) hx hb d_N_costOfWay_28 (by decide) ?_
    refine lv_lshr (v := eL ((gD2 nd + 2147483648) / 4294967296)) hx hb d_N_costOfWay_30 (eh_shr32 (by constructor <;> omega)) ?_
    refine lv_goto (tgt := 37) hx hb d_N_costOfWay_31 rfl ?_
    subst hQ
    exact W.lret hx hb hrt (fun t9 ht hW => ⟨⟨(gD2, gE2), by
      show Outcome.returned (some (Value.long (eL ((gD2 nd + 2147483648) / 4294967296)))) = Outcome.returned (some (Value.long (eL (if gD2 nd < 9007199254740992 then (gD2 nd + 2147483648) / 4294967296 else -1))))
      rw [if_pos (by omega)], hfE, by rw [ht]; exact hP, hD⟩, hS.F ht⟩) hS.2.2 d_N_costOfWay_37
abbrev c_N_costOfMorePlaced : ByteArray := prog_3_method_11_code
def y_N_costOfMorePlaced : MethodName := ⟨"EarthHauls$Network", "costOfMorePlaced", "(I)J"⟩
abbrev k_N_costOfMorePlaced : Cond := .code y_N_costOfMorePlaced c_N_costOfMorePlaced 2 (some .long)
theorem kin_N_costOfMorePlaced : k_N_costOfMorePlaced ∈ ew_t := tb_540
theorem dv_N_costOfMorePlaced : eh_dV y_N_costOfMorePlaced "EarthHauls$Network" 1 := ⟨rfl, by decide, by decide, by decide +kernel⟩
theorem d_N_costOfMorePlaced_0 : decode c_N_costOfMorePlaced 0 = .ok (.aload_n 0, 1) := by decide +kernel
theorem d_N_costOfMorePlaced_1 : decode c_N_costOfMorePlaced 1 = .ok (.iload_n 1, 1) := by decide +kernel
theorem d_N_costOfMorePlaced_2 : decode c_N_costOfMorePlaced 2 = .ok (.bipush 11, 2) := by decide +kernel
theorem d_N_costOfMorePlaced_4 : decode c_N_costOfMorePlaced 4 = .ok (.invokevirtual 59, 3) := by decide +kernel
theorem d_N_costOfMorePlaced_7 : decode c_N_costOfMorePlaced 7 = .ok (.lreturn, 1) := by decide +kernel
set_option maxHeartbeats 4000000 in
set_option maxRecDepth 100000 in
theorem m_N_costOfMorePlaced (l : Launch) (D : va_G) (cI cL : ClassId) (h0 qT qH qR qW qA qD qE : Nat) (K : Nat) (a b : Nat → Nat) (w cap x gT gH gR gW gD0 gE0 : Nat → Int) (k : Nat) (hk : k < 4) (hns : eh_NS K a b w cap x gT gH gR gW) (hcx : eh_cx K a b w cap x) : eh_M (S := (Nat → Int) × (Nat → Int)) l y_N_costOfMorePlaced k_N_costOfMorePlaced 3 72 D classes [(cI, .int), (cL, .long)] [.ref h0, .int (eI (k : Int))] [(h0, .inr (1, [.ref qT, .ref qH, .ref qR, .ref qW, .ref qA, .ref qD, .ref qE, .int (eI ((2 * K : Nat) : Int))])), (qT, aI cI 82 gT), (qH, aI cI 82 gH), (qR, aI cI 82 gR), (qW, aL cL 82 gW), (qD, aL cL 12 gD0), (qE, aI cI 12 gE0)] (fun u => eh_fE K a b w cap x k u.1 u.2) (fun u => some (.long (eL (if u.1 11 < 9007199254740992 then (u.1 11 + 2147483648) / 4294967296 else -1)))) (fun u => [(h0, .inr (1, [.ref qT, .ref qH, .ref qR, .ref qW, .ref qA, .ref qD, .ref qE, .int (eI ((2 * K : Nat) : Int))])), (qT, aI cI 82 gT), (qH, aI cI 82 gH), (qR, aI cI 82 gR), (qW, aL cL 82 gW), (qD, aL cL 12 u.1), (qE, aI cI 12 u.2)]) := by
  intro sz
  refine Met.ofW (cc := c_N_costOfMorePlaced) (maxL := 2) (ret := (some .long)) (by decide) rfl ?_
  intro p e s m args below meth c s₁ B hml hv
  obtain ⟨hargs, hsz, hP, hK, hD0, hN⟩ := hv
  have hx := B.exec
  have hb := B.bytes
  have hrt := B.returns
  have hts := atoms_spec (ws := k_N_costOfMorePlaced :: ew_t) B.pre
  have htb : ∀ w ∈ ew_t, w.before args s = true := fun w h => hts w (List.mem_cons_of_mem _ h)
  have hown : s.vm.findClass "EarthHauls$Network" = some m.cls := findClass_of_methodNamed B.named
  have hlocks := B.notSynchronized
  have hE : entryFrame m args 2 = entryFrame m ([.ref h0, .int (eI (k : Int))] : List Value).toArray 2 := by rw [hargs]
  rw [hE]
  clear hE hts B hargs
  generalize hRe : (headSpec _ _).room = R
  have hR1 : R.frames = 3 := by rw [← hRe]; rfl
  have hR2 : R.locals = 72 := by rw [← hRe]; rfl
  clear hRe
  generalize hQ : MQ below _ _ s 0 0 _ = Q
  subst hsz
  have hD := hD0.self (sz := s.heap.size)
  generalize hAe : va_A [(h0, .inr (1, [.ref qT, .ref qH, .ref qR, .ref qW, .ref qA, .ref qD, .ref qE, .int (eI ((2 * K : Nat) : Int))])), (qT, aI cI 82 gT), (qH, aI cI 82 gH), (qR, aI cI 82 gR), (qW, aL cL 82 gW), (qD, aL cL 12 gD0), (qE, aI cI 12 gE0)] s.heap.size = A at hD hQ
  have hA : ∀ q : Nat, s.heap.size ≤ q → A q := fun q h => by rw [← hAe]; exact Or.inr h
  have hS : va_S A s.heap s.heap [] := va_S.rf
  have hP : va_P D classes [(h0, .inr (1, [.ref qT, .ref qH, .ref qR, .ref qW, .ref qA, .ref qD, .ref qE, .int (eI ((2 * K : Nat) : Int))])), (qT, aI cI 82 gT), (qH, aI cI 82 gH), (qR, aI cI 82 gR), (qW, aL cL 82 gW), (qD, aL cL 12 gD0), (qE, aI cI 12 gE0)] s.heap := hP
  have hl := lv_entry ([.ref h0, .int (eI (k : Int))]) (n := 2) (Nat.le_of_ble_eq_true rfl)
  rw [lg_entry_eq]
  generalize (lg_sl ([.ref h0, .int (eI (k : Int))]) ++ List.replicate (2 - (lg_sl ([.ref h0, .int (eI (k : Int))])).length) Slot.unset).toArray = ls at hl ⊢
  have hl : lv_has ls 2 [(0, .ref h0), (1, .int (eI (k : Int)))] := hl
  refine lv_aload_n hx hb d_N_costOfMorePlaced_0 rfl (lv_at hl 0 rfl) ?_
  refine lv_iload_n hx hb d_N_costOfMorePlaced_1 rfl (lv_at hl 1 rfl) ?_
  refine lv_bipush (v := eI 11) hx hb d_N_costOfMorePlaced_2 (by decide) ?_
  refine eh_cMV (As := [.int (eI (k : Int)), .int (eI 11)]) (rest := []) (q := (R_N, T_N, 8)) (wr := []) hx hb hml hown htb hN (m_N_costOfWay l D cI cL h0 qT qH qR qW qA qD qE K a b w cap x gT gH gR gW gD0 gE0 k 11 (by omega) (by omega) hns hcx) 2 ⟨tb_541, tb_543, ts_25, tb_2, kin_N_costOfWay⟩ dv_N_costOfWay ⟨by rw [hR1]; decide, by rw [hR2]; decide⟩ hK hP hD hS hA 0 rfl rfl [0, 1, 2, 3, 4, 5, 6] [] rfl rfl (by decide) rfl (by decide) (by decide) [0, 1] rfl rfl rfl hl.1 (Nat.le_of_ble_eq_true rfl) d_N_costOfMorePlaced_4 ⟨Nat.zero_le _, Nat.zero_le _⟩ (fun u H locs hu hP hD hS => ?_)
  have hP := hP.sub (ws' := [(h0, .inr (1, [.ref qT, .ref qH, .ref qR, .ref qW, .ref qA, .ref qD, .ref qE, .int (eI ((2 * K : Nat) : Int))])), (qT, aI cI 82 gT), (qH, aI cI 82 gH), (qR, aI cI 82 gR), (qW, aL cL 82 gW), (qD, aL cL 12 u.1), (qE, aI cI 12 u.2)]) [0, 1, 2, 3, 4, 5, 6] rfl
  have hD := hD.sub (ws' := [(h0, .inr (1, [.ref qT, .ref qH, .ref qR, .ref qW, .ref qA, .ref qD, .ref qE, .int (eI ((2 * K : Nat) : Int))])), (qT, aI cI 82 gT), (qH, aI cI 82 gH), (qR, aI cI 82 gR), (qW, aL cL 82 gW), (qD, aL cL 12 u.1), (qE, aI cI 12 u.2)]) [0, 1, 2, 3, 4, 5, 6] (by decide) rfl
  subst hQ
  exact W.lret hx hb hrt (fun t9 ht hW => ⟨⟨u, rfl, hu, by rw [ht]; exact hP, hD⟩, hS.F ht⟩) hS.2.2 d_N_costOfMorePlaced_7
abbrev c_N_costOfMoreFill : ByteArray := prog_3_method_12_code
def y_N_costOfMoreFill : MethodName := ⟨"EarthHauls$Network", "costOfMoreFill", "(I)J"⟩
abbrev k_N_costOfMoreFill : Cond := .code y_N_costOfMoreFill c_N_costOfMoreFill 2 (some .long)
theorem kin_N_costOfMoreFill : k_N_costOfMoreFill ∈ ew_t := tb_551
theorem dv_N_costOfMoreFill : eh_dV y_N_costOfMoreFill "EarthHauls$Network" 1 := ⟨rfl, by decide, by decide, by decide +kernel⟩
theorem d_N_costOfMoreFill_0 : decode c_N_costOfMoreFill 0 = .ok (.aload_n 0, 1) := by decide +kernel
theorem d_N_costOfMoreFill_1 : decode c_N_costOfMoreFill 1 = .ok (.bipush 11, 2) := by decide +kernel
theorem d_N_costOfMoreFill_3 : decode c_N_costOfMoreFill 3 = .ok (.bipush 6, 2) := by decide +kernel
theorem d_N_costOfMoreFill_5 : decode c_N_costOfMoreFill 5 = .ok (.iload_n 1, 1) := by decide +kernel
theorem d_N_costOfMoreFill_6 : decode c_N_costOfMoreFill 6 = .ok (.iadd, 1) := by decide +kernel
theorem d_N_costOfMoreFill_7 : decode c_N_costOfMoreFill 7 = .ok (.invokevirtual 59, 3) := by decide +kernel
theorem d_N_costOfMoreFill_10 : decode c_N_costOfMoreFill 10 = .ok (.lreturn, 1) := by decide +kernel
set_option maxHeartbeats 4000000 in
set_option maxRecDepth 100000 in
theorem m_N_costOfMoreFill (l : Launch) (D : va_G) (cI cL : ClassId) (h0 qT qH qR qW qA qD qE : Nat) (K : Nat) (a b : Nat → Nat) (w cap x gT gH gR gW gD0 gE0 : Nat → Int) (k : Nat) (hk : k < 4) (hns : eh_NS K a b w cap x gT gH gR gW) (hcx : eh_cx K a b w cap x) : eh_M (S := (Nat → Int) × (Nat → Int)) l y_N_costOfMoreFill k_N_costOfMoreFill 3 72 D classes [(cI, .int), (cL, .long)] [.ref h0, .int (eI (k : Int))] [(h0, .inr (1, [.ref qT, .ref qH, .ref qR, .ref qW, .ref qA, .ref qD, .ref qE, .int (eI ((2 * K : Nat) : Int))])), (qT, aI cI 82 gT), (qH, aI cI 82 gH), (qR, aI cI 82 gR), (qW, aL cL 82 gW), (qD, aL cL 12 gD0), (qE, aI cI 12 gE0)] (fun u => eh_fE K a b w cap x 11 u.1 u.2) (fun u => some (.long (eL (if u.1 (6 + k) < 9007199254740992 then (u.1 (6 + k) + 2147483648) / 4294967296 else -1)))) (fun u => [(h0, .inr (1, [.ref qT, .ref qH, .ref qR, .ref qW, .ref qA, .ref qD, .ref qE, .int (eI ((2 * K : Nat) : Int))])), (qT, aI cI 82 gT), (qH, aI cI 82 gH), (qR, aI cI 82 gR), (qW, aL cL 82 gW), (qD, aL cL 12 u.1), (qE, aI cI 12 u.2)]) := by
  intro sz
  refine Met.ofW (cc := c_N_costOfMoreFill) (maxL := 2) (ret := (some .long)) (by decide) rfl ?_
  intro p e s m args below meth c s₁ B hml hv
  obtain ⟨hargs, hsz, hP, hK, hD0, hN⟩ := hv
  have hx := B.exec
  have hb := B.bytes
  have hrt := B.returns
  have hts := atoms_spec (ws := k_N_costOfMoreFill :: ew_t) B.pre
  have htb : ∀ w ∈ ew_t, w.before args s = true := fun w h => hts w (List.mem_cons_of_mem _ h)
  have hown : s.vm.findClass "EarthHauls$Network" = some m.cls := findClass_of_methodNamed B.named
  have hlocks := B.notSynchronized
  have hE : entryFrame m args 2 = entryFrame m ([.ref h0, .int (eI (k : Int))] : List Value).toArray 2 := by rw [hargs]
  rw [hE]
  clear hE hts B hargs
  generalize hRe : (headSpec _ _).room = R
  have hR1 : R.frames = 3 := by rw [← hRe]; rfl
  have hR2 : R.locals = 72 := by rw [← hRe]; rfl
  clear hRe
  generalize hQ : MQ below _ _ s 0 0 _ = Q
  subst hsz
  have hD := hD0.self (sz := s.heap.size)
  generalize hAe : va_A [(h0, .inr (1, [.ref qT, .ref qH, .ref qR, .ref qW, .ref qA, .ref qD, .ref qE, .int (eI ((2 * K : Nat) : Int))])), (qT, aI cI 82 gT), (qH, aI cI 82 gH), (qR, aI cI 82 gR), (qW, aL cL 82 gW), (qD, aL cL 12 gD0), (qE, aI cI 12 gE0)] s.heap.size = A at hD hQ
  have hA : ∀ q : Nat, s.heap.size ≤ q → A q := fun q h => by rw [← hAe]; exact Or.inr h
  have hS : va_S A s.heap s.heap [] := va_S.rf
  have hP : va_P D classes [(h0, .inr (1, [.ref qT, .ref qH, .ref qR, .ref qW, .ref qA, .ref qD, .ref qE, .int (eI ((2 * K : Nat) : Int))])), (qT, aI cI 82 gT), (qH, aI cI 82 gH), (qR, aI cI 82 gR), (qW, aL cL 82 gW), (qD, aL cL 12 gD0), (qE, aI cI 12 gE0)] s.heap := hP
  have hl := lv_entry ([.ref h0, .int (eI (k : Int))]) (n := 2) (Nat.le_of_ble_eq_true rfl)
  rw [lg_entry_eq]
  generalize (lg_sl ([.ref h0, .int (eI (k : Int))]) ++ List.replicate (2 - (lg_sl ([.ref h0, .int (eI (k : Int))])).length) Slot.unset).toArray = ls at hl ⊢
  have hl : lv_has ls 2 [(0, .ref h0), (1, .int (eI (k : Int)))] := hl
  refine lv_aload_n hx hb d_N_costOfMoreFill_0 rfl (lv_at hl 0 rfl) ?_
  refine lv_bipush (v := eI 11) hx hb d_N_costOfMoreFill_1 (by decide) ?_
  refine lv_bipush (v := eI 6) hx hb d_N_costOfMoreFill_3 (by decide) ?_
  refine lv_iload_n hx hb d_N_costOfMoreFill_5 rfl (lv_at hl 1 rfl) ?_
  refine we_iadd hx hb d_N_costOfMoreFill_6 ?_
  refine eh_cMV (As := [.int (eI 11), .int (eI (6 + (k : Int)))]) (rest := []) (q := (R_N, T_N, 8)) (wr := []) hx hb hml hown htb hN (m_N_costOfWay l D cI cL h0 qT qH qR qW qA qD qE K a b w cap x gT gH gR gW gD0 gE0 11 (6 + k) (by omega) (by omega) hns hcx) 2 ⟨tb_541, tb_543, ts_25, tb_2, kin_N_costOfWay⟩ dv_N_costOfWay ⟨by rw [hR1]; decide, by rw [hR2]; decide⟩ hK hP hD hS hA 0 rfl rfl [0, 1, 2, 3, 4, 5, 6] [] rfl rfl (by decide) rfl (by decide) (by decide) [0, 1] rfl rfl rfl hl.1 (Nat.le_of_ble_eq_true rfl) d_N_costOfMoreFill_7 ⟨Nat.zero_le _, Nat.zero_le _⟩ (fun u H locs hu hP hD hS => ?_)
  have hP := hP.sub (ws' := [(h0, .inr (1, [.ref qT, .ref qH, .ref qR, .ref qW, .ref qA, .ref qD, .ref qE, .int (eI ((2 * K : Nat) : Int))])), (qT, aI cI 82 gT), (qH, aI cI 82 gH), (qR, aI cI 82 gR), (qW, aL cL 82 gW), (qD, aL cL 12 u.1), (qE, aI cI 12 u.2)]) [0, 1, 2, 3, 4, 5, 6] rfl
  have hD := hD.sub (ws' := [(h0, .inr (1, [.ref qT, .ref qH, .ref qR, .ref qW, .ref qA, .ref qD, .ref qE, .int (eI ((2 * K : Nat) : Int))])), (qT, aI cI 82 gT), (qH, aI cI 82 gH), (qR, aI cI 82 gR), (qW, aL cL 82 gW), (qD, aL cL 12 u.1), (qE, aI cI 12 u.2)]) [0, 1, 2, 3, 4, 5, 6] (by decide) rfl
  subst hQ
  exact W.lret hx hb hrt (fun t9 ht hW => ⟨⟨u, rfl, hu, by rw [ht]; exact hP, hD⟩, hS.F ht⟩) hS.2.2 d_N_costOfMoreFill_10
