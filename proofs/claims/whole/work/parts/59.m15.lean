abbrev c_M_balance : ByteArray := prog_7_method_20_code
def y_M_balance : MethodName := ⟨"EarthHaulsModel", "balance", "(I)I"⟩
abbrev k_M_balance : Cond := .code y_M_balance c_M_balance 7 (some .int)
theorem kin_M_balance : k_M_balance ∈ ew_t := tb_733
theorem dv_M_balance : eh_dV y_M_balance "EarthHaulsModel" 1 := ⟨rfl, by decide, by decide, by decide +kernel⟩
theorem d_M_balance_0 : decode c_M_balance 0 = .ok (.aload_n 0, 1) := by decide +kernel
theorem d_M_balance_1 : decode c_M_balance 1 = .ok (.iconst 0, 1) := by decide +kernel
theorem d_M_balance_2 : decode c_M_balance 2 = .ok (.putfield 64, 3) := by decide +kernel
theorem d_M_balance_5 : decode c_M_balance 5 = .ok (.iconst 0, 1) := by decide +kernel
theorem d_M_balance_6 : decode c_M_balance 6 = .ok (.istore_n 2, 1) := by decide +kernel
theorem d_M_balance_7 : decode c_M_balance 7 = .ok (.iconst 0, 1) := by decide +kernel
theorem d_M_balance_8 : decode c_M_balance 8 = .ok (.istore_n 3, 1) := by decide +kernel
theorem d_M_balance_9 : decode c_M_balance 9 = .ok (.iconst 0, 1) := by decide +kernel
theorem d_M_balance_10 : decode c_M_balance 10 = .ok (.istore 4, 2) := by decide +kernel
theorem d_M_balance_12 : decode c_M_balance 12 = .ok (.iload 4, 2) := by decide +kernel
theorem d_M_balance_14 : decode c_M_balance 14 = .ok (.aload_n 0, 1) := by decide +kernel
theorem d_M_balance_15 : decode c_M_balance 15 = .ok (.getfield 86, 3) := by decide +kernel
theorem d_M_balance_18 : decode c_M_balance 18 = .ok (.if_icmp .ge 76, 3) := by decide +kernel
theorem d_M_balance_21 : decode c_M_balance 21 = .ok (.aload_n 0, 1) := by decide +kernel
theorem d_M_balance_22 : decode c_M_balance 22 = .ok (.iload 4, 2) := by decide +kernel
theorem d_M_balance_24 : decode c_M_balance 24 = .ok (.invokevirtual 120, 3) := by decide +kernel
theorem d_M_balance_27 : decode c_M_balance 27 = .ok (.istore 5, 2) := by decide +kernel
theorem d_M_balance_29 : decode c_M_balance 29 = .ok (.iload 5, 2) := by decide +kernel
theorem d_M_balance_31 : decode c_M_balance 31 = .ok (.ifCond .eq 21, 3) := by decide +kernel
theorem d_M_balance_34 : decode c_M_balance 34 = .ok (.iload 5, 2) := by decide +kernel
theorem d_M_balance_36 : decode c_M_balance 36 = .ok (.ifCond .ge 7, 3) := by decide +kernel
theorem d_M_balance_39 : decode c_M_balance 39 = .ok (.iload_n 3, 1) := by decide +kernel
theorem d_M_balance_40 : decode c_M_balance 40 = .ok (.ifCond .gt 12, 3) := by decide +kernel
theorem d_M_balance_43 : decode c_M_balance 43 = .ok (.iload 5, 2) := by decide +kernel
theorem d_M_balance_45 : decode c_M_balance 45 = .ok (.ifCond .le 11, 3) := by decide +kernel
theorem d_M_balance_48 : decode c_M_balance 48 = .ok (.iload_n 3, 1) := by decide +kernel
theorem d_M_balance_49 : decode c_M_balance 49 = .ok (.ifCond .ge 7, 3) := by decide +kernel
theorem d_M_balance_52 : decode c_M_balance 52 = .ok (.iconst 1, 1) := by decide +kernel
theorem d_M_balance_53 : decode c_M_balance 53 = .ok (.goto 4, 3) := by decide +kernel
theorem d_M_balance_56 : decode c_M_balance 56 = .ok (.iconst 0, 1) := by decide +kernel
theorem d_M_balance_57 : decode c_M_balance 57 = .ok (.istore 6, 2) := by decide +kernel
theorem d_M_balance_59 : decode c_M_balance 59 = .ok (.iload 6, 2) := by decide +kernel
theorem d_M_balance_61 : decode c_M_balance 61 = .ok (.ifCond .eq 11, 3) := by decide +kernel
theorem d_M_balance_64 : decode c_M_balance 64 = .ok (.iload_n 2, 1) := by decide +kernel
theorem d_M_balance_65 : decode c_M_balance 65 = .ok (.iload_n 1, 1) := by decide +kernel
theorem d_M_balance_66 : decode c_M_balance 66 = .ok (.if_icmp .ne 6, 3) := by decide +kernel
theorem d_M_balance_69 : decode c_M_balance 69 = .ok (.iload 4, 2) := by decide +kernel
theorem d_M_balance_71 : decode c_M_balance 71 = .ok (.ireturn, 1) := by decide +kernel
theorem d_M_balance_72 : decode c_M_balance 72 = .ok (.iload 6, 2) := by decide +kernel
theorem d_M_balance_74 : decode c_M_balance 74 = .ok (.ifCond .eq 9, 3) := by decide +kernel
theorem d_M_balance_77 : decode c_M_balance 77 = .ok (.iload_n 2, 1) := by decide +kernel
theorem d_M_balance_78 : decode c_M_balance 78 = .ok (.iconst 1, 1) := by decide +kernel
theorem d_M_balance_79 : decode c_M_balance 79 = .ok (.iadd, 1) := by decide +kernel
theorem d_M_balance_80 : decode c_M_balance 80 = .ok (.goto 4, 3) := by decide +kernel
theorem d_M_balance_83 : decode c_M_balance 83 = .ok (.iload_n 2, 1) := by decide +kernel
theorem d_M_balance_84 : decode c_M_balance 84 = .ok (.istore_n 2, 1) := by decide +kernel
theorem d_M_balance_85 : decode c_M_balance 85 = .ok (.iload 5, 2) := by decide +kernel
theorem d_M_balance_87 : decode c_M_balance 87 = .ok (.istore_n 3, 1) := by decide +kernel
theorem d_M_balance_88 : decode c_M_balance 88 = .ok (.iinc 4 1, 3) := by decide +kernel
theorem d_M_balance_91 : decode c_M_balance 91 = .ok (.goto (-79), 3) := by decide +kernel
theorem d_M_balance_94 : decode c_M_balance 94 = .ok (.iconst (-1), 1) := by decide +kernel
theorem d_M_balance_95 : decode c_M_balance 95 = .ok (.ireturn, 1) := by decide +kernel
set_option maxHeartbeats 1000000 in
set_option maxRecDepth 100000 in
theorem m_M_balance (l : Launch) (D : va_G) (cI cL cZ : ClassId) (md : Nat → Nat) (co : Int) (n : Nat) (sh ra up lw kn fo : Int) (sc ln cb th pl lo pr la : Nat → Int) (cu cl fu fl : Nat → Nat) (ys yl yp : Nat → Int) (y : Int) (hy : -2147483648 ≤ y ∧ y < 2147483648) (hM : eh_MS n sh ra sc ln cb th pl lo pr la cu cl fu fl ys yl yp) : eh_M (S := Int × Int) l y_M_balance k_M_balance 5 137 D classes [(cI, .int), (cL, .long), (cZ, .boolean)] [.ref (md 0), .int (eI y)] [((md 0), .inr (5, [.int (eI co), .int (eI ((n : Nat) : Int)), .ref (md 1), .ref (md 2), .ref (md 3), .int (eI sh), .int (eI ra), .ref (md 4), .ref (md 5), .ref (md 6), .ref (md 7), .ref (md 8), .long (eL up), .long (eL lw), .ref (md 9), .ref (md 10), .ref (md 11), .ref (md 12), .ref (md 13), .ref (md 14), .ref (md 15), .int (eI kn), .int (eI fo)])), ((md 1), aI cI 25 sc), ((md 2), aI cI 4 ln), ((md 3), aI cZ 4 cb), ((md 4), aI cZ 3 th), ((md 5), aI cI 3 pl), ((md 6), aI cI 3 lo), ((md 7), aI cI 3 pr), ((md 8), aI cI 30 la)] (fun _ => True) (fun _ => some (.int (eI (eh_bl (eh_cv cu cl fu fl ln sh) n y)))) (fun u => [((md 0), .inr (5, [.int (eI 0), .int (eI ((n : Nat) : Int)), .ref (md 1), .ref (md 2), .ref (md 3), .int (eI sh), .int (eI ra), .ref (md 4), .ref (md 5), .ref (md 6), .ref (md 7), .ref (md 8), .long (eL u.1), .long (eL u.2), .ref (md 9), .ref (md 10), .ref (md 11), .ref (md 12), .ref (md 13), .ref (md 14), .ref (md 15), .int (eI kn), .int (eI fo)])), ((md 1), aI cI 25 sc), ((md 2), aI cI 4 ln), ((md 3), aI cZ 4 cb), ((md 4), aI cZ 3 th), ((md 5), aI cI 3 pl), ((md 6), aI cI 3 lo), ((md 7), aI cI 3 pr), ((md 8), aI cI 30 la)]) := by
  intro sz
  refine Met.ofW (cc := c_M_balance) (maxL := 7) (ret := (some .int)) (by decide) rfl ?_
  intro p e s m args below meth c s₁ B hml hv
  obtain ⟨hargs, hsz, hP, hK, hD0, hN⟩ := hv
  have hx := B.exec
  have hb := B.bytes
  have hrt := B.returns
  have hts := atoms_spec (ws := k_M_balance :: ew_t) B.pre
  have htb : ∀ w ∈ ew_t, w.before args s = true := fun w h => hts w (List.mem_cons_of_mem _ h)
  have hown : s.vm.findClass "EarthHaulsModel" = some m.cls := findClass_of_methodNamed B.named
  have hlocks := B.notSynchronized
  have hE : entryFrame m args 7 = entryFrame m ([.ref (md 0), .int (eI y)] : List Value).toArray 7 := by rw [hargs]
  rw [hE]
  clear hE hts B hargs
  generalize hRe : (headSpec _ _).room = R
  have hR1 : R.frames = 5 := by rw [← hRe]; rfl
  have hR2 : R.locals = 137 := by rw [← hRe]; rfl
  clear hRe
  generalize hQ : MQ below _ _ s 0 0 _ = Q
  subst hsz
  have hD := hD0.self (sz := s.heap.size)
  generalize hAe : va_A [((md 0), .inr (5, [.int (eI co), .int (eI ((n : Nat) : Int)), .ref (md 1), .ref (md 2), .ref (md 3), .int (eI sh), .int (eI ra), .ref (md 4), .ref (md 5), .ref (md 6), .ref (md 7), .ref (md 8), .long (eL up), .long (eL lw), .ref (md 9), .ref (md 10), .ref (md 11), .ref (md 12), .ref (md 13), .ref (md 14), .ref (md 15), .int (eI kn), .int (eI fo)])), ((md 1), aI cI 25 sc), ((md 2), aI cI 4 ln), ((md 3), aI cZ 4 cb), ((md 4), aI cZ 3 th), ((md 5), aI cI 3 pl), ((md 6), aI cI 3 lo), ((md 7), aI cI 3 pr), ((md 8), aI cI 30 la)] s.heap.size = A at hD hQ
  have hA : ∀ q : Nat, s.heap.size ≤ q → A q := fun q h => by rw [← hAe]; exact Or.inr h
  have hS : va_S A s.heap s.heap [] := va_S.rf
  have hP : va_P D classes [((md 0), .inr (5, [.int (eI co), .int (eI ((n : Nat) : Int)), .ref (md 1), .ref (md 2), .ref (md 3), .int (eI sh), .int (eI ra), .ref (md 4), .ref (md 5), .ref (md 6), .ref (md 7), .ref (md 8), .long (eL up), .long (eL lw), .ref (md 9), .ref (md 10), .ref (md 11), .ref (md 12), .ref (md 13), .ref (md 14), .ref (md 15), .int (eI kn), .int (eI fo)])), ((md 1), aI cI 25 sc), ((md 2), aI cI 4 ln), ((md 3), aI cZ 4 cb), ((md 4), aI cZ 3 th), ((md 5), aI cI 3 pl), ((md 6), aI cI 3 lo), ((md 7), aI cI 3 pr), ((md 8), aI cI 30 la)] s.heap := hP
  have hl := lv_entry ([.ref (md 0), .int (eI y)]) (n := 7) (Nat.le_of_ble_eq_true rfl)
  rw [lg_entry_eq]
  generalize (lg_sl ([.ref (md 0), .int (eI y)]) ++ List.replicate (7 - (lg_sl ([.ref (md 0), .int (eI y)])).length) Slot.unset).toArray = ls at hl ⊢
  have hl : lv_has ls 7 [(0, .ref (md 0)), (1, .int (eI y))] := hl
  refine lv_aload_n hx hb d_M_balance_0 rfl (lv_at hl 0 rfl) ?_
  refine lv_iconst (v := eI 0) hx hb d_M_balance_1 rfl ?_
  refine va_put (D := D) (ci := 5) (v := .int (eI 0)) (ty := .int) (C := R_M) (T := T_M) (N := 23) hx hb htb in_M t_M t_M_ok n_M hown hK hP hD hS 0 rfl rfl 0 (by decide) (htb _ tb_588) (fun _ h9 => h9) rfl (by decide +kernel) rfl rfl (Nat.le_of_ble_eq_true rfl) d_M_balance_2 (fun H locs hP hD hS => ?_)
  have hP : va_P D classes [((md 0), .inr (5, [.int (eI 0), .int (eI ((n : Nat) : Int)), .ref (md 1), .ref (md 2), .ref (md 3), .int (eI sh), .int (eI ra), .ref (md 4), .ref (md 5), .ref (md 6), .ref (md 7), .ref (md 8), .long (eL up), .long (eL lw), .ref (md 9), .ref (md 10), .ref (md 11), .ref (md 12), .ref (md 13), .ref (md 14), .ref (md 15), .int (eI kn), .int (eI fo)])), ((md 1), aI cI 25 sc), ((md 2), aI cI 4 ln), ((md 3), aI cZ 4 cb), ((md 4), aI cZ 3 th), ((md 5), aI cI 3 pl), ((md 6), aI cI 3 lo), ((md 7), aI cI 3 pr), ((md 8), aI cI 30 la)] H := hP
  have hD : va_D A [((md 0), .inr (5, [.int (eI 0), .int (eI ((n : Nat) : Int)), .ref (md 1), .ref (md 2), .ref (md 3), .int (eI sh), .int (eI ra), .ref (md 4), .ref (md 5), .ref (md 6), .ref (md 7), .ref (md 8), .long (eL up), .long (eL lw), .ref (md 9), .ref (md 10), .ref (md 11), .ref (md 12), .ref (md 13), .ref (md 14), .ref (md 15), .int (eI kn), .int (eI fo)])), ((md 1), aI cI 25 sc), ((md 2), aI cI 4 ln), ((md 3), aI cZ 4 cb), ((md 4), aI cZ 3 th), ((md 5), aI cI 3 pl), ((md 6), aI cI 3 lo), ((md 7), aI cI 3 pr), ((md 8), aI cI 30 la)] := hD
  refine lv_iconst (v := eI 0) hx hb d_M_balance_5 rfl ?_
  refine lv_istore_n hx hb d_M_balance_6 rfl hl (by decide) rfl (fun ls hl => ?_)
  have hl : lv_has ls 7 [(2, .int (eI 0)), (0, .ref (md 0)), (1, .int (eI y))] := hl
  refine lv_iconst (v := eI 0) hx hb d_M_balance_7 rfl ?_
  refine lv_istore_n hx hb d_M_balance_8 rfl hl (by decide) rfl (fun ls hl => ?_)
  have hl : lv_has ls 7 [(3, .int (eI 0)), (2, .int (eI 0)), (0, .ref (md 0)), (1, .int (eI y))] := hl
  refine lv_iconst (v := eI 0) hx hb d_M_balance_9 rfl ?_
  refine lv_istore hx hb d_M_balance_10 hl (by decide) rfl (fun ls hl => ?_)
  have hl : lv_has ls 7 [(4, .int (eI 0)), (3, .int (eI 0)), (2, .int (eI 0)), (0, .ref (md 0)), (1, .int (eI y))] := hl
  have loop : ∀ (q k : Nat) (up9 lw9 : Int) (H : Heap) (locs : List Loc) (ls : Array Slot), n - k = q → k ≤ n → eh_first (fun d => eh_isb (eh_cv cu cl fu fl ln sh) d && decide (eh_bc (eh_cv cu cl fu fl ln sh) d = y)) k = none → lv_has ls 7 [(4, .int (eI ((k : Nat) : Int))), (3, .int (eI (if k = 0 then 0 else (eh_cv cu cl fu fl ln sh) (k - 1)))), (2, .int (eI (eh_bc (eh_cv cu cl fu fl ln sh) k))), (0, .ref (md 0)), (1, .int (eI y))] → va_P D classes [((md 0), .inr (5, [.int (eI 0), .int (eI ((n : Nat) : Int)), .ref (md 1), .ref (md 2), .ref (md 3), .int (eI sh), .int (eI ra), .ref (md 4), .ref (md 5), .ref (md 6), .ref (md 7), .ref (md 8), .long (eL up9), .long (eL lw9), .ref (md 9), .ref (md 10), .ref (md 11), .ref (md 12), .ref (md 13), .ref (md 14), .ref (md 15), .int (eI kn), .int (eI fo)])), ((md 1), aI cI 25 sc), ((md 2), aI cI 4 ln), ((md 3), aI cZ 4 cb), ((md 4), aI cZ 3 th), ((md 5), aI cI 3 pl), ((md 6), aI cI 3 lo), ((md 7), aI cI 3 pr), ((md 8), aI cI 30 la)] H → va_D A [((md 0), .inr (5, [.int (eI 0), .int (eI ((n : Nat) : Int)), .ref (md 1), .ref (md 2), .ref (md 3), .int (eI sh), .int (eI ra), .ref (md 4), .ref (md 5), .ref (md 6), .ref (md 7), .ref (md 8), .long (eL up9), .long (eL lw9), .ref (md 9), .ref (md 10), .ref (md 11), .ref (md 12), .ref (md 13), .ref (md 14), .ref (md 15), .int (eI kn), .int (eI fo)])), ((md 1), aI cI 25 sc), ((md 2), aI cI 4 ln), ((md 3), aI cZ 4 cb), ((md 4), aI cZ 3 th), ((md 5), aI cI 3 pl), ((md 6), aI cI 3 lo), ((md 7), aI cI 3 pr), ((md 8), aI cI 30 la)] → va_S A s.heap H locs → W p l e R s m args below meth c H locs 0 0 Q (F0 m 12 ls []) := by
    intro q
    induction q with
    | zero =>
      intro k up9 lw9 H locs ls hq hk hfi hl hP hD hS
      have hn5 := hM.1.1
      have hkn : k = n := by omega
      refine lv_iload hx hb d_M_balance_12 (lv_at hl 0 rfl) ?_
      refine lv_aload_n hx hb d_M_balance_14 rfl (lv_at hl 3 rfl) ?_
      refine va_get (D := D) (ci := 5) (v := .int (eI ((n : Nat) : Int))) (C := R_M) (T := T_M) (N := 23) hx hb htb in_M hown hK hP 0 rfl rfl 1 (by decide) (htb _ tb_589) (fun _ h9 => h9) rfl d_M_balance_15 ?_
      refine we_icmp_ge (tgt := 94) hx hb (by constructor <;> omega) (by constructor <;> omega) d_M_balance_18 rfl (fun hc18 => ?_) (fun hc18 => absurd hc18 (by omega))
      refine lv_iconst (v := eI (-1)) hx hb d_M_balance_94 rfl ?_
      have hres : (-1 : Int) = (eh_bl (eh_cv cu cl fu fl ln sh) n y) := by
        rw [hkn] at hfi
        unfold eh_bl
        rw [hfi]
        rfl
      rw [hres]
      subst hQ
      exact W.iret hx hb hrt (fun t9 ht hW => ⟨⟨(up9, lw9), rfl, trivial, by rw [ht]; exact hP, hD⟩, hS.F ht⟩) hS.2.2 d_M_balance_95
    | succ q ih =>
      intro k up9 lw9 H locs ls hq hk hfi hl hP hD hS
      have hn5 := hM.1.1
      have hcb := eh_cv_b hM.1 k (by omega)
      have hbc := eh_bc_b (eh_cv cu cl fu fl ln sh) k
      have hpb : -100000000 ≤ (if k = 0 then 0 else (eh_cv cu cl fu fl ln sh) (k - 1)) ∧ (if k = 0 then 0 else (eh_cv cu cl fu fl ln sh) (k - 1)) ≤ 100000000 := by
        by_cases w : k = 0
        · rw [if_pos w]; omega
        · rw [if_neg w]
          have := eh_cv_b hM.1 (k - 1) (by omega)
          omega
      generalize hprv : (if k = 0 then 0 else (eh_cv cu cl fu fl ln sh) (k - 1)) = prv at hl hpb
      have hisb : eh_isb (eh_cv cu cl fu fl ln sh) k = decide ((eh_cv cu cl fu fl ln sh) k = 0 ∨ ((eh_cv cu cl fu fl ln sh) k < 0 ∧ 0 < prv) ∨ (0 < (eh_cv cu cl fu fl ln sh) k ∧ prv < 0)) := by unfold eh_isb; rw [hprv]
      rcases (show ((eh_cv cu cl fu fl ln sh) k = 0) ∨ ((eh_cv cu cl fu fl ln sh) k < 0 ∧ 0 < prv) ∨ ((eh_cv cu cl fu fl ln sh) k < 0 ∧ prv ≤ 0) ∨ (0 < (eh_cv cu cl fu fl ln sh) k ∧ prv < 0) ∨ (0 < (eh_cv cu cl fu fl ln sh) k ∧ 0 ≤ prv) by omega) with hcas | hcas | hcas | hcas | hcas
      ·
        have hib : eh_isb (eh_cv cu cl fu fl ln sh) k = true := by rw [hisb]; exact decide_eq_true (by omega)
        refine lv_iload hx hb d_M_balance_12 (lv_at hl 0 rfl) ?_
        refine lv_aload_n hx hb d_M_balance_14 rfl (lv_at hl 3 rfl) ?_
        refine va_get (D := D) (ci := 5) (v := .int (eI ((n : Nat) : Int))) (C := R_M) (T := T_M) (N := 23) hx hb htb in_M hown hK hP 0 rfl rfl 1 (by decide) (htb _ tb_589) (fun _ h9 => h9) rfl d_M_balance_15 ?_
        refine we_icmp_ge (tgt := 94) hx hb (by constructor <;> omega) (by constructor <;> omega) d_M_balance_18 rfl (fun hc18 => absurd hc18 (by omega)) (fun hc18 => ?_)
        refine lv_aload_n hx hb d_M_balance_21 rfl (lv_at hl 3 rfl) ?_
        refine lv_iload hx hb d_M_balance_22 (lv_at hl 0 rfl) ?_
        refine eh_cMV (As := [.int (eI ((k : Nat) : Int))]) (rest := []) (q := (R_M, T_M, 23)) (wr := []) hx hb hml hown htb hN (m_M_curveOf l D cI cL cZ md 0 n sh ra up9 lw9 kn fo sc ln cb th pl lo pr la cu cl fu fl ys yl yp k (by omega) hM) 1 ⟨tb_726, tb_728, ts_33, tb_7, kin_M_curveOf⟩ dv_M_curveOf ⟨by rw [hR1]; decide, by rw [hR2]; decide⟩ hK hP hD hS hA 0 rfl rfl [0, 1, 2, 3, 4, 5, 6, 7, 8] [] rfl rfl (by decide) rfl (by decide) (by decide) [0, 1, 2] rfl rfl rfl hl.1 (Nat.le_of_ble_eq_true rfl) d_M_balance_24 ⟨Nat.zero_le _, Nat.zero_le _⟩ (fun u H locs hu hP hD hS => ?_)
        obtain ⟨up1, lw1⟩ := u
        have hP := hP.sub (ws' := [((md 0), .inr (5, [.int (eI 0), .int (eI ((n : Nat) : Int)), .ref (md 1), .ref (md 2), .ref (md 3), .int (eI sh), .int (eI ra), .ref (md 4), .ref (md 5), .ref (md 6), .ref (md 7), .ref (md 8), .long (eL up1), .long (eL lw1), .ref (md 9), .ref (md 10), .ref (md 11), .ref (md 12), .ref (md 13), .ref (md 14), .ref (md 15), .int (eI kn), .int (eI fo)])), ((md 1), aI cI 25 sc), ((md 2), aI cI 4 ln), ((md 3), aI cZ 4 cb), ((md 4), aI cZ 3 th), ((md 5), aI cI 3 pl), ((md 6), aI cI 3 lo), ((md 7), aI cI 3 pr), ((md 8), aI cI 30 la)]) [0, 1, 2, 3, 4, 5, 6, 7, 8] rfl
        have hD := hD.sub (ws' := [((md 0), .inr (5, [.int (eI 0), .int (eI ((n : Nat) : Int)), .ref (md 1), .ref (md 2), .ref (md 3), .int (eI sh), .int (eI ra), .ref (md 4), .ref (md 5), .ref (md 6), .ref (md 7), .ref (md 8), .long (eL up1), .long (eL lw1), .ref (md 9), .ref (md 10), .ref (md 11), .ref (md 12), .ref (md 13), .ref (md 14), .ref (md 15), .int (eI kn), .int (eI fo)])), ((md 1), aI cI 25 sc), ((md 2), aI cI 4 ln), ((md 3), aI cZ 4 cb), ((md 4), aI cZ 3 th), ((md 5), aI cI 3 pl), ((md 6), aI cI 3 lo), ((md 7), aI cI 3 pr), ((md 8), aI cI 30 la)]) [0, 1, 2, 3, 4, 5, 6, 7, 8] (by decide) rfl
        refine lv_istore hx hb d_M_balance_27 hl (by decide) rfl (fun ls hl => ?_)
        have hl : lv_has ls 7 [(5, .int (eI ((eh_cv cu cl fu fl ln sh) k))), (4, .int (eI ((k : Nat) : Int))), (3, .int (eI prv)), (2, .int (eI (eh_bc (eh_cv cu cl fu fl ln sh) k))), (0, .ref (md 0)), (1, .int (eI y))] := hl
        refine lv_iload hx hb d_M_balance_29 (lv_at hl 0 rfl) ?_
        refine we_if_eq (tgt := 52) hx hb (by constructor <;> omega) d_M_balance_31 rfl (fun hc31 => ?_) (fun hc31 => absurd hc31 (by omega))
        refine lv_iconst (v := eI 1) hx hb d_M_balance_52 rfl ?_
        refine lv_goto (tgt := 57) hx hb d_M_balance_53 rfl ?_
        refine lv_istore hx hb d_M_balance_57 hl (by decide) rfl (fun ls hl => ?_)
        have hl : lv_has ls 7 [(6, .int (eI 1)), (5, .int (eI ((eh_cv cu cl fu fl ln sh) k))), (4, .int (eI ((k : Nat) : Int))), (3, .int (eI prv)), (2, .int (eI (eh_bc (eh_cv cu cl fu fl ln sh) k))), (0, .ref (md 0)), (1, .int (eI y))] := hl
        refine lv_iload hx hb d_M_balance_59 (lv_at hl 0 rfl) ?_
        refine we_if_eq (tgt := 72) hx hb (by constructor <;> omega) d_M_balance_61 rfl (fun hc61 => absurd hc61 (by omega)) (fun hc61 => ?_)
        refine lv_iload_n hx hb d_M_balance_64 rfl (lv_at hl 4 rfl) ?_
        refine lv_iload_n hx hb d_M_balance_65 rfl (lv_at hl 6 rfl) ?_
        refine we_icmp_ne (tgt := 72) hx hb (by constructor <;> omega) (by constructor <;> omega) d_M_balance_66 rfl (fun hc66 => ?_) (fun hc66 => ?_)
        ·
          refine lv_iload hx hb d_M_balance_72 (lv_at hl 0 rfl) ?_
          refine we_if_eq (tgt := 83) hx hb (by constructor <;> omega) d_M_balance_74 rfl (fun hc74 => absurd hc74 (by omega)) (fun hc74 => ?_)
          refine lv_iload_n hx hb d_M_balance_77 rfl (lv_at hl 4 rfl) ?_
          refine lv_iconst (v := eI 1) hx hb d_M_balance_78 rfl ?_
          refine we_iadd hx hb d_M_balance_79 ?_
          refine lv_goto (tgt := 84) hx hb d_M_balance_80 rfl ?_
          refine lv_istore_n hx hb d_M_balance_84 rfl hl (by decide) rfl (fun ls hl => ?_)
          have hl : lv_has ls 7 [(2, .int (eI ((eh_bc (eh_cv cu cl fu fl ln sh) k) + 1))), (6, .int (eI 1)), (5, .int (eI ((eh_cv cu cl fu fl ln sh) k))), (4, .int (eI ((k : Nat) : Int))), (3, .int (eI prv)), (0, .ref (md 0)), (1, .int (eI y))] := hl
          refine lv_iload hx hb d_M_balance_85 (lv_at hl 2 rfl) ?_
          refine lv_istore_n hx hb d_M_balance_87 rfl hl (by decide) rfl (fun ls hl => ?_)
          have hl : lv_has ls 7 [(3, .int (eI ((eh_cv cu cl fu fl ln sh) k))), (2, .int (eI ((eh_bc (eh_cv cu cl fu fl ln sh) k) + 1))), (6, .int (eI 1)), (5, .int (eI ((eh_cv cu cl fu fl ln sh) k))), (4, .int (eI ((k : Nat) : Int))), (0, .ref (md 0)), (1, .int (eI y))] := hl
          refine lv_iinc (v := eI (((k : Nat) : Int) + 1)) hx hb d_M_balance_88 hl (k := 4) rfl (eI_add _ _) (by decide) rfl (fun ls hl => ?_)
          have hl : lv_has ls 7 [(4, .int (eI (((k : Nat) : Int) + 1))), (3, .int (eI ((eh_cv cu cl fu fl ln sh) k))), (2, .int (eI ((eh_bc (eh_cv cu cl fu fl ln sh) k) + 1))), (6, .int (eI 1)), (5, .int (eI ((eh_cv cu cl fu fl ln sh) k))), (0, .ref (md 0)), (1, .int (eI y))] := hl
          refine lv_goto (tgt := 12) hx hb d_M_balance_91 rfl ?_
          have hpp : (fun d => eh_isb (eh_cv cu cl fu fl ln sh) d && decide (eh_bc (eh_cv cu cl fu fl ln sh) d = y)) k = false := by
            show (eh_isb (eh_cv cu cl fu fl ln sh) k && decide (eh_bc (eh_cv cu cl fu fl ln sh) k = y)) = false
            rw [hib, decide_eq_false (show ¬ eh_bc (eh_cv cu cl fu fl ln sh) k = y by omega)]
            rfl
          have hb9 : ((eh_bc (eh_cv cu cl fu fl ln sh) k) + 1) = eh_bc (eh_cv cu cl fu fl ln sh) (k + 1) := by
            show _ = eh_bc (eh_cv cu cl fu fl ln sh) k + (if eh_isb (eh_cv cu cl fu fl ln sh) k then 1 else 0)
            rw [hib]
            rfl
          have hp9 : (eh_cv cu cl fu fl ln sh) k = (if k + 1 = 0 then 0 else (eh_cv cu cl fu fl ln sh) (k + 1 - 1)) := by rw [if_neg (by omega), Nat.add_sub_cancel]
          have hl : lv_has ls 7 [(4, .int (eI (((k : Nat) : Int) + 1))), (3, .int (eI ((eh_cv cu cl fu fl ln sh) k))), (2, .int (eI ((eh_bc (eh_cv cu cl fu fl ln sh) k) + 1))), (0, .ref (md 0)), (1, .int (eI y))] := lv_sub hl [0, 1, 2, 5, 6] rfl
          rw [hb9] at hl
          exact ih (k + 1) up1 lw1 H locs ls (by omega) (by omega) (eh_first_s hfi hpp) (by rw [← hp9]; exact hl) hP hD hS
        ·
          refine lv_iload hx hb d_M_balance_69 (lv_at hl 2 rfl) ?_
          have hpp : (fun d => eh_isb (eh_cv cu cl fu fl ln sh) d && decide (eh_bc (eh_cv cu cl fu fl ln sh) d = y)) k = true := by
            show (eh_isb (eh_cv cu cl fu fl ln sh) k && decide (eh_bc (eh_cv cu cl fu fl ln sh) k = y)) = true
            rw [hib, decide_eq_true (show eh_bc (eh_cv cu cl fu fl ln sh) k = y by omega)]
            rfl
          have hres : ((k : Nat) : Int) = (eh_bl (eh_cv cu cl fu fl ln sh) n y) := by
            unfold eh_bl
            rw [eh_first_at hfi hpp n (by omega)]
            show _ = (0 : Int) + (k : Int)
            omega
          rw [hres]
          subst hQ
          exact W.iret hx hb hrt (fun t9 ht hW => ⟨⟨(up1, lw1), rfl, trivial, by rw [ht]; exact hP, hD⟩, hS.F ht⟩) hS.2.2 d_M_balance_71
      ·
        have hib : eh_isb (eh_cv cu cl fu fl ln sh) k = true := by rw [hisb]; exact decide_eq_true (by omega)
        refine lv_iload hx hb d_M_balance_12 (lv_at hl 0 rfl) ?_
        refine lv_aload_n hx hb d_M_balance_14 rfl (lv_at hl 3 rfl) ?_
        refine va_get (D := D) (ci := 5) (v := .int (eI ((n : Nat) : Int))) (C := R_M) (T := T_M) (N := 23) hx hb htb in_M hown hK hP 0 rfl rfl 1 (by decide) (htb _ tb_589) (fun _ h9 => h9) rfl d_M_balance_15 ?_
        refine we_icmp_ge (tgt := 94) hx hb (by constructor <;> omega) (by constructor <;> omega) d_M_balance_18 rfl (fun hc18 => absurd hc18 (by omega)) (fun hc18 => ?_)
        refine lv_aload_n hx hb d_M_balance_21 rfl (lv_at hl 3 rfl) ?_
        refine lv_iload hx hb d_M_balance_22 (lv_at hl 0 rfl) ?_
        refine eh_cMV (As := [.int (eI ((k : Nat) : Int))]) (rest := []) (q := (R_M, T_M, 23)) (wr := []) hx hb hml hown htb hN (m_M_curveOf l D cI cL cZ md 0 n sh ra up9 lw9 kn fo sc ln cb th pl lo pr la cu cl fu fl ys yl yp k (by omega) hM) 1 ⟨tb_726, tb_728, ts_33, tb_7, kin_M_curveOf⟩ dv_M_curveOf ⟨by rw [hR1]; decide, by rw [hR2]; decide⟩ hK hP hD hS hA 0 rfl rfl [0, 1, 2, 3, 4, 5, 6, 7, 8] [] rfl rfl (by decide) rfl (by decide) (by decide) [0, 1, 2] rfl rfl rfl hl.1 (Nat.le_of_ble_eq_true rfl) d_M_balance_24 ⟨Nat.zero_le _, Nat.zero_le _⟩ (fun u H locs hu hP hD hS => ?_)
        obtain ⟨up2, lw2⟩ := u
        have hP := hP.sub (ws' := [((md 0), .inr (5, [.int (eI 0), .int (eI ((n : Nat) : Int)), .ref (md 1), .ref (md 2), .ref (md 3), .int (eI sh), .int (eI ra), .ref (md 4), .ref (md 5), .ref (md 6), .ref (md 7), .ref (md 8), .long (eL up2), .long (eL lw2), .ref (md 9), .ref (md 10), .ref (md 11), .ref (md 12), .ref (md 13), .ref (md 14), .ref (md 15), .int (eI kn), .int (eI fo)])), ((md 1), aI cI 25 sc), ((md 2), aI cI 4 ln), ((md 3), aI cZ 4 cb), ((md 4), aI cZ 3 th), ((md 5), aI cI 3 pl), ((md 6), aI cI 3 lo), ((md 7), aI cI 3 pr), ((md 8), aI cI 30 la)]) [0, 1, 2, 3, 4, 5, 6, 7, 8] rfl
        have hD := hD.sub (ws' := [((md 0), .inr (5, [.int (eI 0), .int (eI ((n : Nat) : Int)), .ref (md 1), .ref (md 2), .ref (md 3), .int (eI sh), .int (eI ra), .ref (md 4), .ref (md 5), .ref (md 6), .ref (md 7), .ref (md 8), .long (eL up2), .long (eL lw2), .ref (md 9), .ref (md 10), .ref (md 11), .ref (md 12), .ref (md 13), .ref (md 14), .ref (md 15), .int (eI kn), .int (eI fo)])), ((md 1), aI cI 25 sc), ((md 2), aI cI 4 ln), ((md 3), aI cZ 4 cb), ((md 4), aI cZ 3 th), ((md 5), aI cI 3 pl), ((md 6), aI cI 3 lo), ((md 7), aI cI 3 pr), ((md 8), aI cI 30 la)]) [0, 1, 2, 3, 4, 5, 6, 7, 8] (by decide) rfl
        refine lv_istore hx hb d_M_balance_27 hl (by decide) rfl (fun ls hl => ?_)
        have hl : lv_has ls 7 [(5, .int (eI ((eh_cv cu cl fu fl ln sh) k))), (4, .int (eI ((k : Nat) : Int))), (3, .int (eI prv)), (2, .int (eI (eh_bc (eh_cv cu cl fu fl ln sh) k))), (0, .ref (md 0)), (1, .int (eI y))] := hl
        refine lv_iload hx hb d_M_balance_29 (lv_at hl 0 rfl) ?_
        refine we_if_eq (tgt := 52) hx hb (by constructor <;> omega) d_M_balance_31 rfl (fun hc31 => absurd hc31 (by omega)) (fun hc31 => ?_)
        refine lv_iload hx hb d_M_balance_34 (lv_at hl 0 rfl) ?_
        refine we_if_ge (tgt := 43) hx hb (by constructor <;> omega) d_M_balance_36 rfl (fun hc36 => absurd hc36 (by omega)) (fun hc36 => ?_)
        refine lv_iload_n hx hb d_M_balance_39 rfl (lv_at hl 2 rfl) ?_
        refine we_if_gt (tgt := 52) hx hb (by constructor <;> omega) d_M_balance_40 rfl (fun hc40 => ?_) (fun hc40 => absurd hc40 (by omega))
        refine lv_iconst (v := eI 1) hx hb d_M_balance_52 rfl ?_
        refine lv_goto (tgt := 57) hx hb d_M_balance_53 rfl ?_
        refine lv_istore hx hb d_M_balance_57 hl (by decide) rfl (fun ls hl => ?_)
        have hl : lv_has ls 7 [(6, .int (eI 1)), (5, .int (eI ((eh_cv cu cl fu fl ln sh) k))), (4, .int (eI ((k : Nat) : Int))), (3, .int (eI prv)), (2, .int (eI (eh_bc (eh_cv cu cl fu fl ln sh) k))), (0, .ref (md 0)), (1, .int (eI y))] := hl
        refine lv_iload hx hb d_M_balance_59 (lv_at hl 0 rfl) ?_
        refine we_if_eq (tgt := 72) hx hb (by constructor <;> omega) d_M_balance_61 rfl (fun hc61 => absurd hc61 (by omega)) (fun hc61 => ?_)
        refine lv_iload_n hx hb d_M_balance_64 rfl (lv_at hl 4 rfl) ?_
        refine lv_iload_n hx hb d_M_balance_65 rfl (lv_at hl 6 rfl) ?_
        refine we_icmp_ne (tgt := 72) hx hb (by constructor <;> omega) (by constructor <;> omega) d_M_balance_66 rfl (fun hc66 => ?_) (fun hc66 => ?_)
        ·
          refine lv_iload hx hb d_M_balance_72 (lv_at hl 0 rfl) ?_
          refine we_if_eq (tgt := 83) hx hb (by constructor <;> omega) d_M_balance_74 rfl (fun hc74 => absurd hc74 (by omega)) (fun hc74 => ?_)
          refine lv_iload_n hx hb d_M_balance_77 rfl (lv_at hl 4 rfl) ?_
          refine lv_iconst (v := eI 1) hx hb d_M_balance_78 rfl ?_
          refine we_iadd hx hb d_M_balance_79 ?_
          refine lv_goto (tgt := 84) hx hb d_M_balance_80 rfl ?_
          refine lv_istore_n hx hb d_M_balance_84 rfl hl (by decide) rfl (fun ls hl => ?_)
          have hl : lv_has ls 7 [(2, .int (eI ((eh_bc (eh_cv cu cl fu fl ln sh) k) + 1))), (6, .int (eI 1)), (5, .int (eI ((eh_cv cu cl fu fl ln sh) k))), (4, .int (eI ((k : Nat) : Int))), (3, .int (eI prv)), (0, .ref (md 0)), (1, .int (eI y))] := hl
          refine lv_iload hx hb d_M_balance_85 (lv_at hl 2 rfl) ?_
          refine lv_istore_n hx hb d_M_balance_87 rfl hl (by decide) rfl (fun ls hl => ?_)
          have hl : lv_has ls 7 [(3, .int (eI ((eh_cv cu cl fu fl ln sh) k))), (2, .int (eI ((eh_bc (eh_cv cu cl fu fl ln sh) k) + 1))), (6, .int (eI 1)), (5, .int (eI ((eh_cv cu cl fu fl ln sh) k))), (4, .int (eI ((k : Nat) : Int))), (0, .ref (md 0)), (1, .int (eI y))] := hl
          refine lv_iinc (v := eI (((k : Nat) : Int) + 1)) hx hb d_M_balance_88 hl (k := 4) rfl (eI_add _ _) (by decide) rfl (fun ls hl => ?_)
          have hl : lv_has ls 7 [(4, .int (eI (((k : Nat) : Int) + 1))), (3, .int (eI ((eh_cv cu cl fu fl ln sh) k))), (2, .int (eI ((eh_bc (eh_cv cu cl fu fl ln sh) k) + 1))), (6, .int (eI 1)), (5, .int (eI ((eh_cv cu cl fu fl ln sh) k))), (0, .ref (md 0)), (1, .int (eI y))] := hl
          refine lv_goto (tgt := 12) hx hb d_M_balance_91 rfl ?_
          have hpp : (fun d => eh_isb (eh_cv cu cl fu fl ln sh) d && decide (eh_bc (eh_cv cu cl fu fl ln sh) d = y)) k = false := by
            show (eh_isb (eh_cv cu cl fu fl ln sh) k && decide (eh_bc (eh_cv cu cl fu fl ln sh) k = y)) = false
            rw [hib, decide_eq_false (show ¬ eh_bc (eh_cv cu cl fu fl ln sh) k = y by omega)]
            rfl
          have hb9 : ((eh_bc (eh_cv cu cl fu fl ln sh) k) + 1) = eh_bc (eh_cv cu cl fu fl ln sh) (k + 1) := by
            show _ = eh_bc (eh_cv cu cl fu fl ln sh) k + (if eh_isb (eh_cv cu cl fu fl ln sh) k then 1 else 0)
            rw [hib]
            rfl
          have hp9 : (eh_cv cu cl fu fl ln sh) k = (if k + 1 = 0 then 0 else (eh_cv cu cl fu fl ln sh) (k + 1 - 1)) := by rw [if_neg (by omega), Nat.add_sub_cancel]
          have hl : lv_has ls 7 [(4, .int (eI (((k : Nat) : Int) + 1))), (3, .int (eI ((eh_cv cu cl fu fl ln sh) k))), (2, .int (eI ((eh_bc (eh_cv cu cl fu fl ln sh) k) + 1))), (0, .ref (md 0)), (1, .int (eI y))] := lv_sub hl [0, 1, 2, 5, 6] rfl
          rw [hb9] at hl
          exact ih (k + 1) up2 lw2 H locs ls (by omega) (by omega) (eh_first_s hfi hpp) (by rw [← hp9]; exact hl) hP hD hS
        ·
          refine lv_iload hx hb d_M_balance_69 (lv_at hl 2 rfl) ?_
          have hpp : (fun d => eh_isb (eh_cv cu cl fu fl ln sh) d && decide (eh_bc (eh_cv cu cl fu fl ln sh) d = y)) k = true := by
            show (eh_isb (eh_cv cu cl fu fl ln sh) k && decide (eh_bc (eh_cv cu cl fu fl ln sh) k = y)) = true
            rw [hib, decide_eq_true (show eh_bc (eh_cv cu cl fu fl ln sh) k = y by omega)]
            rfl
          have hres : ((k : Nat) : Int) = (eh_bl (eh_cv cu cl fu fl ln sh) n y) := by
            unfold eh_bl
            rw [eh_first_at hfi hpp n (by omega)]
            show _ = (0 : Int) + (k : Int)
            omega
          rw [hres]
          subst hQ
          exact W.iret hx hb hrt (fun t9 ht hW => ⟨⟨(up2, lw2), rfl, trivial, by rw [ht]; exact hP, hD⟩, hS.F ht⟩) hS.2.2 d_M_balance_71
      ·
        have hib : eh_isb (eh_cv cu cl fu fl ln sh) k = false := by rw [hisb]; exact decide_eq_false (by omega)
        refine lv_iload hx hb d_M_balance_12 (lv_at hl 0 rfl) ?_
        refine lv_aload_n hx hb d_M_balance_14 rfl (lv_at hl 3 rfl) ?_
        refine va_get (D := D) (ci := 5) (v := .int (eI ((n : Nat) : Int))) (C := R_M) (T := T_M) (N := 23) hx hb htb in_M hown hK hP 0 rfl rfl 1 (by decide) (htb _ tb_589) (fun _ h9 => h9) rfl d_M_balance_15 ?_
        refine we_icmp_ge (tgt := 94) hx hb (by constructor <;> omega) (by constructor <;> omega) d_M_balance_18 rfl (fun hc18 => absurd hc18 (by omega)) (fun hc18 => ?_)
        refine lv_aload_n hx hb d_M_balance_21 rfl (lv_at hl 3 rfl) ?_
        refine lv_iload hx hb d_M_balance_22 (lv_at hl 0 rfl) ?_
        refine eh_cMV (As := [.int (eI ((k : Nat) : Int))]) (rest := []) (q := (R_M, T_M, 23)) (wr := []) hx hb hml hown htb hN (m_M_curveOf l D cI cL cZ md 0 n sh ra up9 lw9 kn fo sc ln cb th pl lo pr la cu cl fu fl ys yl yp k (by omega) hM) 1 ⟨tb_726, tb_728, ts_33, tb_7, kin_M_curveOf⟩ dv_M_curveOf ⟨by rw [hR1]; decide, by rw [hR2]; decide⟩ hK hP hD hS hA 0 rfl rfl [0, 1, 2, 3, 4, 5, 6, 7, 8] [] rfl rfl (by decide) rfl (by decide) (by decide) [0, 1, 2] rfl rfl rfl hl.1 (Nat.le_of_ble_eq_true rfl) d_M_balance_24 ⟨Nat.zero_le _, Nat.zero_le _⟩ (fun u H locs hu hP hD hS => ?_)
        obtain ⟨up3, lw3⟩ := u
        have hP := hP.sub (ws' := [((md 0), .inr (5, [.int (eI 0), .int (eI ((n : Nat) : Int)), .ref (md 1), .ref (md 2), .ref (md 3), .int (eI sh), .int (eI ra), .ref (md 4), .ref (md 5), .ref (md 6), .ref (md 7), .ref (md 8), .long (eL up3), .long (eL lw3), .ref (md 9), .ref (md 10), .ref (md 11), .ref (md 12), .ref (md 13), .ref (md 14), .ref (md 15), .int (eI kn), .int (eI fo)])), ((md 1), aI cI 25 sc), ((md 2), aI cI 4 ln), ((md 3), aI cZ 4 cb), ((md 4), aI cZ 3 th), ((md 5), aI cI 3 pl), ((md 6), aI cI 3 lo), ((md 7), aI cI 3 pr), ((md 8), aI cI 30 la)]) [0, 1, 2, 3, 4, 5, 6, 7, 8] rfl
        have hD := hD.sub (ws' := [((md 0), .inr (5, [.int (eI 0), .int (eI ((n : Nat) : Int)), .ref (md 1), .ref (md 2), .ref (md 3), .int (eI sh), .int (eI ra), .ref (md 4), .ref (md 5), .ref (md 6), .ref (md 7), .ref (md 8), .long (eL up3), .long (eL lw3), .ref (md 9), .ref (md 10), .ref (md 11), .ref (md 12), .ref (md 13), .ref (md 14), .ref (md 15), .int (eI kn), .int (eI fo)])), ((md 1), aI cI 25 sc), ((md 2), aI cI 4 ln), ((md 3), aI cZ 4 cb), ((md 4), aI cZ 3 th), ((md 5), aI cI 3 pl), ((md 6), aI cI 3 lo), ((md 7), aI cI 3 pr), ((md 8), aI cI 30 la)]) [0, 1, 2, 3, 4, 5, 6, 7, 8] (by decide) rfl
        refine lv_istore hx hb d_M_balance_27 hl (by decide) rfl (fun ls hl => ?_)
        have hl : lv_has ls 7 [(5, .int (eI ((eh_cv cu cl fu fl ln sh) k))), (4, .int (eI ((k : Nat) : Int))), (3, .int (eI prv)), (2, .int (eI (eh_bc (eh_cv cu cl fu fl ln sh) k))), (0, .ref (md 0)), (1, .int (eI y))] := hl
        refine lv_iload hx hb d_M_balance_29 (lv_at hl 0 rfl) ?_
        refine we_if_eq (tgt := 52) hx hb (by constructor <;> omega) d_M_balance_31 rfl (fun hc31 => absurd hc31 (by omega)) (fun hc31 => ?_)
        refine lv_iload hx hb d_M_balance_34 (lv_at hl 0 rfl) ?_
        refine we_if_ge (tgt := 43) hx hb (by constructor <;> omega) d_M_balance_36 rfl (fun hc36 => absurd hc36 (by omega)) (fun hc36 => ?_)
        refine lv_iload_n hx hb d_M_balance_39 rfl (lv_at hl 2 rfl) ?_
        refine we_if_gt (tgt := 52) hx hb (by constructor <;> omega) d_M_balance_40 rfl (fun hc40 => absurd hc40 (by omega)) (fun hc40 => ?_)
        refine lv_iload hx hb d_M_balance_43 (lv_at hl 0 rfl) ?_
        refine we_if_le (tgt := 56) hx hb (by constructor <;> omega) d_M_balance_45 rfl (fun hc45 => ?_) (fun hc45 => absurd hc45 (by omega))
        refine lv_iconst (v := eI 0) hx hb d_M_balance_56 rfl ?_
        refine lv_istore hx hb d_M_balance_57 hl (by decide) rfl (fun ls hl => ?_)
        have hl : lv_has ls 7 [(6, .int (eI 0)), (5, .int (eI ((eh_cv cu cl fu fl ln sh) k))), (4, .int (eI ((k : Nat) : Int))), (3, .int (eI prv)), (2, .int (eI (eh_bc (eh_cv cu cl fu fl ln sh) k))), (0, .ref (md 0)), (1, .int (eI y))] := hl
        refine lv_iload hx hb d_M_balance_59 (lv_at hl 0 rfl) ?_
        refine we_if_eq (tgt := 72) hx hb (by constructor <;> omega) d_M_balance_61 rfl (fun hc61 => ?_) (fun hc61 => absurd hc61 (by omega))
        refine lv_iload hx hb d_M_balance_72 (lv_at hl 0 rfl) ?_
        refine we_if_eq (tgt := 83) hx hb (by constructor <;> omega) d_M_balance_74 rfl (fun hc74 => ?_) (fun hc74 => absurd hc74 (by omega))
        refine lv_iload_n hx hb d_M_balance_83 rfl (lv_at hl 4 rfl) ?_
        refine lv_istore_n hx hb d_M_balance_84 rfl hl (by decide) rfl (fun ls hl => ?_)
        have hl : lv_has ls 7 [(2, .int (eI (eh_bc (eh_cv cu cl fu fl ln sh) k))), (6, .int (eI 0)), (5, .int (eI ((eh_cv cu cl fu fl ln sh) k))), (4, .int (eI ((k : Nat) : Int))), (3, .int (eI prv)), (0, .ref (md 0)), (1, .int (eI y))] := hl
        refine lv_iload hx hb d_M_balance_85 (lv_at hl 2 rfl) ?_
        refine lv_istore_n hx hb d_M_balance_87 rfl hl (by decide) rfl (fun ls hl => ?_)
        have hl : lv_has ls 7 [(3, .int (eI ((eh_cv cu cl fu fl ln sh) k))), (2, .int (eI (eh_bc (eh_cv cu cl fu fl ln sh) k))), (6, .int (eI 0)), (5, .int (eI ((eh_cv cu cl fu fl ln sh) k))), (4, .int (eI ((k : Nat) : Int))), (0, .ref (md 0)), (1, .int (eI y))] := hl
        refine lv_iinc (v := eI (((k : Nat) : Int) + 1)) hx hb d_M_balance_88 hl (k := 4) rfl (eI_add _ _) (by decide) rfl (fun ls hl => ?_)
        have hl : lv_has ls 7 [(4, .int (eI (((k : Nat) : Int) + 1))), (3, .int (eI ((eh_cv cu cl fu fl ln sh) k))), (2, .int (eI (eh_bc (eh_cv cu cl fu fl ln sh) k))), (6, .int (eI 0)), (5, .int (eI ((eh_cv cu cl fu fl ln sh) k))), (0, .ref (md 0)), (1, .int (eI y))] := hl
        refine lv_goto (tgt := 12) hx hb d_M_balance_91 rfl ?_
        have hpp : (fun d => eh_isb (eh_cv cu cl fu fl ln sh) d && decide (eh_bc (eh_cv cu cl fu fl ln sh) d = y)) k = false := by
          show (eh_isb (eh_cv cu cl fu fl ln sh) k && decide (eh_bc (eh_cv cu cl fu fl ln sh) k = y)) = false
          rw [hib]
          rfl
        have hb9 : (eh_bc (eh_cv cu cl fu fl ln sh) k) = eh_bc (eh_cv cu cl fu fl ln sh) (k + 1) := by
          show _ = eh_bc (eh_cv cu cl fu fl ln sh) k + (if eh_isb (eh_cv cu cl fu fl ln sh) k then 1 else 0)
          rw [hib]
          show _ = _ + (0 : Int)
          omega
        have hp9 : (eh_cv cu cl fu fl ln sh) k = (if k + 1 = 0 then 0 else (eh_cv cu cl fu fl ln sh) (k + 1 - 1)) := by rw [if_neg (by omega), Nat.add_sub_cancel]
        have hl : lv_has ls 7 [(4, .int (eI (((k : Nat) : Int) + 1))), (3, .int (eI ((eh_cv cu cl fu fl ln sh) k))), (2, .int (eI (eh_bc (eh_cv cu cl fu fl ln sh) k))), (0, .ref (md 0)), (1, .int (eI y))] := lv_sub hl [0, 1, 2, 5, 6] rfl
        rw [hb9] at hl
        exact ih (k + 1) up3 lw3 H locs ls (by omega) (by omega) (eh_first_s hfi hpp) (by rw [← hp9]; exact hl) hP hD hS
      ·
        have hib : eh_isb (eh_cv cu cl fu fl ln sh) k = true := by rw [hisb]; exact decide_eq_true (by omega)
        refine lv_iload hx hb d_M_balance_12 (lv_at hl 0 rfl) ?_
        refine lv_aload_n hx hb d_M_balance_14 rfl (lv_at hl 3 rfl) ?_
        refine va_get (D := D) (ci := 5) (v := .int (eI ((n : Nat) : Int))) (C := R_M) (T := T_M) (N := 23) hx hb htb in_M hown hK hP 0 rfl rfl 1 (by decide) (htb _ tb_589) (fun _ h9 => h9) rfl d_M_balance_15 ?_
        refine we_icmp_ge (tgt := 94) hx hb (by constructor <;> omega) (by constructor <;> omega) d_M_balance_18 rfl (fun hc18 => absurd hc18 (by omega)) (fun hc18 => ?_)
        refine lv_aload_n hx hb d_M_balance_21 rfl (lv_at hl 3 rfl) ?_
        refine lv_iload hx hb d_M_balance_22 (lv_at hl 0 rfl) ?_
        refine eh_cMV (As := [.int (eI ((k : Nat) : Int))]) (rest := []) (q := (R_M, T_M, 23)) (wr := []) hx hb hml hown htb hN (m_M_curveOf l D cI cL cZ md 0 n sh ra up9 lw9 kn fo sc ln cb th pl lo pr la cu cl fu fl ys yl yp k (by omega) hM) 1 ⟨tb_726, tb_728, ts_33, tb_7, kin_M_curveOf⟩ dv_M_curveOf ⟨by rw [hR1]; decide, by rw [hR2]; decide⟩ hK hP hD hS hA 0 rfl rfl [0, 1, 2, 3, 4, 5, 6, 7, 8] [] rfl rfl (by decide) rfl (by decide) (by decide) [0, 1, 2] rfl rfl rfl hl.1 (Nat.le_of_ble_eq_true rfl) d_M_balance_24 ⟨Nat.zero_le _, Nat.zero_le _⟩ (fun u H locs hu hP hD hS => ?_)
        obtain ⟨up4, lw4⟩ := u
        have hP := hP.sub (ws' := [((md 0), .inr (5, [.int (eI 0), .int (eI ((n : Nat) : Int)), .ref (md 1), .ref (md 2), .ref (md 3), .int (eI sh), .int (eI ra), .ref (md 4), .ref (md 5), .ref (md 6), .ref (md 7), .ref (md 8), .long (eL up4), .long (eL lw4), .ref (md 9), .ref (md 10), .ref (md 11), .ref (md 12), .ref (md 13), .ref (md 14), .ref (md 15), .int (eI kn), .int (eI fo)])), ((md 1), aI cI 25 sc), ((md 2), aI cI 4 ln), ((md 3), aI cZ 4 cb), ((md 4), aI cZ 3 th), ((md 5), aI cI 3 pl), ((md 6), aI cI 3 lo), ((md 7), aI cI 3 pr), ((md 8), aI cI 30 la)]) [0, 1, 2, 3, 4, 5, 6, 7, 8] rfl
        have hD := hD.sub (ws' := [((md 0), .inr (5, [.int (eI 0), .int (eI ((n : Nat) : Int)), .ref (md 1), .ref (md 2), .ref (md 3), .int (eI sh), .int (eI ra), .ref (md 4), .ref (md 5), .ref (md 6), .ref (md 7), .ref (md 8), .long (eL up4), .long (eL lw4), .ref (md 9), .ref (md 10), .ref (md 11), .ref (md 12), .ref (md 13), .ref (md 14), .ref (md 15), .int (eI kn), .int (eI fo)])), ((md 1), aI cI 25 sc), ((md 2), aI cI 4 ln), ((md 3), aI cZ 4 cb), ((md 4), aI cZ 3 th), ((md 5), aI cI 3 pl), ((md 6), aI cI 3 lo), ((md 7), aI cI 3 pr), ((md 8), aI cI 30 la)]) [0, 1, 2, 3, 4, 5, 6, 7, 8] (by decide) rfl
        refine lv_istore hx hb d_M_balance_27 hl (by decide) rfl (fun ls hl => ?_)
        have hl : lv_has ls 7 [(5, .int (eI ((eh_cv cu cl fu fl ln sh) k))), (4, .int (eI ((k : Nat) : Int))), (3, .int (eI prv)), (2, .int (eI (eh_bc (eh_cv cu cl fu fl ln sh) k))), (0, .ref (md 0)), (1, .int (eI y))] := hl
        refine lv_iload hx hb d_M_balance_29 (lv_at hl 0 rfl) ?_
        refine we_if_eq (tgt := 52) hx hb (by constructor <;> omega) d_M_balance_31 rfl (fun hc31 => absurd hc31 (by omega)) (fun hc31 => ?_)
        refine lv_iload hx hb d_M_balance_34 (lv_at hl 0 rfl) ?_
        refine we_if_ge (tgt := 43) hx hb (by constructor <;> omega) d_M_balance_36 rfl (fun hc36 => ?_) (fun hc36 => absurd hc36 (by omega))
        refine lv_iload hx hb d_M_balance_43 (lv_at hl 0 rfl) ?_
        refine we_if_le (tgt := 56) hx hb (by constructor <;> omega) d_M_balance_45 rfl (fun hc45 => absurd hc45 (by omega)) (fun hc45 => ?_)
        refine lv_iload_n hx hb d_M_balance_48 rfl (lv_at hl 2 rfl) ?_
        refine we_if_ge (tgt := 56) hx hb (by constructor <;> omega) d_M_balance_49 rfl (fun hc49 => absurd hc49 (by omega)) (fun hc49 => ?_)
        refine lv_iconst (v := eI 1) hx hb d_M_balance_52 rfl ?_
        refine lv_goto (tgt := 57) hx hb d_M_balance_53 rfl ?_
        refine lv_istore hx hb d_M_balance_57 hl (by decide) rfl (fun ls hl => ?_)
        have hl : lv_has ls 7 [(6, .int (eI 1)), (5, .int (eI ((eh_cv cu cl fu fl ln sh) k))), (4, .int (eI ((k : Nat) : Int))), (3, .int (eI prv)), (2, .int (eI (eh_bc (eh_cv cu cl fu fl ln sh) k))), (0, .ref (md 0)), (1, .int (eI y))] := hl
        refine lv_iload hx hb d_M_balance_59 (lv_at hl 0 rfl) ?_
        refine we_if_eq (tgt := 72) hx hb (by constructor <;> omega) d_M_balance_61 rfl (fun hc61 => absurd hc61 (by omega)) (fun hc61 => ?_)
        refine lv_iload_n hx hb d_M_balance_64 rfl (lv_at hl 4 rfl) ?_
        refine lv_iload_n hx hb d_M_balance_65 rfl (lv_at hl 6 rfl) ?_
        refine we_icmp_ne (tgt := 72) hx hb (by constructor <;> omega) (by constructor <;> omega) d_M_balance_66 rfl (fun hc66 => ?_) (fun hc66 => ?_)
        ·
          refine lv_iload hx hb d_M_balance_72 (lv_at hl 0 rfl) ?_
          refine we_if_eq (tgt := 83) hx hb (by constructor <;> omega) d_M_balance_74 rfl (fun hc74 => absurd hc74 (by omega)) (fun hc74 => ?_)
          refine lv_iload_n hx hb d_M_balance_77 rfl (lv_at hl 4 rfl) ?_
          refine lv_iconst (v := eI 1) hx hb d_M_balance_78 rfl ?_
          refine we_iadd hx hb d_M_balance_79 ?_
          refine lv_goto (tgt := 84) hx hb d_M_balance_80 rfl ?_
          refine lv_istore_n hx hb d_M_balance_84 rfl hl (by decide) rfl (fun ls hl => ?_)
          have hl : lv_has ls 7 [(2, .int (eI ((eh_bc (eh_cv cu cl fu fl ln sh) k) + 1))), (6, .int (eI 1)), (5, .int (eI ((eh_cv cu cl fu fl ln sh) k))), (4, .int (eI ((k : Nat) : Int))), (3, .int (eI prv)), (0, .ref (md 0)), (1, .int (eI y))] := hl
          refine lv_iload hx hb d_M_balance_85 (lv_at hl 2 rfl) ?_
          refine lv_istore_n hx hb d_M_balance_87 rfl hl (by decide) rfl (fun ls hl => ?_)
          have hl : lv_has ls 7 [(3, .int (eI ((eh_cv cu cl fu fl ln sh) k))), (2, .int (eI ((eh_bc (eh_cv cu cl fu fl ln sh) k) + 1))), (6, .int (eI 1)), (5, .int (eI ((eh_cv cu cl fu fl ln sh) k))), (4, .int (eI ((k : Nat) : Int))), (0, .ref (md 0)), (1, .int (eI y))] := hl
          refine lv_iinc (v := eI (((k : Nat) : Int) + 1)) hx hb d_M_balance_88 hl (k := 4) rfl (eI_add _ _) (by decide) rfl (fun ls hl => ?_)
          have hl : lv_has ls 7 [(4, .int (eI (((k : Nat) : Int) + 1))), (3, .int (eI ((eh_cv cu cl fu fl ln sh) k))), (2, .int (eI ((eh_bc (eh_cv cu cl fu fl ln sh) k) + 1))), (6, .int (eI 1)), (5, .int (eI ((eh_cv cu cl fu fl ln sh) k))), (0, .ref (md 0)), (1, .int (eI y))] := hl
          refine lv_goto (tgt := 12) hx hb d_M_balance_91 rfl ?_
          have hpp : (fun d => eh_isb (eh_cv cu cl fu fl ln sh) d && decide (eh_bc (eh_cv cu cl fu fl ln sh) d = y)) k = false := by
            show (eh_isb (eh_cv cu cl fu fl ln sh) k && decide (eh_bc (eh_cv cu cl fu fl ln sh) k = y)) = false
            rw [hib, decide_eq_false (show ¬ eh_bc (eh_cv cu cl fu fl ln sh) k = y by omega)]
            rfl
          have hb9 : ((eh_bc (eh_cv cu cl fu fl ln sh) k) + 1) = eh_bc (eh_cv cu cl fu fl ln sh) (k + 1) := by
            show _ = eh_bc (eh_cv cu cl fu fl ln sh) k + (if eh_isb (eh_cv cu cl fu fl ln sh) k then 1 else 0)
            rw [hib]
            rfl
          have hp9 : (eh_cv cu cl fu fl ln sh) k = (if k + 1 = 0 then 0 else (eh_cv cu cl fu fl ln sh) (k + 1 - 1)) := by rw [if_neg (by omega), Nat.add_sub_cancel]
          have hl : lv_has ls 7 [(4, .int (eI (((k : Nat) : Int) + 1))), (3, .int (eI ((eh_cv cu cl fu fl ln sh) k))), (2, .int (eI ((eh_bc (eh_cv cu cl fu fl ln sh) k) + 1))), (0, .ref (md 0)), (1, .int (eI y))] := lv_sub hl [0, 1, 2, 5, 6] rfl
          rw [hb9] at hl
          exact ih (k + 1) up4 lw4 H locs ls (by omega) (by omega) (eh_first_s hfi hpp) (by rw [← hp9]; exact hl) hP hD hS
        ·
          refine lv_iload hx hb d_M_balance_69 (lv_at hl 2 rfl) ?_
          have hpp : (fun d => eh_isb (eh_cv cu cl fu fl ln sh) d && decide (eh_bc (eh_cv cu cl fu fl ln sh) d = y)) k = true := by
            show (eh_isb (eh_cv cu cl fu fl ln sh) k && decide (eh_bc (eh_cv cu cl fu fl ln sh) k = y)) = true
            rw [hib, decide_eq_true (show eh_bc (eh_cv cu cl fu fl ln sh) k = y by omega)]
            rfl
          have hres : ((k : Nat) : Int) = (eh_bl (eh_cv cu cl fu fl ln sh) n y) := by
            unfold eh_bl
            rw [eh_first_at hfi hpp n (by omega)]
            show _ = (0 : Int) + (k : Int)
            omega
          rw [hres]
          subst hQ
          exact W.iret hx hb hrt (fun t9 ht hW => ⟨⟨(up4, lw4), rfl, trivial, by rw [ht]; exact hP, hD⟩, hS.F ht⟩) hS.2.2 d_M_balance_71
      ·
        have hib : eh_isb (eh_cv cu cl fu fl ln sh) k = false := by rw [hisb]; exact decide_eq_false (by omega)
        refine lv_iload hx hb d_M_balance_12 (lv_at hl 0 rfl) ?_
        refine lv_aload_n hx hb d_M_balance_14 rfl (lv_at hl 3 rfl) ?_
        refine va_get (D := D) (ci := 5) (v := .int (eI ((n : Nat) : Int))) (C := R_M) (T := T_M) (N := 23) hx hb htb in_M hown hK hP 0 rfl rfl 1 (by decide) (htb _ tb_589) (fun _ h9 => h9) rfl d_M_balance_15 ?_
        refine we_icmp_ge (tgt := 94) hx hb (by constructor <;> omega) (by constructor <;> omega) d_M_balance_18 rfl (fun hc18 => absurd hc18 (by omega)) (fun hc18 => ?_)
        refine lv_aload_n hx hb d_M_balance_21 rfl (lv_at hl 3 rfl) ?_
        refine lv_iload hx hb d_M_balance_22 (lv_at hl 0 rfl) ?_
        refine eh_cMV (As := [.int (eI ((k : Nat) : Int))]) (rest := []) (q := (R_M, T_M, 23)) (wr := []) hx hb hml hown htb hN (m_M_curveOf l D cI cL cZ md 0 n sh ra up9 lw9 kn fo sc ln cb th pl lo pr la cu cl fu fl ys yl yp k (by omega) hM) 1 ⟨tb_726, tb_728, ts_33, tb_7, kin_M_curveOf⟩ dv_M_curveOf ⟨by rw [hR1]; decide, by rw [hR2]; decide⟩ hK hP hD hS hA 0 rfl rfl [0, 1, 2, 3, 4, 5, 6, 7, 8] [] rfl rfl (by decide) rfl (by decide) (by decide) [0, 1, 2] rfl rfl rfl hl.1 (Nat.le_of_ble_eq_true rfl) d_M_balance_24 ⟨Nat.zero_le _, Nat.zero_le _⟩ (fun u H locs hu hP hD hS => ?_)
        obtain ⟨up5, lw5⟩ := u
        have hP := hP.sub (ws' := [((md 0), .inr (5, [.int (eI 0), .int (eI ((n : Nat) : Int)), .ref (md 1), .ref (md 2), .ref (md 3), .int (eI sh), .int (eI ra), .ref (md 4), .ref (md 5), .ref (md 6), .ref (md 7), .ref (md 8), .long (eL up5), .long (eL lw5), .ref (md 9), .ref (md 10), .ref (md 11), .ref (md 12), .ref (md 13), .ref (md 14), .ref (md 15), .int (eI kn), .int (eI fo)])), ((md 1), aI cI 25 sc), ((md 2), aI cI 4 ln), ((md 3), aI cZ 4 cb), ((md 4), aI cZ 3 th), ((md 5), aI cI 3 pl), ((md 6), aI cI 3 lo), ((md 7), aI cI 3 pr), ((md 8), aI cI 30 la)]) [0, 1, 2, 3, 4, 5, 6, 7, 8] rfl
        have hD := hD.sub (ws' := [((md 0), .inr (5, [.int (eI 0), .int (eI ((n : Nat) : Int)), .ref (md 1), .ref (md 2), .ref (md 3), .int (eI sh), .int (eI ra), .ref (md 4), .ref (md 5), .ref (md 6), .ref (md 7), .ref (md 8), .long (eL up5), .long (eL lw5), .ref (md 9), .ref (md 10), .ref (md 11), .ref (md 12), .ref (md 13), .ref (md 14), .ref (md 15), .int (eI kn), .int (eI fo)])), ((md 1), aI cI 25 sc), ((md 2), aI cI 4 ln), ((md 3), aI cZ 4 cb), ((md 4), aI cZ 3 th), ((md 5), aI cI 3 pl), ((md 6), aI cI 3 lo), ((md 7), aI cI 3 pr), ((md 8), aI cI 30 la)]) [0, 1, 2, 3, 4, 5, 6, 7, 8] (by decide) rfl
        refine lv_istore hx hb d_M_balance_27 hl (by decide) rfl (fun ls hl => ?_)
        have hl : lv_has ls 7 [(5, .int (eI ((eh_cv cu cl fu fl ln sh) k))), (4, .int (eI ((k : Nat) : Int))), (3, .int (eI prv)), (2, .int (eI (eh_bc (eh_cv cu cl fu fl ln sh) k))), (0, .ref (md 0)), (1, .int (eI y))] := hl
        refine lv_iload hx hb d_M_balance_29 (lv_at hl 0 rfl) ?_
        refine we_if_eq (tgt := 52) hx hb (by constructor <;> omega) d_M_balance_31 rfl (fun hc31 => absurd hc31 (by omega)) (fun hc31 => ?_)
        refine lv_iload hx hb d_M_balance_34 (lv_at hl 0 rfl) ?_
        refine we_if_ge (tgt := 43) hx hb (by constructor <;> omega) d_M_balance_36 rfl (fun hc36 => ?_) (fun hc36 => absurd hc36 (by omega))
        refine lv_iload hx hb d_M_balance_43 (lv_at hl 0 rfl) ?_
        refine we_if_le (tgt := 56) hx hb (by constructor <;> omega) d_M_balance_45 rfl (fun hc45 => absurd hc45 (by omega)) (fun hc45 => ?_)
        refine lv_iload_n hx hb d_M_balance_48 rfl (lv_at hl 2 rfl) ?_
        refine we_if_ge (tgt := 56) hx hb (by constructor <;> omega) d_M_balance_49 rfl (fun hc49 => ?_) (fun hc49 => absurd hc49 (by omega))
        refine lv_iconst (v := eI 0) hx hb d_M_balance_56 rfl ?_
        refine lv_istore hx hb d_M_balance_57 hl (by decide) rfl (fun ls hl => ?_)
        have hl : lv_has ls 7 [(6, .int (eI 0)), (5, .int (eI ((eh_cv cu cl fu fl ln sh) k))), (4, .int (eI ((k : Nat) : Int))), (3, .int (eI prv)), (2, .int (eI (eh_bc (eh_cv cu cl fu fl ln sh) k))), (0, .ref (md 0)), (1, .int (eI y))] := hl
        refine lv_iload hx hb d_M_balance_59 (lv_at hl 0 rfl) ?_
        refine we_if_eq (tgt := 72) hx hb (by constructor <;> omega) d_M_balance_61 rfl (fun hc61 => ?_) (fun hc61 => absurd hc61 (by omega))
        refine lv_iload hx hb d_M_balance_72 (lv_at hl 0 rfl) ?_
        refine we_if_eq (tgt := 83) hx hb (by constructor <;> omega) d_M_balance_74 rfl (fun hc74 => ?_) (fun hc74 => absurd hc74 (by omega))
        refine lv_iload_n hx hb d_M_balance_83 rfl (lv_at hl 4 rfl) ?_
        refine lv_istore_n hx hb d_M_balance_84 rfl hl (by decide) rfl (fun ls hl => ?_)
        have hl : lv_has ls 7 [(2, .int (eI (eh_bc (eh_cv cu cl fu fl ln sh) k))), (6, .int (eI 0)), (5, .int (eI ((eh_cv cu cl fu fl ln sh) k))), (4, .int (eI ((k : Nat) : Int))), (3, .int (eI prv)), (0, .ref (md 0)), (1, .int (eI y))] := hl
        refine lv_iload hx hb d_M_balance_85 (lv_at hl 2 rfl) ?_
        refine lv_istore_n hx hb d_M_balance_87 rfl hl (by decide) rfl (fun ls hl => ?_)
        have hl : lv_has ls 7 [(3, .int (eI ((eh_cv cu cl fu fl ln sh) k))), (2, .int (eI (eh_bc (eh_cv cu cl fu fl ln sh) k))), (6, .int (eI 0)), (5, .int (eI ((eh_cv cu cl fu fl ln sh) k))), (4, .int (eI ((k : Nat) : Int))), (0, .ref (md 0)), (1, .int (eI y))] := hl
        refine lv_iinc (v := eI (((k : Nat) : Int) + 1)) hx hb d_M_balance_88 hl (k := 4) rfl (eI_add _ _) (by decide) rfl (fun ls hl => ?_)
        have hl : lv_has ls 7 [(4, .int (eI (((k : Nat) : Int) + 1))), (3, .int (eI ((eh_cv cu cl fu fl ln sh) k))), (2, .int (eI (eh_bc (eh_cv cu cl fu fl ln sh) k))), (6, .int (eI 0)), (5, .int (eI ((eh_cv cu cl fu fl ln sh) k))), (0, .ref (md 0)), (1, .int (eI y))] := hl
        refine lv_goto (tgt := 12) hx hb d_M_balance_91 rfl ?_
        have hpp : (fun d => eh_isb (eh_cv cu cl fu fl ln sh) d && decide (eh_bc (eh_cv cu cl fu fl ln sh) d = y)) k = false := by
          show (eh_isb (eh_cv cu cl fu fl ln sh) k && decide (eh_bc (eh_cv cu cl fu fl ln sh) k = y)) = false
          rw [hib]
          rfl
        have hb9 : (eh_bc (eh_cv cu cl fu fl ln sh) k) = eh_bc (eh_cv cu cl fu fl ln sh) (k + 1) := by
          show _ = eh_bc (eh_cv cu cl fu fl ln sh) k + (if eh_isb (eh_cv cu cl fu fl ln sh) k then 1 else 0)
          rw [hib]
          show _ = _ + (0 : Int)
          omega
        have hp9 : (eh_cv cu cl fu fl ln sh) k = (if k + 1 = 0 then 0 else (eh_cv cu cl fu fl ln sh) (k + 1 - 1)) := by rw [if_neg (by omega), Nat.add_sub_cancel]
        have hl : lv_has ls 7 [(4, .int (eI (((k : Nat) : Int) + 1))), (3, .int (eI ((eh_cv cu cl fu fl ln sh) k))), (2, .int (eI (eh_bc (eh_cv cu cl fu fl ln sh) k))), (0, .ref (md 0)), (1, .int (eI y))] := lv_sub hl [0, 1, 2, 5, 6] rfl
        rw [hb9] at hl
        exact ih (k + 1) up5 lw5 H locs ls (by omega) (by omega) (eh_first_s hfi hpp) (by rw [← hp9]; exact hl) hP hD hS
  exact loop n 0 up lw H locs ls (by omega) (by omega) rfl (lv_sub hl [0, 1, 2, 3, 4] rfl) hP hD hS
